abbrev cw_X8_then (cI cC : ClassId) (h h_world h_world_court h_world_court_places h_world_court_creams h_pad h_pad_signs h_hearing h_hearing_court h_hearing_court_places h_hearing_court_creams : Nat) (g_images g_bowls g_guesses g_world_town g_world_sights : Value) (f_world_court_places : Nat → Int32) (f_world_court_creams : Nat → Int32) (f_world_court_present : Int32) (f_world_court_lying : Int32) (f_world_court_his : Int32) (f_world_court_power : Int32) (f_world_court_spite : Int32) (f_world_court_hour : Int32) (f_pad_signs : Nat → Int32) (f_pad_count : Int32) (f_hearing_court_places : Nat → Int32) (f_hearing_court_creams : Nat → Int32) (f_hearing_court_present : Int32) (f_hearing_court_lying : Int32) (f_hearing_court_his : Int32) (f_hearing_court_power : Int32) (f_hearing_court_spite : Int32) (f_hearing_court_hour : Int32) (f_hearing_acts : Int32) (f_hearing_reason : Int32) (f_hearing_firstOffAct : Int32) (f_hearing_firstOffWitness : Int32) : va_W := [(h, .inr (8, [.ref h_world, g_images, .ref h_pad, .ref h_hearing, g_bowls, g_guesses])), (h_world, .inr (7, [.ref h_world_court, g_world_town, g_world_sights])), (h_world_court, .inr (1, [.ref h_world_court_places, .ref h_world_court_creams, .int f_world_court_present, .int f_world_court_lying, .int f_world_court_his, .int f_world_court_power, .int f_world_court_spite, .int f_world_court_hour])), (h_world_court_places, .inl (cI, 8, .inl f_world_court_places)), (h_world_court_creams, .inl (cI, 8, .inl f_world_court_creams)), (h_pad, .inr (4, [.ref h_pad_signs, .int f_pad_count])), (h_pad_signs, .inl (cC, 60, .inl f_pad_signs)), (h_hearing, .inr (3, [.ref h_hearing_court, .int f_hearing_acts, .int f_hearing_reason, .int f_hearing_firstOffAct, .int f_hearing_firstOffWitness])), (h_hearing_court, .inr (1, [.ref h_hearing_court_places, .ref h_hearing_court_creams, .int f_hearing_court_present, .int f_hearing_court_lying, .int f_hearing_court_his, .int f_hearing_court_power, .int f_hearing_court_spite, .int f_hearing_court_hour])), (h_hearing_court_places, .inl (cI, 8, .inl f_hearing_court_places)), (h_hearing_court_creams, .inl (cI, 8, .inl f_hearing_court_creams))]
abbrev q_X8_then (D : va_G) (cI cC : ClassId) (h h_world h_world_court h_world_court_places h_world_court_creams h_pad h_pad_signs h_hearing h_hearing_court h_hearing_court_places h_hearing_court_creams : Nat) (g_images g_bowls g_guesses g_world_town g_world_sights : Value) (post : Int32 → (Nat → Int32) → (Nat → Int32) → Int32 → Int32 → Int32 → Int32 → Int32 → Int32 → Int32 → Int32 → Int32 → Int32 → Prop) (f_world_court_places : Nat → Int32) (f_world_court_creams : Nat → Int32) (f_world_court_present : Int32) (f_world_court_lying : Int32) (f_world_court_his : Int32) (f_world_court_power : Int32) (f_world_court_spite : Int32) (f_world_court_hour : Int32) (f_pad_signs : Nat → Int32) (f_pad_count : Int32) (A : Nat → Prop) : Array Value → State → Outcome → State → Prop := va_Qi (S := (Nat → Int32) × (Nat → Int32) × Int32 × Int32 × Int32 × Int32 × Int32 × Int32 × Int32 × Int32 × Int32 × Int32) (fun r u => post r u.1 u.2.1 u.2.2.1 u.2.2.2.1 u.2.2.2.2.1 u.2.2.2.2.2.1 u.2.2.2.2.2.2.1 u.2.2.2.2.2.2.2.1 u.2.2.2.2.2.2.2.2.1 u.2.2.2.2.2.2.2.2.2.1 u.2.2.2.2.2.2.2.2.2.2.1 u.2.2.2.2.2.2.2.2.2.2.2) (fun u t => va_P D vwCl (cw_X8_then cI cC h h_world h_world_court h_world_court_places h_world_court_creams h_pad h_pad_signs h_hearing h_hearing_court h_hearing_court_places h_hearing_court_creams g_images g_bowls g_guesses g_world_town g_world_sights f_world_court_places f_world_court_creams f_world_court_present f_world_court_lying f_world_court_his f_world_court_power f_world_court_spite f_world_court_hour f_pad_signs f_pad_count u.1 u.2.1 u.2.2.1 u.2.2.2.1 u.2.2.2.2.1 u.2.2.2.2.2.1 u.2.2.2.2.2.2.1 u.2.2.2.2.2.2.2.1 u.2.2.2.2.2.2.2.2.1 u.2.2.2.2.2.2.2.2.2.1 u.2.2.2.2.2.2.2.2.2.2.1 u.2.2.2.2.2.2.2.2.2.2.2) t.heap) A
abbrev v_X8_then : List Cond := .code yX8_then cX8_then 4 (some .int) :: zB
theorem hd_X8_then : yX8_then.cls = RX8 ∧ yX8_then.cls ≠ "java/lang/invoke/MethodHandle" ∧ yX8_then.cls ≠ "java/lang/invoke/VarHandle" ∧ (parseMethodDescriptor yX8_then.desc).map (fun d => d.parameters.length) = some 1 := by decide +kernel
set_option maxHeartbeats 4000000 in
set_option maxRecDepth 100000 in
theorem c_X8_then (l : Launch) (D : va_G) (cI cC cZ : ClassId) (h h_world h_world_court h_world_court_places h_world_court_creams h_pad h_pad_signs h_hearing h_hearing_court h_hearing_court_places h_hearing_court_creams : Nat) (g_images g_bowls g_guesses g_world_town g_world_sights : Value) (f_world_court_places : Nat → Int32) (f_world_court_creams : Nat → Int32) (f_world_court_present : Int32) (f_world_court_lying : Int32) (f_world_court_his : Int32) (f_world_court_power : Int32) (f_world_court_spite : Int32) (f_world_court_hour : Int32) (f_pad_signs : Nat → Int32) (f_pad_count : Int32) (f_hearing_court_places : Nat → Int32) (f_hearing_court_creams : Nat → Int32) (f_hearing_court_present : Int32) (f_hearing_court_lying : Int32) (f_hearing_court_his : Int32) (f_hearing_court_power : Int32) (f_hearing_court_spite : Int32) (f_hearing_court_hour : Int32) (f_hearing_acts : Int32) (f_hearing_reason : Int32) (f_hearing_firstOffAct : Int32) (f_hearing_firstOffWitness : Int32) (p1 : Int32) (sz : Nat) (post : Int32 → (Nat → Int32) → (Nat → Int32) → Int32 → Int32 → Int32 → Int32 → Int32 → Int32 → Int32 → Int32 → Int32 → Int32 → Prop) (hw : w_X8_then post f_world_court_places f_world_court_creams f_world_court_present f_world_court_lying f_world_court_his f_world_court_power f_world_court_spite f_world_court_hour f_pad_signs f_pad_count f_hearing_court_places f_hearing_court_creams f_hearing_court_present f_hearing_court_lying f_hearing_court_his f_hearing_court_power f_hearing_court_spite f_hearing_court_hour f_hearing_acts f_hearing_reason f_hearing_firstOffAct f_hearing_firstOffWitness p1) : Met l yX8_then v_X8_then ({ frames := 7, cells := 0, slots := 0, locals := 161 } : Room) (va_Pc [.ref h, .int p1] (zPre D (zT cI cC cZ) sz (cw_X8_then cI cC h h_world h_world_court h_world_court_places h_world_court_creams h_pad h_pad_signs h_hearing h_hearing_court h_hearing_court_places h_hearing_court_creams g_images g_bowls g_guesses g_world_town g_world_sights f_world_court_places f_world_court_creams f_world_court_present f_world_court_lying f_world_court_his f_world_court_power f_world_court_spite f_world_court_hour f_pad_signs f_pad_count f_hearing_court_places f_hearing_court_creams f_hearing_court_present f_hearing_court_lying f_hearing_court_his f_hearing_court_power f_hearing_court_spite f_hearing_court_hour f_hearing_acts f_hearing_reason f_hearing_firstOffAct f_hearing_firstOffWitness))) (q_X8_then D cI cC h h_world h_world_court h_world_court_places h_world_court_creams h_pad h_pad_signs h_hearing h_hearing_court h_hearing_court_places h_hearing_court_creams g_images g_bowls g_guesses g_world_town g_world_sights post f_world_court_places f_world_court_creams f_world_court_present f_world_court_lying f_world_court_his f_world_court_power f_world_court_spite f_world_court_hour f_pad_signs f_pad_count (va_A (cw_X8_then cI cC h h_world h_world_court h_world_court_places h_world_court_creams h_pad h_pad_signs h_hearing h_hearing_court h_hearing_court_places h_hearing_court_creams g_images g_bowls g_guesses g_world_town g_world_sights f_world_court_places f_world_court_creams f_world_court_present f_world_court_lying f_world_court_his f_world_court_power f_world_court_spite f_world_court_hour f_pad_signs f_pad_count f_hearing_court_places f_hearing_court_creams f_hearing_court_present f_hearing_court_lying f_hearing_court_his f_hearing_court_power f_hearing_court_spite f_hearing_court_hour f_hearing_acts f_hearing_reason f_hearing_firstOffAct f_hearing_firstOffWitness) sz)) 0 0 (va_A (cw_X8_then cI cC h h_world h_world_court h_world_court_places h_world_court_creams h_pad h_pad_signs h_hearing h_hearing_court h_hearing_court_places h_hearing_court_creams g_images g_bowls g_guesses g_world_town g_world_sights f_world_court_places f_world_court_creams f_world_court_present f_world_court_lying f_world_court_his f_world_court_power f_world_court_spite f_world_court_hour f_pad_signs f_pad_count f_hearing_court_places f_hearing_court_creams f_hearing_court_present f_hearing_court_lying f_hearing_court_his f_hearing_court_power f_hearing_court_spite f_hearing_court_hour f_hearing_acts f_hearing_reason f_hearing_firstOffAct f_hearing_firstOffWitness) sz) := by
  refine Met.ofW (cc := cX8_then) (maxL := 4) (ret := (some .int)) (by decide) rfl ?_
  intro p e s m args below meth c s₁ B hml hv
  obtain ⟨rfl, hsz, hP, hK, hD0⟩ := hv
  subst hsz
  have hx := B.exec
  have hb := B.bytes
  have hr := B.returns
  have hz : ∀ w ∈ zB, w.before _ s = true := fun w h => atoms_spec (ws := v_X8_then) B.pre w (List.mem_cons_of_mem _ h)
  have hown : s.vm.findClass RX8 = some m.cls := findClass_of_methodNamed B.named
  have hlocks := B.notSynchronized
  have hF : CallFix p m c cX8_then 4 s (([.ref h, .int p1] : List Value).toArray) zB RX8 := ⟨hx, hb, hml, hown, hz⟩
  have hD := hD0.self (sz := s.heap.size)
  generalize hAe : va_A (cw_X8_then cI cC h h_world h_world_court h_world_court_places h_world_court_creams h_pad h_pad_signs h_hearing h_hearing_court h_hearing_court_places h_hearing_court_creams g_images g_bowls g_guesses g_world_town g_world_sights f_world_court_places f_world_court_creams f_world_court_present f_world_court_lying f_world_court_his f_world_court_power f_world_court_spite f_world_court_hour f_pad_signs f_pad_count f_hearing_court_places f_hearing_court_creams f_hearing_court_present f_hearing_court_lying f_hearing_court_his f_hearing_court_power f_hearing_court_spite f_hearing_court_hour f_hearing_acts f_hearing_reason f_hearing_firstOffAct f_hearing_firstOffWitness) s.heap.size = A at hD ⊢
  have hA : ∀ q : Nat, s.heap.size ≤ q → A q := fun q h => by rw [← hAe]; exact Or.inr h
  have hS : va_S A s.heap s.heap [] := va_S.rf
  have hP : va_P D vwCl (cw_X8_then cI cC h h_world h_world_court h_world_court_places h_world_court_creams h_pad h_pad_signs h_hearing h_hearing_court h_hearing_court_places h_hearing_court_creams g_images g_bowls g_guesses g_world_town g_world_sights f_world_court_places f_world_court_creams f_world_court_present f_world_court_lying f_world_court_his f_world_court_power f_world_court_spite f_world_court_hour f_pad_signs f_pad_count f_hearing_court_places f_hearing_court_creams f_hearing_court_present f_hearing_court_lying f_hearing_court_his f_hearing_court_power f_hearing_court_spite f_hearing_court_hour f_hearing_acts f_hearing_reason f_hearing_firstOffAct f_hearing_firstOffWitness) s.heap := hP
  have hl := lv_entry ([.ref h, .int p1]) (n := 4) (Nat.le_of_ble_eq_true rfl)
  rw [lg_entry_eq]
  generalize (lg_sl ([.ref h, .int p1]) ++ List.replicate (4 - (lg_sl ([.ref h, .int p1])).length) Slot.unset).toArray = ls at hl ⊢
  have hl : lv_has ls 4 [(0, .ref h), (1, .int p1)] := hl
  unfold w_X8_then at hw
  refine lv_iload_n hx hb dX8_then_0 rfl (lv_at hl 1 rfl) ?_
  refine lv_iconst (v := (0 : Int32)) hx hb dX8_then_1 (by decide) ?_
  refine lv_bipush (v := (6 : Int32)) hx hb dX8_then_2 (by decide) ?_
  refine z_ri (z_runS (As := [.int p1, .int (0 : Int32), .int (6 : Int32)]) (rest := []) hF (c_X8_within l D cI cC cZ p1 (0 : Int32) (6 : Int32) _ _ hw) (va_cwS 3 hz (z_gS z1_212 z1_213 z1_1 z1_214) rfl rfl rfl hd_X8_within ⟨Nat.le_of_ble_eq_true rfl, Nat.le_of_ble_eq_true rfl⟩) hK hP hD [] rfl rfl rfl hl.1 rfl (Nat.le_of_ble_eq_true rfl) dX8_then_4 ⟨Nat.zero_le _, Nat.zero_le _⟩) hP hD hS hA [] rfl (fun _ => rfl) (fun _ => cw_X8_then cI cC h h_world h_world_court h_world_court_places h_world_court_creams h_pad h_pad_signs h_hearing h_hearing_court h_hearing_court_places h_hearing_court_creams g_images g_bowls g_guesses g_world_town g_world_sights f_world_court_places f_world_court_creams f_world_court_present f_world_court_lying f_world_court_his f_world_court_power f_world_court_spite f_world_court_hour f_pad_signs f_pad_count f_hearing_court_places f_hearing_court_creams f_hearing_court_present f_hearing_court_lying f_hearing_court_his f_hearing_court_power f_hearing_court_spite f_hearing_court_hour f_hearing_acts f_hearing_reason f_hearing_firstOffAct f_hearing_firstOffWitness) (fun _ => rfl) (fun r4 u4 H locs hw hP hD hS => ?_)
  obtain ⟨hn4, hw⟩ := hw
  try dsimp only at hw
  refine lv_if_ne (tgt := 13) hx hb dX8_then_7 (by decide) (fun c7 => ?_) (fun c7 => ?_)
  · have hw := hw.2 c7
    refine lv_aload_n hx hb dX8_then_13 rfl (lv_at hl 0 rfl) ?_
    refine va_get (D := D) (ci := 8) (v := .ref h_hearing) (C := RX8) (T := TX8) (N := 6) hx hb hz hX_X8 hown hK.1 hP 0 rfl rfl 3 (by decide) (hz _ z1_186) (fun _ h9 => h9) rfl dX8_then_14 ?_
    refine lv_aload_n hx hb dX8_then_17 rfl (lv_at hl 0 rfl) ?_
    refine va_get (D := D) (ci := 8) (v := .ref h_world) (C := RX8) (T := TX8) (N := 6) hx hb hz hX_X8 hown hK.1 hP 0 rfl rfl 0 (by decide) (hz _ z1_183) (fun _ h9 => h9) rfl dX8_then_18 ?_
    refine va_getN (D := D) (ci := 7) (v := .ref h_world_court) (C := RX7) (T := TX7) (N := 3) hx hb hz hX_X7 hown hK.1 hP 1 rfl rfl 0 (by decide) (va_Nw.use rfl (hK.2.1 _ (List.mem_of_getElem? (i := 7) rfl))) (fun _ h9 => h9) rfl dX8_then_21 ?_
    refine lv_aload_n hx hb dX8_then_24 rfl (lv_at hl 0 rfl) ?_
    refine va_get (D := D) (ci := 8) (v := .ref h_pad) (C := RX8) (T := TX8) (N := 6) hx hb hz hX_X8 hown hK.1 hP 0 rfl rfl 2 (by decide) (hz _ z1_185) (fun _ h9 => h9) rfl dX8_then_25 ?_
    refine z_rv (z_runV (As := [.ref h_world_court, .ref h_pad]) (rest := []) hF (c_X3_hear l D cI cC cZ h_hearing h_hearing_court h_hearing_court_places h_hearing_court_creams h_world_court h_world_court_places h_world_court_creams h_pad h_pad_signs f_hearing_court_places f_hearing_court_creams f_hearing_court_present f_hearing_court_lying f_hearing_court_his f_hearing_court_power f_hearing_court_spite f_hearing_court_hour f_hearing_acts f_hearing_reason f_hearing_firstOffAct f_hearing_firstOffWitness f_world_court_places f_world_court_creams f_world_court_present f_world_court_lying f_world_court_his f_world_court_power f_world_court_spite f_world_court_hour f_pad_signs f_pad_count _ _ hw) (cwV 2 hz (z_gV z2_57 z2_58 z2_59 z1_7 z2_60) rfl rfl rfl hd_X3_hear ⟨Nat.le_of_ble_eq_true rfl, Nat.le_of_ble_eq_true rfl⟩) hK hP hD [7, 8, 9, 10, 2, 3, 4, 5, 6] rfl rfl 7 3 rfl rfl rfl rfl hl.1 rfl (Nat.le_of_ble_eq_true rfl) dX8_then_28 ⟨Nat.zero_le _, Nat.zero_le _⟩) hP hD hS hA [7, 8, 9, 10, 2, 3, 4, 5, 6] rfl (fun _ => rfl) (fun u => cw_X8_then cI cC h h_world h_world_court h_world_court_places h_world_court_creams h_pad h_pad_signs h_hearing h_hearing_court h_hearing_court_places h_hearing_court_creams g_images g_bowls g_guesses g_world_town g_world_sights f_world_court_places f_world_court_creams f_world_court_present f_world_court_lying f_world_court_his f_world_court_power f_world_court_spite f_world_court_hour f_pad_signs f_pad_count u.1 u.2.1 u.2.2.1 u.2.2.2.1 u.2.2.2.2.1 u.2.2.2.2.2.1 u.2.2.2.2.2.2.1 u.2.2.2.2.2.2.2.1 u.2.2.2.2.2.2.2.2.1 u.2.2.2.2.2.2.2.2.2.1 u.2.2.2.2.2.2.2.2.2.2.1 u.2.2.2.2.2.2.2.2.2.2.2) (fun _ => rfl) (fun u28 H locs hw hP hD hS => ?_)
    obtain ⟨u28_0, u28_1, u28_2, u28_3, u28_4, u28_5, u28_6, u28_7, u28_8, u28_9, u28_10, u28_11⟩ := u28
    try dsimp only at hw
    have hP : va_P D vwCl (cw_X8_then cI cC h h_world h_world_court h_world_court_places h_world_court_creams h_pad h_pad_signs h_hearing h_hearing_court h_hearing_court_places h_hearing_court_creams g_images g_bowls g_guesses g_world_town g_world_sights f_world_court_places f_world_court_creams f_world_court_present f_world_court_lying f_world_court_his f_world_court_power f_world_court_spite f_world_court_hour f_pad_signs f_pad_count u28_0 u28_1 u28_2 u28_3 u28_4 u28_5 u28_6 u28_7 u28_8 u28_9 u28_10 u28_11) H := hP
    have hD : va_D A (cw_X8_then cI cC h h_world h_world_court h_world_court_places h_world_court_creams h_pad h_pad_signs h_hearing h_hearing_court h_hearing_court_places h_hearing_court_creams g_images g_bowls g_guesses g_world_town g_world_sights f_world_court_places f_world_court_creams f_world_court_present f_world_court_lying f_world_court_his f_world_court_power f_world_court_spite f_world_court_hour f_pad_signs f_pad_count u28_0 u28_1 u28_2 u28_3 u28_4 u28_5 u28_6 u28_7 u28_8 u28_9 u28_10 u28_11) := hD
    refine lv_aload_n hx hb dX8_then_31 rfl (lv_at hl 0 rfl) ?_
    refine va_get (D := D) (ci := 8) (v := .ref h_hearing) (C := RX8) (T := TX8) (N := 6) hx hb hz hX_X8 hown hK.1 hP 0 rfl rfl 3 (by decide) (hz _ z1_186) (fun _ h9 => h9) rfl dX8_then_32 ?_
    refine va_getN (D := D) (ci := 3) (v := .int u28_9) (C := RX3) (T := TX3) (N := 5) hx hb hz hX_X3 hown hK.1 hP 7 rfl rfl 2 (by decide) (va_Nw.use rfl (hK.2.1 _ (List.mem_of_getElem? (i := 14) rfl))) (fun _ h9 => h9) rfl dX8_then_35 ?_
    refine lv_if_eq (tgt := 44) hx hb dX8_then_38 (by decide) (fun c38 => ?_) (fun c38 => ?_)
    · have hw := hw.1 c38
      refine lv_aload_n hx hb dX8_then_44 rfl (lv_at hl 0 rfl) ?_
      refine va_get (D := D) (ci := 8) (v := .ref h_hearing) (C := RX8) (T := TX8) (N := 6) hx hb hz hX_X8 hown hK.1 hP 0 rfl rfl 3 (by decide) (hz _ z1_186) (fun _ h9 => h9) rfl dX8_then_45 ?_
      refine va_getN (D := D) (ci := 3) (v := .ref h_hearing_court) (C := RX3) (T := TX3) (N := 5) hx hb hz hX_X3 hown hK.1 hP 7 rfl rfl 0 (by decide) (va_Nw.use rfl (hK.2.1 _ (List.mem_of_getElem? (i := 12) rfl))) (fun _ h9 => h9) rfl dX8_then_48 ?_
      refine lv_astore_n (lv' := [(2, .ref h_hearing_court), (0, .ref h), (1, .int p1)]) hx hb dX8_then_51 rfl hl (by decide) rfl (fun ls hl => ?_)
      refine lv_aload_n hx hb dX8_then_52 rfl (lv_at hl 0 rfl) ?_
      refine z_ri (z_runV (As := []) (rest := []) hF (c_X1_offOnes l D cI cC cZ h_hearing_court h_hearing_court_creams (.ref h_hearing_court_places) (.int u28_3) (.int u28_4) (.int u28_5) (.int u28_6) (.int u28_7) u28_1 u28_2 _ _ hw) (cwV 0 hz (z_gV z2_171 z2_110 z2_111 z1_3 z2_112) rfl rfl rfl hd_X1_offOnes ⟨Nat.le_of_ble_eq_true rfl, Nat.le_of_ble_eq_true rfl⟩) hK hP hD [8, 10] rfl rfl 8 1 rfl rfl rfl rfl hl.1 rfl (Nat.le_of_ble_eq_true rfl) dX8_then_53 ⟨Nat.zero_le _, Nat.zero_le _⟩) hP hD hS hA [8, 10] rfl (fun _ => rfl) (fun _ => cw_X8_then cI cC h h_world h_world_court h_world_court_places h_world_court_creams h_pad h_pad_signs h_hearing h_hearing_court h_hearing_court_places h_hearing_court_creams g_images g_bowls g_guesses g_world_town g_world_sights f_world_court_places f_world_court_creams f_world_court_present f_world_court_lying f_world_court_his f_world_court_power f_world_court_spite f_world_court_hour f_pad_signs f_pad_count u28_0 u28_1 u28_2 u28_3 u28_4 u28_5 u28_6 u28_7 u28_8 u28_9 u28_10 u28_11) (fun _ => rfl) (fun r53 u53 H locs hw hP hD hS => ?_)
      try dsimp only at hw
      refine lv_istore_n (lv' := [(3, .int r53), (2, .ref h_hearing_court), (0, .ref h), (1, .int p1)]) hx hb dX8_then_56 rfl hl (by decide) rfl (fun ls hl => ?_)
      refine lv_iload_n hx hb dX8_then_57 rfl (lv_at hl 3 rfl) ?_
      by_cases c58_0 : p1 = (0 : Int32)
      · have hw := hw.1 c58_0
        refine lv_tableIn (off := 38) (tgt := 96) hx hb dX8_then_58 (by rw [c58_0]; decide) (by rw [c58_0]; decide) (by rw [c58_0]; rfl) (by decide) ?_
        refine lv_iload_n hx hb dX8_then_96 rfl (lv_at hl 0 rfl) ?_
        exact z_iret hx hb hr hlocks (u28_0, u28_1, u28_2, u28_3, u28_4, u28_5, u28_6, u28_7, u28_8, u28_9, u28_10, u28_11) hw hP hS dX8_then_97
      have hw := hw.2 c58_0
      have i58_0 : p1.toInt ≠ 0 := fun h => c58_0 (Int32.toInt_inj.mp (h.trans (by decide)))
      by_cases c58_1 : p1 = (1 : Int32)
      · have hw := hw.1 c58_1
        refine lv_tableIn (off := 40) (tgt := 98) hx hb dX8_then_58 (by rw [c58_1]; decide) (by rw [c58_1]; decide) (by rw [c58_1]; rfl) (by decide) ?_
        refine lv_aload_n hx hb dX8_then_98 rfl (lv_at hl 1 rfl) ?_
        refine z_ri (z_runV (As := []) (rest := []) hF (c_X1_liars l D cI cC cZ h_hearing_court (.ref h_hearing_court_places) (.ref h_hearing_court_creams) (.int u28_4) (.int u28_5) (.int u28_6) (.int u28_7) u28_2 u28_3 _ _ hw) (cwV 0 hz (z_gV z2_172 z2_173 z2_174 z1_3 z2_175) rfl rfl rfl hd_X1_liars ⟨Nat.le_of_ble_eq_true rfl, Nat.le_of_ble_eq_true rfl⟩) hK hP hD [8] rfl rfl 8 1 rfl rfl rfl rfl hl.1 rfl (Nat.le_of_ble_eq_true rfl) dX8_then_99 ⟨Nat.zero_le _, Nat.zero_le _⟩) hP hD hS hA [8] rfl (fun _ => rfl) (fun _ => cw_X8_then cI cC h h_world h_world_court h_world_court_places h_world_court_creams h_pad h_pad_signs h_hearing h_hearing_court h_hearing_court_places h_hearing_court_creams g_images g_bowls g_guesses g_world_town g_world_sights f_world_court_places f_world_court_creams f_world_court_present f_world_court_lying f_world_court_his f_world_court_power f_world_court_spite f_world_court_hour f_pad_signs f_pad_count u28_0 u28_1 u28_2 u28_3 u28_4 u28_5 u28_6 u28_7 u28_8 u28_9 u28_10 u28_11) (fun _ => rfl) (fun r99 u99 H locs hw hP hD hS => ?_)
        try dsimp only at hw
        refine lv_iload_n hx hb dX8_then_102 rfl (lv_at hl 0 rfl) ?_
        refine lv_iconst (v := (-1 : Int32)) hx hb dX8_then_103 (by decide) ?_
        refine lv_ixor hx hb dX8_then_104 ?_
        refine lv_iand hx hb dX8_then_105 ?_
        refine z_ri (z_runS (As := [.int (r99 &&& (r53 ^^^ (-1 : Int32)))]) (rest := []) hF (c_J6_bitCount_0f7a4 l D cI cC cZ (r99 &&& (r53 ^^^ (-1 : Int32))) _ _ hw) (va_cwS 1 hz (z_gS z1_220 z1_221 z1_11 z1_222) rfl rfl rfl hd_J6_bitCount_0f7a4 ⟨Nat.le_of_ble_eq_true rfl, Nat.le_of_ble_eq_true rfl⟩) hK hP hD [] rfl rfl rfl hl.1 rfl (Nat.le_of_ble_eq_true rfl) dX8_then_106 ⟨Nat.zero_le _, Nat.zero_le _⟩) hP hD hS hA [] rfl (fun _ => rfl) (fun _ => cw_X8_then cI cC h h_world h_world_court h_world_court_places h_world_court_creams h_pad h_pad_signs h_hearing h_hearing_court h_hearing_court_places h_hearing_court_creams g_images g_bowls g_guesses g_world_town g_world_sights f_world_court_places f_world_court_creams f_world_court_present f_world_court_lying f_world_court_his f_world_court_power f_world_court_spite f_world_court_hour f_pad_signs f_pad_count u28_0 u28_1 u28_2 u28_3 u28_4 u28_5 u28_6 u28_7 u28_8 u28_9 u28_10 u28_11) (fun _ => rfl) (fun r106 u106 H locs hw hP hD hS => ?_)
        try dsimp only at hw
        exact z_iret hx hb hr hlocks (u28_0, u28_1, u28_2, u28_3, u28_4, u28_5, u28_6, u28_7, u28_8, u28_9, u28_10, u28_11) hw hP hS dX8_then_109
      have hw := hw.2 c58_1
      have i58_1 : p1.toInt ≠ 1 := fun h => c58_1 (Int32.toInt_inj.mp (h.trans (by decide)))
      by_cases c58_2 : p1 = (2 : Int32)
      · have hw := hw.1 c58_2
        refine lv_tableIn (off := 52) (tgt := 110) hx hb dX8_then_58 (by rw [c58_2]; decide) (by rw [c58_2]; decide) (by rw [c58_2]; rfl) (by decide) ?_
        refine lv_iload_n hx hb dX8_then_110 rfl (lv_at hl 0 rfl) ?_
        refine lv_aload_n hx hb dX8_then_111 rfl (lv_at hl 1 rfl) ?_
        refine z_ri (z_runV (As := []) (rest := [.int r53]) hF (c_X1_liars l D cI cC cZ h_hearing_court (.ref h_hearing_court_places) (.ref h_hearing_court_creams) (.int u28_4) (.int u28_5) (.int u28_6) (.int u28_7) u28_2 u28_3 _ _ hw) (cwV 0 hz (z_gV z2_172 z2_173 z2_174 z1_3 z2_175) rfl rfl rfl hd_X1_liars ⟨Nat.le_of_ble_eq_true rfl, Nat.le_of_ble_eq_true rfl⟩) hK hP hD [8] rfl rfl 8 1 rfl rfl rfl rfl hl.1 rfl (Nat.le_of_ble_eq_true rfl) dX8_then_112 ⟨Nat.zero_le _, Nat.zero_le _⟩) hP hD hS hA [8] rfl (fun _ => rfl) (fun _ => cw_X8_then cI cC h h_world h_world_court h_world_court_places h_world_court_creams h_pad h_pad_signs h_hearing h_hearing_court h_hearing_court_places h_hearing_court_creams g_images g_bowls g_guesses g_world_town g_world_sights f_world_court_places f_world_court_creams f_world_court_present f_world_court_lying f_world_court_his f_world_court_power f_world_court_spite f_world_court_hour f_pad_signs f_pad_count u28_0 u28_1 u28_2 u28_3 u28_4 u28_5 u28_6 u28_7 u28_8 u28_9 u28_10 u28_11) (fun _ => rfl) (fun r112 u112 H locs hw hP hD hS => ?_)
        try dsimp only at hw
        refine lv_iconst (v := (-1 : Int32)) hx hb dX8_then_115 (by decide) ?_
        refine lv_ixor hx hb dX8_then_116 ?_
        refine lv_iand hx hb dX8_then_117 ?_
        refine z_ri (z_runS (As := [.int (r53 &&& (r112 ^^^ (-1 : Int32)))]) (rest := []) hF (c_J6_bitCount_0f7a4 l D cI cC cZ (r53 &&& (r112 ^^^ (-1 : Int32))) _ _ hw) (va_cwS 1 hz (z_gS z1_220 z1_221 z1_11 z1_222) rfl rfl rfl hd_J6_bitCount_0f7a4 ⟨Nat.le_of_ble_eq_true rfl, Nat.le_of_ble_eq_true rfl⟩) hK hP hD [] rfl rfl rfl hl.1 rfl (Nat.le_of_ble_eq_true rfl) dX8_then_118 ⟨Nat.zero_le _, Nat.zero_le _⟩) hP hD hS hA [] rfl (fun _ => rfl) (fun _ => cw_X8_then cI cC h h_world h_world_court h_world_court_places h_world_court_creams h_pad h_pad_signs h_hearing h_hearing_court h_hearing_court_places h_hearing_court_creams g_images g_bowls g_guesses g_world_town g_world_sights f_world_court_places f_world_court_creams f_world_court_present f_world_court_lying f_world_court_his f_world_court_power f_world_court_spite f_world_court_hour f_pad_signs f_pad_count u28_0 u28_1 u28_2 u28_3 u28_4 u28_5 u28_6 u28_7 u28_8 u28_9 u28_10 u28_11) (fun _ => rfl) (fun r118 u118 H locs hw hP hD hS => ?_)
        try dsimp only at hw
        exact z_iret hx hb hr hlocks (u28_0, u28_1, u28_2, u28_3, u28_4, u28_5, u28_6, u28_7, u28_8, u28_9, u28_10, u28_11) hw hP hS dX8_then_121
      have hw := hw.2 c58_2
      have i58_2 : p1.toInt ≠ 2 := fun h => c58_2 (Int32.toInt_inj.mp (h.trans (by decide)))
      by_cases c58_3 : p1 = (3 : Int32)
      · have hw := hw.1 c58_3
        refine lv_tableIn (off := 64) (tgt := 122) hx hb dX8_then_58 (by rw [c58_3]; decide) (by rw [c58_3]; decide) (by rw [c58_3]; rfl) (by decide) ?_
        refine lv_aload_n hx hb dX8_then_122 rfl (lv_at hl 1 rfl) ?_
        refine va_getN (D := D) (ci := 1) (v := .int u28_4) (C := RX1) (T := TX1) (N := 8) hx hb hz hX_X1 hown hK.1 hP 8 rfl rfl 4 (by decide) (va_Nw.use rfl (hK.2.1 _ (List.mem_of_getElem? (i := 1) rfl))) (fun _ h9 => h9) rfl dX8_then_123 ?_
        exact z_iret hx hb hr hlocks (u28_0, u28_1, u28_2, u28_3, u28_4, u28_5, u28_6, u28_7, u28_8, u28_9, u28_10, u28_11) hw hP hS dX8_then_126
      have hw := hw.2 c58_3
      have i58_3 : p1.toInt ≠ 3 := fun h => c58_3 (Int32.toInt_inj.mp (h.trans (by decide)))
      by_cases c58_4 : p1 = (4 : Int32)
      · have hw := hw.1 c58_4
        refine lv_tableIn (off := 69) (tgt := 127) hx hb dX8_then_58 (by rw [c58_4]; decide) (by rw [c58_4]; decide) (by rw [c58_4]; rfl) (by decide) ?_
        refine lv_aload_n hx hb dX8_then_127 rfl (lv_at hl 1 rfl) ?_
        refine va_getN (D := D) (ci := 1) (v := .int u28_7) (C := RX1) (T := TX1) (N := 8) hx hb hz hX_X1 hown hK.1 hP 8 rfl rfl 7 (by decide) (va_Nw.use rfl (hK.2.1 _ (List.mem_of_getElem? (i := 4) rfl))) (fun _ h9 => h9) rfl dX8_then_128 ?_
        exact z_iret hx hb hr hlocks (u28_0, u28_1, u28_2, u28_3, u28_4, u28_5, u28_6, u28_7, u28_8, u28_9, u28_10, u28_11) hw hP hS dX8_then_131
      have hw := hw.2 c58_4
      have i58_4 : p1.toInt ≠ 4 := fun h => c58_4 (Int32.toInt_inj.mp (h.trans (by decide)))
      by_cases c58_5 : p1 = (5 : Int32)
      · have hw := hw.1 c58_5
        refine lv_tableIn (off := 74) (tgt := 132) hx hb dX8_then_58 (by rw [c58_5]; decide) (by rw [c58_5]; decide) (by rw [c58_5]; rfl) (by decide) ?_
        refine lv_aload_n hx hb dX8_then_132 rfl (lv_at hl 2 rfl) ?_
        refine va_get (D := D) (ci := 8) (v := .ref h_hearing) (C := RX8) (T := TX8) (N := 6) hx hb hz hX_X8 hown hK.1 hP 0 rfl rfl 3 (by decide) (hz _ z1_186) (fun _ h9 => h9) rfl dX8_then_133 ?_
        refine va_getN (D := D) (ci := 3) (v := .int u28_10) (C := RX3) (T := TX3) (N := 5) hx hb hz hX_X3 hown hK.1 hP 7 rfl rfl 3 (by decide) (va_Nw.use rfl (hK.2.1 _ (List.mem_of_getElem? (i := 15) rfl))) (fun _ h9 => h9) rfl dX8_then_136 ?_
        exact z_iret hx hb hr hlocks (u28_0, u28_1, u28_2, u28_3, u28_4, u28_5, u28_6, u28_7, u28_8, u28_9, u28_10, u28_11) hw hP hS dX8_then_139
      have hw := hw.2 c58_5
      have i58_5 : p1.toInt ≠ 5 := fun h => c58_5 (Int32.toInt_inj.mp (h.trans (by decide)))
      refine lv_tableOut (tgt := 140) hx hb dX8_then_58 (by omega) (by decide) ?_
      refine lv_aload_n hx hb dX8_then_140 rfl (lv_at hl 2 rfl) ?_
      refine va_get (D := D) (ci := 8) (v := .ref h_hearing) (C := RX8) (T := TX8) (N := 6) hx hb hz hX_X8 hown hK.1 hP 0 rfl rfl 3 (by decide) (hz _ z1_186) (fun _ h9 => h9) rfl dX8_then_141 ?_
      refine va_getN (D := D) (ci := 3) (v := .int u28_11) (C := RX3) (T := TX3) (N := 5) hx hb hz hX_X3 hown hK.1 hP 7 rfl rfl 4 (by decide) (va_Nw.use rfl (hK.2.1 _ (List.mem_of_getElem? (i := 16) rfl))) (fun _ h9 => h9) rfl dX8_then_144 ?_
      exact z_iret hx hb hr hlocks (u28_0, u28_1, u28_2, u28_3, u28_4, u28_5, u28_6, u28_7, u28_8, u28_9, u28_10, u28_11) hw hP hS dX8_then_147
    have hw := hw.2 c38
    refine lv_bipush (v := (-5 : Int32)) hx hb dX8_then_41 (by decide) ?_
    exact z_iret hx hb hr hlocks (u28_0, u28_1, u28_2, u28_3, u28_4, u28_5, u28_6, u28_7, u28_8, u28_9, u28_10, u28_11) hw hP hS dX8_then_43
  have hw := hw.1 c7
  refine lv_bipush (v := (-2 : Int32)) hx hb dX8_then_10 (by decide) ?_
  exact z_iret hx hb hr hlocks (f_hearing_court_places, f_hearing_court_creams, f_hearing_court_present, f_hearing_court_lying, f_hearing_court_his, f_hearing_court_power, f_hearing_court_spite, f_hearing_court_hour, f_hearing_acts, f_hearing_reason, f_hearing_firstOffAct, f_hearing_firstOffWitness) hw hP hS dX8_then_12
abbrev cw_X8_lasts (cI : ClassId) (h h_world h_world_court h_world_court_places h_world_court_creams : Nat) (g_images g_pad g_hearing g_bowls g_guesses g_world_town g_world_sights g_world_court_hour : Value) (f_world_court_places : Nat → Int32) (f_world_court_creams : Nat → Int32) (f_world_court_present : Int32) (f_world_court_lying : Int32) (f_world_court_his : Int32) (f_world_court_power : Int32) (f_world_court_spite : Int32) : va_W := [(h, .inr (8, [.ref h_world, g_images, g_pad, g_hearing, g_bowls, g_guesses])), (h_world, .inr (7, [.ref h_world_court, g_world_town, g_world_sights])), (h_world_court, .inr (1, [.ref h_world_court_places, .ref h_world_court_creams, .int f_world_court_present, .int f_world_court_lying, .int f_world_court_his, .int f_world_court_power, .int f_world_court_spite, g_world_court_hour])), (h_world_court_places, .inl (cI, 8, .inl f_world_court_places)), (h_world_court_creams, .inl (cI, 8, .inl f_world_court_creams))]
abbrev q_X8_lasts (D : va_G) (cI : ClassId) (h h_world h_world_court h_world_court_places h_world_court_creams : Nat) (g_images g_pad g_hearing g_bowls g_guesses g_world_town g_world_sights g_world_court_hour : Value) (post : Int32 → Prop) (f_world_court_places : Nat → Int32) (f_world_court_creams : Nat → Int32) (f_world_court_present : Int32) (f_world_court_lying : Int32) (f_world_court_his : Int32) (f_world_court_power : Int32) (f_world_court_spite : Int32) (A : Nat → Prop) : Array Value → State → Outcome → State → Prop := va_Qi (S := Unit) (fun r _ => post r ) (fun _ t => va_P D vwCl (cw_X8_lasts cI h h_world h_world_court h_world_court_places h_world_court_creams g_images g_pad g_hearing g_bowls g_guesses g_world_town g_world_sights g_world_court_hour f_world_court_places f_world_court_creams f_world_court_present f_world_court_lying f_world_court_his f_world_court_power f_world_court_spite) t.heap) A
abbrev v_X8_lasts : List Cond := .code yX8_lasts cX8_lasts 5 (some .int) :: zB
theorem hd_X8_lasts : yX8_lasts.cls = RX8 ∧ yX8_lasts.cls ≠ "java/lang/invoke/MethodHandle" ∧ yX8_lasts.cls ≠ "java/lang/invoke/VarHandle" ∧ (parseMethodDescriptor yX8_lasts.desc).map (fun d => d.parameters.length) = some 1 := by decide +kernel
set_option maxHeartbeats 4000000 in
set_option maxRecDepth 100000 in
theorem c_X8_lasts (l : Launch) (D : va_G) (cI cC cZ : ClassId) (h h_world h_world_court h_world_court_places h_world_court_creams : Nat) (g_images g_pad g_hearing g_bowls g_guesses g_world_town g_world_sights g_world_court_hour : Value) (f_world_court_places : Nat → Int32) (f_world_court_creams : Nat → Int32) (f_world_court_present : Int32) (f_world_court_lying : Int32) (f_world_court_his : Int32) (f_world_court_power : Int32) (f_world_court_spite : Int32) (p1 : Int32) (sz : Nat) (post : Int32 → Prop) (hw : w_X8_lasts post f_world_court_places f_world_court_creams f_world_court_present f_world_court_lying f_world_court_his f_world_court_power f_world_court_spite p1) : Met l yX8_lasts v_X8_lasts ({ frames := 3, cells := 0, slots := 0, locals := 72 } : Room) (va_Pc [.ref h, .int p1] (zPre D (zT cI cC cZ) sz (cw_X8_lasts cI h h_world h_world_court h_world_court_places h_world_court_creams g_images g_pad g_hearing g_bowls g_guesses g_world_town g_world_sights g_world_court_hour f_world_court_places f_world_court_creams f_world_court_present f_world_court_lying f_world_court_his f_world_court_power f_world_court_spite))) (q_X8_lasts D cI h h_world h_world_court h_world_court_places h_world_court_creams g_images g_pad g_hearing g_bowls g_guesses g_world_town g_world_sights g_world_court_hour post f_world_court_places f_world_court_creams f_world_court_present f_world_court_lying f_world_court_his f_world_court_power f_world_court_spite (va_A (cw_X8_lasts cI h h_world h_world_court h_world_court_places h_world_court_creams g_images g_pad g_hearing g_bowls g_guesses g_world_town g_world_sights g_world_court_hour f_world_court_places f_world_court_creams f_world_court_present f_world_court_lying f_world_court_his f_world_court_power f_world_court_spite) sz)) 0 0 (va_A (cw_X8_lasts cI h h_world h_world_court h_world_court_places h_world_court_creams g_images g_pad g_hearing g_bowls g_guesses g_world_town g_world_sights g_world_court_hour f_world_court_places f_world_court_creams f_world_court_present f_world_court_lying f_world_court_his f_world_court_power f_world_court_spite) sz) := by
  refine Met.ofW (cc := cX8_lasts) (maxL := 5) (ret := (some .int)) (by decide) rfl ?_
  intro p e s m args below meth c s₁ B hml hv
  obtain ⟨rfl, hsz, hP, hK, hD0⟩ := hv
  subst hsz
  have hx := B.exec
  have hb := B.bytes
  have hr := B.returns
  have hz : ∀ w ∈ zB, w.before _ s = true := fun w h => atoms_spec (ws := v_X8_lasts) B.pre w (List.mem_cons_of_mem _ h)
  have hown : s.vm.findClass RX8 = some m.cls := findClass_of_methodNamed B.named
  have hlocks := B.notSynchronized
  have hF : CallFix p m c cX8_lasts 5 s (([.ref h, .int p1] : List Value).toArray) zB RX8 := ⟨hx, hb, hml, hown, hz⟩
  have hD := hD0.self (sz := s.heap.size)
  generalize hAe : va_A (cw_X8_lasts cI h h_world h_world_court h_world_court_places h_world_court_creams g_images g_pad g_hearing g_bowls g_guesses g_world_town g_world_sights g_world_court_hour f_world_court_places f_world_court_creams f_world_court_present f_world_court_lying f_world_court_his f_world_court_power f_world_court_spite) s.heap.size = A at hD ⊢
  have hA : ∀ q : Nat, s.heap.size ≤ q → A q := fun q h => by rw [← hAe]; exact Or.inr h
  have hS : va_S A s.heap s.heap [] := va_S.rf
  have hP : va_P D vwCl (cw_X8_lasts cI h h_world h_world_court h_world_court_places h_world_court_creams g_images g_pad g_hearing g_bowls g_guesses g_world_town g_world_sights g_world_court_hour f_world_court_places f_world_court_creams f_world_court_present f_world_court_lying f_world_court_his f_world_court_power f_world_court_spite) s.heap := hP
  have hl := lv_entry ([.ref h, .int p1]) (n := 5) (Nat.le_of_ble_eq_true rfl)
  rw [lg_entry_eq]
  generalize (lg_sl ([.ref h, .int p1]) ++ List.replicate (5 - (lg_sl ([.ref h, .int p1])).length) Slot.unset).toArray = ls at hl ⊢
  have hl : lv_has ls 5 [(0, .ref h), (1, .int p1)] := hl
  unfold w_X8_lasts at hw
  refine lv_aload_n hx hb dX8_lasts_0 rfl (lv_at hl 0 rfl) ?_
  refine va_get (D := D) (ci := 8) (v := .ref h_world) (C := RX8) (T := TX8) (N := 6) hx hb hz hX_X8 hown hK.1 hP 0 rfl rfl 0 (by decide) (hz _ z1_183) (fun _ h9 => h9) rfl dX8_lasts_1 ?_
  refine va_getN (D := D) (ci := 7) (v := .ref h_world_court) (C := RX7) (T := TX7) (N := 3) hx hb hz hX_X7 hown hK.1 hP 1 rfl rfl 0 (by decide) (va_Nw.use rfl (hK.2.1 _ (List.mem_of_getElem? (i := 7) rfl))) (fun _ h9 => h9) rfl dX8_lasts_4 ?_
  refine lv_astore_n (lv' := [(2, .ref h_world_court), (0, .ref h), (1, .int p1)]) hx hb dX8_lasts_7 rfl hl (by decide) rfl (fun ls hl => ?_)
  refine lv_aload_n hx hb dX8_lasts_8 rfl (lv_at hl 0 rfl) ?_
  refine lv_iload_n hx hb dX8_lasts_9 rfl (lv_at hl 2 rfl) ?_
  refine z_ri (z_runV (As := [.int p1]) (rest := []) hF (c_X1_has l D cI cC cZ h_world_court (.ref h_world_court_places) (.ref h_world_court_creams) (.int f_world_court_lying) (.int f_world_court_his) (.int f_world_court_power) (.int f_world_court_spite) g_world_court_hour f_world_court_present p1 _ _ hw) (cwV 1 hz (z_gV z2_161 z2_91 z2_92 z1_3 z2_93) rfl rfl rfl hd_X1_has ⟨Nat.le_of_ble_eq_true rfl, Nat.le_of_ble_eq_true rfl⟩) hK hP hD [2] rfl rfl 2 1 rfl rfl rfl rfl hl.1 rfl (Nat.le_of_ble_eq_true rfl) dX8_lasts_10 ⟨Nat.zero_le _, Nat.zero_le _⟩) hP hD hS hA [2] rfl (fun _ => rfl) (fun _ => cw_X8_lasts cI h h_world h_world_court h_world_court_places h_world_court_creams g_images g_pad g_hearing g_bowls g_guesses g_world_town g_world_sights g_world_court_hour f_world_court_places f_world_court_creams f_world_court_present f_world_court_lying f_world_court_his f_world_court_power f_world_court_spite) (fun _ => rfl) (fun r10 u10 H locs hw hP hD hS => ?_)
  obtain ⟨hn10, hw⟩ := hw
  try dsimp only at hw
  refine lv_if_ne (tgt := 18) hx hb dX8_lasts_13 (by decide) (fun c13 => ?_) (fun c13 => ?_)
  · have hw := hw.2 c13
    refine lv_aload_n hx hb dX8_lasts_18 rfl (lv_at hl 0 rfl) ?_
    refine lv_iload_n hx hb dX8_lasts_19 rfl (lv_at hl 2 rfl) ?_
    refine z_ri (z_runV (As := [.int p1]) (rest := []) hF (c_X1_creamOf l D cI cC cZ h_world_court h_world_court_creams (.ref h_world_court_places) (.int f_world_court_present) (.int f_world_court_lying) (.int f_world_court_his) (.int f_world_court_power) (.int f_world_court_spite) g_world_court_hour f_world_court_creams p1 _ _ hw) (cwV 1 hz (z_gV z2_162 z2_99 z2_100 z1_3 z2_101) rfl rfl rfl hd_X1_creamOf ⟨Nat.le_of_ble_eq_true rfl, Nat.le_of_ble_eq_true rfl⟩) hK hP hD [2, 4] rfl rfl 2 1 rfl rfl rfl rfl hl.1 rfl (Nat.le_of_ble_eq_true rfl) dX8_lasts_20 ⟨Nat.zero_le _, Nat.zero_le _⟩) hP hD hS hA [2, 4] rfl (fun _ => rfl) (fun _ => cw_X8_lasts cI h h_world h_world_court h_world_court_places h_world_court_creams g_images g_pad g_hearing g_bowls g_guesses g_world_town g_world_sights g_world_court_hour f_world_court_places f_world_court_creams f_world_court_present f_world_court_lying f_world_court_his f_world_court_power f_world_court_spite) (fun _ => rfl) (fun r20 u20 H locs hw hP hD hS => ?_)
    try dsimp only at hw
    refine lv_istore_n (lv' := [(3, .int r20), (2, .ref h_world_court), (0, .ref h), (1, .int p1)]) hx hb dX8_lasts_23 rfl hl (by decide) rfl (fun ls hl => ?_)
    refine lv_iload_n hx hb dX8_lasts_24 rfl (lv_at hl 0 rfl) ?_
    refine lv_if_ne (tgt := 30) hx hb dX8_lasts_25 (by decide) (fun c25 => ?_) (fun c25 => ?_)
    · have hw := hw.2 c25
      refine lv_aload_n hx hb dX8_lasts_30 rfl (lv_at hl 1 rfl) ?_
      refine lv_iload_n hx hb dX8_lasts_31 rfl (lv_at hl 3 rfl) ?_
      refine z_ri (z_runV (As := [.int p1]) (rest := []) hF (c_X1_lossInAnHour l D cI cC cZ h_world_court h_world_court_places (.ref h_world_court_creams) (.int f_world_court_present) g_world_court_hour f_world_court_places f_world_court_lying f_world_court_his f_world_court_power f_world_court_spite p1 _ _ hw) (cwV 1 hz (z_gV z2_180 z2_122 z2_123 z1_3 z2_124) rfl rfl rfl hd_X1_lossInAnHour ⟨Nat.le_of_ble_eq_true rfl, Nat.le_of_ble_eq_true rfl⟩) hK hP hD [2, 3] rfl rfl 2 1 rfl rfl rfl rfl hl.1 rfl (Nat.le_of_ble_eq_true rfl) dX8_lasts_32 ⟨Nat.zero_le _, Nat.zero_le _⟩) hP hD hS hA [2, 3] rfl (fun _ => rfl) (fun _ => cw_X8_lasts cI h h_world h_world_court h_world_court_places h_world_court_creams g_images g_pad g_hearing g_bowls g_guesses g_world_town g_world_sights g_world_court_hour f_world_court_places f_world_court_creams f_world_court_present f_world_court_lying f_world_court_his f_world_court_power f_world_court_spite) (fun _ => rfl) (fun r32 u32 H locs hw hP hD hS => ?_)
      try dsimp only at hw
      refine lv_istore (lv' := [(4, .int r32), (3, .int r20), (2, .ref h_world_court), (0, .ref h), (1, .int p1)]) hx hb dX8_lasts_35 hl (by decide) rfl (fun ls hl => ?_)
      refine lv_iload hx hb dX8_lasts_37 (lv_at hl 0 rfl) ?_
      refine lv_if_le (tgt := 54) hx hb dX8_lasts_39 (by decide) (fun c39 => ?_) (fun c39 => ?_)
      · have hw := hw.1 c39
        refine lv_bipush (v := (-6 : Int32)) hx hb dX8_lasts_54 (by decide) ?_
        exact z_iret hx hb hr hlocks () hw hP hS dX8_lasts_56
      have hw := hw.2 c39
      refine lv_iload_n hx hb dX8_lasts_42 rfl (lv_at hl 1 rfl) ?_
      refine lv_iload hx hb dX8_lasts_43 (lv_at hl 0 rfl) ?_
      refine lv_iadd hx hb dX8_lasts_45 ?_
      refine lv_iconst (v := (1 : Int32)) hx hb dX8_lasts_46 (by decide) ?_
      refine lv_isub hx hb dX8_lasts_47 ?_
      refine lv_iload hx hb dX8_lasts_48 (lv_at hl 0 rfl) ?_
      obtain ⟨hz50, hw⟩ := hw
      refine lv_idiv hx hb dX8_lasts_50 hz50 ?_
      refine lv_goto (tgt := 56) hx hb dX8_lasts_51 (by decide) ?_
      exact z_iret hx hb hr hlocks () hw hP hS dX8_lasts_56
    have hw := hw.1 c25
    refine lv_iconst (v := (0 : Int32)) hx hb dX8_lasts_28 (by decide) ?_
    exact z_iret hx hb hr hlocks () hw hP hS dX8_lasts_29
  have hw := hw.1 c13
  refine lv_iconst (v := (-1 : Int32)) hx hb dX8_lasts_16 (by decide) ?_
  exact z_iret hx hb hr hlocks () hw hP hS dX8_lasts_17
abbrev cw_X0_fewestFor (cI : ClassId) (h h_fewest : Nat) (f_fewest : Nat → Int32) : va_W := [(h, .inr (0, [.ref h_fewest])), (h_fewest, .inl (cI, 100, .inl f_fewest))]
abbrev q_X0_fewestFor (D : va_G) (cI : ClassId) (h h_fewest : Nat) (post : Int32 → Prop) (f_fewest : Nat → Int32) (A : Nat → Prop) : Array Value → State → Outcome → State → Prop := va_Qi (S := Unit) (fun r _ => post r ) (fun _ t => va_P D vwCl (cw_X0_fewestFor cI h h_fewest f_fewest) t.heap) A
abbrev v_X0_fewestFor : List Cond := .code yX0_fewestFor cX0_fewestFor 2 (some .int) :: zB
theorem hd_X0_fewestFor : yX0_fewestFor.cls = RX0 ∧ yX0_fewestFor.cls ≠ "java/lang/invoke/MethodHandle" ∧ yX0_fewestFor.cls ≠ "java/lang/invoke/VarHandle" ∧ (parseMethodDescriptor yX0_fewestFor.desc).map (fun d => d.parameters.length) = some 1 := by decide +kernel
set_option maxHeartbeats 4000000 in
set_option maxRecDepth 100000 in
theorem c_X0_fewestFor (l : Launch) (D : va_G) (cI cC cZ : ClassId) (h h_fewest : Nat) (f_fewest : Nat → Int32) (p1 : Int32) (sz : Nat) (post : Int32 → Prop) (hw : w_X0_fewestFor post f_fewest p1) : Met l yX0_fewestFor v_X0_fewestFor ({ frames := 1, cells := 0, slots := 0, locals := 22 } : Room) (va_Pc [.ref h, .int p1] (zPre D (zT cI cC cZ) sz (cw_X0_fewestFor cI h h_fewest f_fewest))) (q_X0_fewestFor D cI h h_fewest post f_fewest (va_A (cw_X0_fewestFor cI h h_fewest f_fewest) sz)) 0 0 (va_A (cw_X0_fewestFor cI h h_fewest f_fewest) sz) := by
  refine Met.ofW (cc := cX0_fewestFor) (maxL := 2) (ret := (some .int)) (by decide) rfl ?_
  intro p e s m args below meth c s₁ B hml hv
  obtain ⟨rfl, hsz, hP, hK, hD0⟩ := hv
  subst hsz
  have hx := B.exec
  have hb := B.bytes
  have hr := B.returns
  have hz : ∀ w ∈ zB, w.before _ s = true := fun w h => atoms_spec (ws := v_X0_fewestFor) B.pre w (List.mem_cons_of_mem _ h)
  have hown : s.vm.findClass RX0 = some m.cls := findClass_of_methodNamed B.named
  have hlocks := B.notSynchronized
  have hF : CallFix p m c cX0_fewestFor 2 s (([.ref h, .int p1] : List Value).toArray) zB RX0 := ⟨hx, hb, hml, hown, hz⟩
  have hD := hD0.self (sz := s.heap.size)
  generalize hAe : va_A (cw_X0_fewestFor cI h h_fewest f_fewest) s.heap.size = A at hD ⊢
  have hA : ∀ q : Nat, s.heap.size ≤ q → A q := fun q h => by rw [← hAe]; exact Or.inr h
  have hS : va_S A s.heap s.heap [] := va_S.rf
  have hP : va_P D vwCl (cw_X0_fewestFor cI h h_fewest f_fewest) s.heap := hP
  have hl := lv_entry ([.ref h, .int p1]) (n := 2) (Nat.le_of_ble_eq_true rfl)
  rw [lg_entry_eq]
  generalize (lg_sl ([.ref h, .int p1]) ++ List.replicate (2 - (lg_sl ([.ref h, .int p1])).length) Slot.unset).toArray = ls at hl ⊢
  have hl : lv_has ls 2 [(0, .ref h), (1, .int p1)] := hl
  unfold w_X0_fewestFor at hw
  refine lv_iload_n hx hb dX0_fewestFor_0 rfl (lv_at hl 1 rfl) ?_
  refine lv_iconst (v := (1 : Int32)) hx hb dX0_fewestFor_1 (by decide) ?_
  refine lv_bipush (v := (99 : Int32)) hx hb dX0_fewestFor_2 (by decide) ?_
  refine z_ri (z_runSN (As := [.int p1, .int (1 : Int32), .int (99 : Int32)]) (rest := []) hF (c_X8_within l D cI cC cZ p1 (1 : Int32) (99 : Int32) _ _ hw) ⟨va_cnB 3 hz (z_gN z1_214) rfl rfl rfl (hK.2.1 _ (List.mem_of_getElem? (i := 24) rfl)) (hz _ z1_1) hd_X8_within ⟨Nat.le_of_ble_eq_true rfl, Nat.le_of_ble_eq_true rfl⟩, (hz _ z1_213), trivial⟩ hK hP hD [] rfl rfl rfl hl.1 rfl (Nat.le_of_ble_eq_true rfl) dX0_fewestFor_4 ⟨Nat.zero_le _, Nat.zero_le _⟩) hP hD hS hA [] rfl (fun _ => rfl) (fun _ => cw_X0_fewestFor cI h h_fewest f_fewest) (fun _ => rfl) (fun r4 u4 H locs hw hP hD hS => ?_)
  obtain ⟨hn4, hw⟩ := hw
  try dsimp only at hw
  refine lv_if_eq (tgt := 19) hx hb dX0_fewestFor_7 (by decide) (fun c7 => ?_) (fun c7 => ?_)
  · have hw := hw.1 c7
    refine lv_iconst (v := (0 : Int32)) hx hb dX0_fewestFor_19 (by decide) ?_
    exact z_iret hx hb hr hlocks () hw hP hS dX0_fewestFor_20
  have hw := hw.2 c7
  refine lv_aload_n hx hb dX0_fewestFor_10 rfl (lv_at hl 0 rfl) ?_
  refine va_get (D := D) (ci := 0) (v := .ref h_fewest) (C := RX0) (T := TX0) (N := 1) hx hb hz hX_X0 hown hK.1 hP 0 rfl rfl 0 (by decide) (hz _ z1_162) (fun _ h9 => h9) rfl dX0_fewestFor_11 ?_
  refine lv_iload_n hx hb dX0_fewestFor_14 rfl (lv_at hl 1 rfl) ?_
  obtain ⟨hi15, hw⟩ := hw
  refine va_iald hx hb hK.1 hP 1 0 rfl rfl hi15 dX0_fewestFor_15 ?_
  refine lv_goto (tgt := 20) hx hb dX0_fewestFor_16 (by decide) ?_
  exact z_iret hx hb hr hlocks () hw hP hS dX0_fewestFor_20
abbrev cw_X0_withFirst (cI : ClassId) (h h_fewest : Nat) (f_fewest : Nat → Int32) : va_W := [(h, .inr (0, [.ref h_fewest])), (h_fewest, .inl (cI, 100, .inl f_fewest))]
abbrev q_X0_withFirst (D : va_G) (cI : ClassId) (h h_fewest : Nat) (post : Int32 → Prop) (f_fewest : Nat → Int32) (A : Nat → Prop) : Array Value → State → Outcome → State → Prop := va_Qi (S := Unit) (fun r _ => post r ) (fun _ t => va_P D vwCl (cw_X0_withFirst cI h h_fewest f_fewest) t.heap) A
abbrev v_X0_withFirst : List Cond := .code yX0_withFirst cX0_withFirst 3 (some .int) :: zB
theorem hd_X0_withFirst : yX0_withFirst.cls = RX0 ∧ yX0_withFirst.cls ≠ "java/lang/invoke/MethodHandle" ∧ yX0_withFirst.cls ≠ "java/lang/invoke/VarHandle" ∧ (parseMethodDescriptor yX0_withFirst.desc).map (fun d => d.parameters.length) = some 2 := by decide +kernel
set_option maxHeartbeats 4000000 in
set_option maxRecDepth 100000 in
theorem c_X0_withFirst (l : Launch) (D : va_G) (cI cC cZ : ClassId) (h h_fewest : Nat) (f_fewest : Nat → Int32) (p1 : Int32) (p2 : Int32) (sz : Nat) (post : Int32 → Prop) (hw : w_X0_withFirst post f_fewest p1 p2) : Met l yX0_withFirst v_X0_withFirst ({ frames := 2, cells := 0, slots := 0, locals := 43 } : Room) (va_Pc [.ref h, .int p1, .int p2] (zPre D (zT cI cC cZ) sz (cw_X0_withFirst cI h h_fewest f_fewest))) (q_X0_withFirst D cI h h_fewest post f_fewest (va_A (cw_X0_withFirst cI h h_fewest f_fewest) sz)) 0 0 (va_A (cw_X0_withFirst cI h h_fewest f_fewest) sz) := by
  refine Met.ofW (cc := cX0_withFirst) (maxL := 3) (ret := (some .int)) (by decide) rfl ?_
  intro p e s m args below meth c s₁ B hml hv
  obtain ⟨rfl, hsz, hP, hK, hD0⟩ := hv
  subst hsz
  have hx := B.exec
  have hb := B.bytes
  have hr := B.returns
  have hz : ∀ w ∈ zB, w.before _ s = true := fun w h => atoms_spec (ws := v_X0_withFirst) B.pre w (List.mem_cons_of_mem _ h)
  have hown : s.vm.findClass RX0 = some m.cls := findClass_of_methodNamed B.named
  have hlocks := B.notSynchronized
  have hF : CallFix p m c cX0_withFirst 3 s (([.ref h, .int p1, .int p2] : List Value).toArray) zB RX0 := ⟨hx, hb, hml, hown, hz⟩
  have hD := hD0.self (sz := s.heap.size)
  generalize hAe : va_A (cw_X0_withFirst cI h h_fewest f_fewest) s.heap.size = A at hD ⊢
  have hA : ∀ q : Nat, s.heap.size ≤ q → A q := fun q h => by rw [← hAe]; exact Or.inr h
  have hS : va_S A s.heap s.heap [] := va_S.rf
  have hP : va_P D vwCl (cw_X0_withFirst cI h h_fewest f_fewest) s.heap := hP
  have hl := lv_entry ([.ref h, .int p1, .int p2]) (n := 3) (Nat.le_of_ble_eq_true rfl)
  rw [lg_entry_eq]
  generalize (lg_sl ([.ref h, .int p1, .int p2]) ++ List.replicate (3 - (lg_sl ([.ref h, .int p1, .int p2])).length) Slot.unset).toArray = ls at hl ⊢
  have hl : lv_has ls 3 [(0, .ref h), (1, .int p1), (2, .int p2)] := hl
  unfold w_X0_withFirst at hw
  refine lv_iconst (v := (1 : Int32)) hx hb dX0_withFirst_0 (by decide) ?_
  refine lv_aload_n hx hb dX0_withFirst_1 rfl (lv_at hl 0 rfl) ?_
  refine lv_iload_n hx hb dX0_withFirst_2 rfl (lv_at hl 2 rfl) ?_
  refine z_ri (z_runV (As := [.int p2]) (rest := [.int (1 : Int32)]) hF (c_X0_fewestFor l D cI cC cZ h h_fewest f_fewest p2 _ _ hw) (cwV 1 hz (z_gV z2_193 z2_194 z2_195 z1_8 z2_196) rfl rfl rfl hd_X0_fewestFor ⟨Nat.le_of_ble_eq_true rfl, Nat.le_of_ble_eq_true rfl⟩) hK hP hD [0, 1] rfl rfl 0 0 rfl rfl rfl rfl hl.1 rfl (Nat.le_of_ble_eq_true rfl) dX0_withFirst_3 ⟨Nat.zero_le _, Nat.zero_le _⟩) hP hD hS hA [0, 1] rfl (fun _ => rfl) (fun _ => cw_X0_withFirst cI h h_fewest f_fewest) (fun _ => rfl) (fun r3 u3 H locs hw hP hD hS => ?_)
  try dsimp only at hw
  refine lv_aload_n hx hb dX0_withFirst_6 rfl (lv_at hl 0 rfl) ?_
  refine lv_iload_n hx hb dX0_withFirst_7 rfl (lv_at hl 1 rfl) ?_
  refine lv_iload_n hx hb dX0_withFirst_8 rfl (lv_at hl 2 rfl) ?_
  refine lv_isub hx hb dX0_withFirst_9 ?_
  refine z_ri (z_runV (As := [.int (p1 - p2)]) (rest := [.int r3, .int (1 : Int32)]) hF (c_X0_fewestFor l D cI cC cZ h h_fewest f_fewest (p1 - p2) _ _ hw) (cwV 1 hz (z_gV z2_193 z2_194 z2_195 z1_8 z2_196) rfl rfl rfl hd_X0_fewestFor ⟨Nat.le_of_ble_eq_true rfl, Nat.le_of_ble_eq_true rfl⟩) hK hP hD [0, 1] rfl rfl 0 0 rfl rfl rfl rfl hl.1 rfl (Nat.le_of_ble_eq_true rfl) dX0_withFirst_10 ⟨Nat.zero_le _, Nat.zero_le _⟩) hP hD hS hA [0, 1] rfl (fun _ => rfl) (fun _ => cw_X0_withFirst cI h h_fewest f_fewest) (fun _ => rfl) (fun r10 u10 H locs hw hP hD hS => ?_)
  try dsimp only at hw
  refine va_mmax hx hb (hml.trans hl.1.symm) hown (hz _ z2_198) (hz _ z2_137) (hz _ z1_13) (hz _ z2_138) (Nat.le_of_ble_eq_true rfl) (Nat.le_of_ble_eq_true rfl) (Nat.zero_le _) (Nat.zero_le _) dX0_withFirst_13 ?_
  refine lv_iadd hx hb dX0_withFirst_16 ?_
  exact z_iret hx hb hr hlocks () hw hP hS dX0_withFirst_17
abbrev cw_X0_weigh (cI : ClassId) (h h_fewest : Nat) (f_fewest : Nat → Int32) : va_W := [(h, .inr (0, [.ref h_fewest])), (h_fewest, .inl (cI, 100, .inl f_fewest))]
abbrev q_X0_weigh (D : va_G) (cI : ClassId) (h h_fewest : Nat) (post : (Nat → Int32) → Prop) (A : Nat → Prop) : Array Value → State → Outcome → State → Prop := va_Qv (S := (Nat → Int32)) (fun u => post u) (fun u t => va_P D vwCl (cw_X0_weigh cI h h_fewest u) t.heap) A
abbrev v_X0_weigh : List Cond := .code yX0_weigh cX0_weigh 6 none :: zB
theorem hd_X0_weigh : yX0_weigh.cls = RX0 ∧ yX0_weigh.cls ≠ "java/lang/invoke/MethodHandle" ∧ yX0_weigh.cls ≠ "java/lang/invoke/VarHandle" ∧ (parseMethodDescriptor yX0_weigh.desc).map (fun d => d.parameters.length) = some 2 := by decide +kernel
set_option maxHeartbeats 4000000 in
set_option maxRecDepth 100000 in
theorem c_X0_weigh (l : Launch) (D : va_G) (cI cC cZ : ClassId) (h h_fewest : Nat) (f_fewest : Nat → Int32) (p1 : Int32) (p2 : Int32) (sz : Nat) (post : (Nat → Int32) → Prop) (hw : w_X0_weigh post f_fewest p1 p2) : Met l yX0_weigh v_X0_weigh ({ frames := 3, cells := 0, slots := 0, locals := 65 } : Room) (va_Pc [.ref h, .int p1, .int p2] (zPre D (zT cI cC cZ) sz (cw_X0_weigh cI h h_fewest f_fewest))) (q_X0_weigh D cI h h_fewest post (va_A (cw_X0_weigh cI h h_fewest f_fewest) sz)) 0 0 (va_A (cw_X0_weigh cI h h_fewest f_fewest) sz) := by
  refine Met.ofW (cc := cX0_weigh) (maxL := 6) (ret := none) (by decide) rfl ?_
  intro p e s m args below meth c s₁ B hml hv
  obtain ⟨rfl, hsz, hP, hK, hD0⟩ := hv
  subst hsz
  have hx := B.exec
  have hb := B.bytes
  have hr := B.returns
  have hz : ∀ w ∈ zB, w.before _ s = true := fun w h => atoms_spec (ws := v_X0_weigh) B.pre w (List.mem_cons_of_mem _ h)
  have hown : s.vm.findClass RX0 = some m.cls := findClass_of_methodNamed B.named
  have hlocks := B.notSynchronized
  have hF : CallFix p m c cX0_weigh 6 s (([.ref h, .int p1, .int p2] : List Value).toArray) zB RX0 := ⟨hx, hb, hml, hown, hz⟩
  have hD := hD0.self (sz := s.heap.size)
  generalize hAe : va_A (cw_X0_weigh cI h h_fewest f_fewest) s.heap.size = A at hD ⊢
  have hA : ∀ q : Nat, s.heap.size ≤ q → A q := fun q h => by rw [← hAe]; exact Or.inr h
  have hS : va_S A s.heap s.heap [] := va_S.rf
  have hP : va_P D vwCl (cw_X0_weigh cI h h_fewest f_fewest) s.heap := hP
  have hl := lv_entry ([.ref h, .int p1, .int p2]) (n := 6) (Nat.le_of_ble_eq_true rfl)
  rw [lg_entry_eq]
  generalize (lg_sl ([.ref h, .int p1, .int p2]) ++ List.replicate (6 - (lg_sl ([.ref h, .int p1, .int p2])).length) Slot.unset).toArray = ls at hl ⊢
  have hl : lv_has ls 6 [(0, .ref h), (1, .int p1), (2, .int p2)] := hl
  have L9 : ∀ (n9 : Nat) (f_fewest : Nat → Int32) (x3 : Int32) (H : Heap) (locs : List Loc) (ls : Array Slot) (hw : w_X0_weigh_B9 post p1 p2 n9 f_fewest x3) (hP : va_P D vwCl (cw_X0_weigh cI h h_fewest f_fewest) H) (hD : va_D A (cw_X0_weigh cI h h_fewest f_fewest)) (hS : va_S A s.heap H locs) (hl : lv_has ls 6 [(0, .ref h), (1, .int p1), (2, .int p2), (3, .int x3)]), W p l e (headSpec v_X0_weigh ({ frames := 3, cells := 0, slots := 0, locals := 65 } : Room)).room s m (([.ref h, .int p1, .int p2] : List Value).toArray) below meth c H locs 0 0 (MQ below (q_X0_weigh D cI h h_fewest post A) (([.ref h, .int p1, .int p2] : List Value).toArray) s 0 0 A) (F0 m 9 ls []) := by
    intro n9
    induction n9 with
    | zero => intro f_fewest x3 H locs ls hw; exact False.elim hw
    | succ n9 ih9 =>
      have J59 : ∀ (f_fewest : Nat → Int32) (x3 : Int32) (x4 : Int32) (H : Heap) (locs : List Loc) (ls : Array Slot) (hw : w_X0_weigh_B59 post p1 p2 (fun f_fewest x3 => w_X0_weigh_B9 post p1 p2 n9 f_fewest x3) f_fewest x3 x4) (hP : va_P D vwCl (cw_X0_weigh cI h h_fewest f_fewest) H) (hD : va_D A (cw_X0_weigh cI h h_fewest f_fewest)) (hS : va_S A s.heap H locs) (hl : lv_has ls 6 [(0, .ref h), (1, .int p1), (2, .int p2), (3, .int x3), (4, .int x4)]), W p l e (headSpec v_X0_weigh ({ frames := 3, cells := 0, slots := 0, locals := 65 } : Room)).room s m (([.ref h, .int p1, .int p2] : List Value).toArray) below meth c H locs 0 0 (MQ below (q_X0_weigh D cI h h_fewest post A) (([.ref h, .int p1, .int p2] : List Value).toArray) s 0 0 A) (F0 m 59 ls []) := by
        intro f_fewest x3 x4 H locs ls hw hP hD hS hl
        unfold w_X0_weigh_B59 at hw
        refine lv_aload_n hx hb dX0_weigh_59 rfl (lv_at hl 0 rfl) ?_
        refine va_get (D := D) (ci := 0) (v := .ref h_fewest) (C := RX0) (T := TX0) (N := 1) hx hb hz hX_X0 hown hK.1 hP 0 rfl rfl 0 (by decide) (hz _ z1_162) (fun _ h9 => h9) rfl dX0_weigh_60 ?_
        refine lv_iload_n hx hb dX0_weigh_63 rfl (lv_at hl 3 rfl) ?_
        refine lv_iload hx hb dX0_weigh_64 (lv_at hl 4 rfl) ?_
        obtain ⟨hi66, hw⟩ := hw
        refine va_iast hx hb hK.1 hP hD hS 1 0 rfl rfl hi66 dX0_weigh_66 (fun H locs hP hD hS => ?_)
        have hP : va_P D vwCl (cw_X0_weigh cI h h_fewest (upd f_fewest x3.toNatClampNeg x4)) H := hP
        have hD : va_D A (cw_X0_weigh cI h h_fewest (upd f_fewest x3.toNatClampNeg x4)) := hD
        refine lv_iinc (k := 3) (v := (x3 + 1)) (lv' := [(3, .int (x3 + 1)), (0, .ref h), (1, .int p1), (2, .int p2), (4, .int x4)]) hx hb dX0_weigh_67 hl rfl rfl (by decide) rfl (fun ls hl => ?_)
        refine lv_goto (tgt := 9) hx hb dX0_weigh_70 (by decide) ?_
        exact ih9 (upd f_fewest x3.toNatClampNeg x4) (x3 + 1) _ _ _ hw hP hD hS (lv_sub hl [1, 2, 3, 0] rfl)
      have L27 : ∀ (n27 : Nat) (f_fewest : Nat → Int32) (x3 : Int32) (x4 : Int32) (x5 : Int32) (H : Heap) (locs : List Loc) (ls : Array Slot) (hw : w_X0_weigh_B27 post p1 p2 (fun f_fewest x3 => w_X0_weigh_B9 post p1 p2 n9 f_fewest x3) n27 f_fewest x3 x4 x5) (hP : va_P D vwCl (cw_X0_weigh cI h h_fewest f_fewest) H) (hD : va_D A (cw_X0_weigh cI h h_fewest f_fewest)) (hS : va_S A s.heap H locs) (hl : lv_has ls 6 [(0, .ref h), (1, .int p1), (2, .int p2), (3, .int x3), (4, .int x4), (5, .int x5)]), W p l e (headSpec v_X0_weigh ({ frames := 3, cells := 0, slots := 0, locals := 65 } : Room)).room s m (([.ref h, .int p1, .int p2] : List Value).toArray) below meth c H locs 0 0 (MQ below (q_X0_weigh D cI h h_fewest post A) (([.ref h, .int p1, .int p2] : List Value).toArray) s 0 0 A) (F0 m 27 ls []) := by
        intro n27
        induction n27 with
        | zero => intro f_fewest x3 x4 x5 H locs ls hw; exact False.elim hw
        | succ n27 ih27 =>
          intro f_fewest x3 x4 x5 H locs ls hw hP hD hS hl
          unfold w_X0_weigh_B27 at hw
          refine lv_iload hx hb dX0_weigh_27 (lv_at hl 5 rfl) ?_
          refine lv_iload_n hx hb dX0_weigh_29 rfl (lv_at hl 2 rfl) ?_
          refine lv_icmp_gt (tgt := 59) hx hb dX0_weigh_30 (by decide) (fun c30 => ?_) (fun c30 => ?_)
          · have hw := hw.1 c30
            exact J59 f_fewest x3 x4 _ _ _ hw hP hD hS (lv_sub hl [0, 1, 2, 3, 4] rfl)
          have hw := hw.2 c30
          refine lv_iload hx hb dX0_weigh_33 (lv_at hl 5 rfl) ?_
          refine lv_iload_n hx hb dX0_weigh_35 rfl (lv_at hl 3 rfl) ?_
          refine lv_icmp_ge (tgt := 59) hx hb dX0_weigh_36 (by decide) (fun c36 => ?_) (fun c36 => ?_)
          · have hw := hw.1 c36
            exact J59 f_fewest x3 x4 _ _ _ hw hP hD hS (lv_sub hl [0, 1, 2, 3, 4] rfl)
          have hw := hw.2 c36
          refine lv_iload hx hb dX0_weigh_39 (lv_at hl 4 rfl) ?_
          refine lv_aload_n hx hb dX0_weigh_41 rfl (lv_at hl 0 rfl) ?_
          refine lv_iload_n hx hb dX0_weigh_42 rfl (lv_at hl 3 rfl) ?_
          refine lv_iload hx hb dX0_weigh_43 (lv_at hl 5 rfl) ?_
          refine z_ri (z_runV (As := [.int x3, .int x5]) (rest := [.int x4]) hF (c_X0_withFirst l D cI cC cZ h h_fewest f_fewest x3 x5 _ _ hw) (cwV 2 hz (z_gV z2_189 z2_191 zp_12 z1_8 z2_192) rfl rfl rfl hd_X0_withFirst ⟨Nat.le_of_ble_eq_true rfl, Nat.le_of_ble_eq_true rfl⟩) hK hP hD [0, 1] rfl rfl 0 0 rfl rfl rfl rfl hl.1 rfl (Nat.le_of_ble_eq_true rfl) dX0_weigh_45 ⟨Nat.zero_le _, Nat.zero_le _⟩) hP hD hS hA [0, 1] rfl (fun _ => rfl) (fun _ => cw_X0_weigh cI h h_fewest f_fewest) (fun _ => rfl) (fun r45 u45 H locs hw hP hD hS => ?_)
          try dsimp only at hw
          refine va_mmin hx hb (hml.trans hl.1.symm) hown (hz _ z2_199) (hz _ z2_200) (hz _ z1_13) (hz _ z2_201) (Nat.le_of_ble_eq_true rfl) (Nat.le_of_ble_eq_true rfl) (Nat.zero_le _) (Nat.zero_le _) dX0_weigh_48 ?_
          refine lv_topi (fun y51 ey51 => ?_)
          have hw := hw y51 ey51
          refine lv_istore (lv' := [(4, .int y51), (0, .ref h), (1, .int p1), (2, .int p2), (3, .int x3), (5, .int x5)]) hx hb dX0_weigh_51 hl (by decide) rfl (fun ls hl => ?_)
          refine lv_iinc (k := 5) (v := (x5 + 1)) (lv' := [(5, .int (x5 + 1)), (4, .int y51), (0, .ref h), (1, .int p1), (2, .int p2), (3, .int x3)]) hx hb dX0_weigh_53 hl rfl rfl (by decide) rfl (fun ls hl => ?_)
          refine lv_goto (tgt := 27) hx hb dX0_weigh_56 (by decide) ?_
          exact ih27 f_fewest x3 y51 (x5 + 1) _ _ _ hw hP hD hS (lv_sub hl [2, 3, 4, 5, 1, 0] rfl)
      intro f_fewest x3 H locs ls hw hP hD hS hl
      unfold w_X0_weigh_B9 at hw
      refine lv_iload_n hx hb dX0_weigh_9 rfl (lv_at hl 3 rfl) ?_
      refine lv_iload_n hx hb dX0_weigh_10 rfl (lv_at hl 1 rfl) ?_
      refine lv_icmp_gt (tgt := 73) hx hb dX0_weigh_11 (by decide) (fun c11 => ?_) (fun c11 => ?_)
      · have hw := hw.1 c11
        exact z_vret hx hb hr hlocks f_fewest hw hP hS dX0_weigh_73
      have hw := hw.2 c11
      refine lv_iload_n hx hb dX0_weigh_14 rfl (lv_at hl 3 rfl) ?_
      refine lv_bipush (v := (99 : Int32)) hx hb dX0_weigh_15 (by decide) ?_
      refine lv_icmp_gt (tgt := 73) hx hb dX0_weigh_17 (by decide) (fun c17 => ?_) (fun c17 => ?_)
      · have hw := hw.1 c17
        exact z_vret hx hb hr hlocks f_fewest hw hP hS dX0_weigh_73
      have hw := hw.2 c17
      refine lv_bipush (v := (99 : Int32)) hx hb dX0_weigh_20 (by decide) ?_
      refine lv_istore (lv' := [(4, .int (99 : Int32)), (0, .ref h), (1, .int p1), (2, .int p2), (3, .int x3)]) hx hb dX0_weigh_22 hl (by decide) rfl (fun ls hl => ?_)
      refine lv_iconst (v := (1 : Int32)) hx hb dX0_weigh_24 (by decide) ?_
      refine lv_istore (lv' := [(5, .int (1 : Int32)), (4, .int (99 : Int32)), (0, .ref h), (1, .int p1), (2, .int p2), (3, .int x3)]) hx hb dX0_weigh_25 hl (by decide) rfl (fun ls hl => ?_)
      obtain ⟨n27, hw⟩ := hw
      exact L27 n27 f_fewest x3 (99 : Int32) (1 : Int32) _ _ _ hw hP hD hS (lv_sub hl [2, 3, 4, 5, 1, 0] rfl)
  unfold w_X0_weigh at hw
  refine lv_aload_n hx hb dX0_weigh_0 rfl (lv_at hl 0 rfl) ?_
  refine va_get (D := D) (ci := 0) (v := .ref h_fewest) (C := RX0) (T := TX0) (N := 1) hx hb hz hX_X0 hown hK.1 hP 0 rfl rfl 0 (by decide) (hz _ z1_162) (fun _ h9 => h9) rfl dX0_weigh_1 ?_
  refine lv_iconst (v := (1 : Int32)) hx hb dX0_weigh_4 (by decide) ?_
  refine lv_iconst (v := (0 : Int32)) hx hb dX0_weigh_5 (by decide) ?_
  refine va_iast hx hb hK.1 hP hD hS 1 0 rfl rfl (z_in rfl) dX0_weigh_6 (fun H locs hP hD hS => ?_)
  have hP : va_P D vwCl (cw_X0_weigh cI h h_fewest (upd f_fewest (1 : Int32).toNatClampNeg (0 : Int32))) H := hP
  have hD : va_D A (cw_X0_weigh cI h h_fewest (upd f_fewest (1 : Int32).toNatClampNeg (0 : Int32))) := hD
  refine lv_iconst (v := (2 : Int32)) hx hb dX0_weigh_7 (by decide) ?_
  refine lv_istore_n (lv' := [(3, .int (2 : Int32)), (0, .ref h), (1, .int p1), (2, .int p2)]) hx hb dX0_weigh_8 rfl hl (by decide) rfl (fun ls hl => ?_)
  obtain ⟨n9, hw⟩ := hw
  exact L9 n9 (upd f_fewest (1 : Int32).toNatClampNeg (0 : Int32)) (2 : Int32) _ _ _ hw hP hD hS (lv_sub hl [1, 2, 3, 0] rfl)
abbrev cw_X0_leastFirst (cI : ClassId) (h h_fewest : Nat) (f_fewest : Nat → Int32) : va_W := [(h, .inr (0, [.ref h_fewest])), (h_fewest, .inl (cI, 100, .inl f_fewest))]
abbrev q_X0_leastFirst (D : va_G) (cI : ClassId) (h h_fewest : Nat) (post : Int32 → Prop) (f_fewest : Nat → Int32) (A : Nat → Prop) : Array Value → State → Outcome → State → Prop := va_Qi (S := Unit) (fun r _ => post r ) (fun _ t => va_P D vwCl (cw_X0_leastFirst cI h h_fewest f_fewest) t.heap) A
abbrev v_X0_leastFirst : List Cond := .code yX0_leastFirst cX0_leastFirst 4 (some .int) :: zB
theorem hd_X0_leastFirst : yX0_leastFirst.cls = RX0 ∧ yX0_leastFirst.cls ≠ "java/lang/invoke/MethodHandle" ∧ yX0_leastFirst.cls ≠ "java/lang/invoke/VarHandle" ∧ (parseMethodDescriptor yX0_leastFirst.desc).map (fun d => d.parameters.length) = some 2 := by decide +kernel
set_option maxHeartbeats 4000000 in
set_option maxRecDepth 100000 in
theorem c_X0_leastFirst (l : Launch) (D : va_G) (cI cC cZ : ClassId) (h h_fewest : Nat) (f_fewest : Nat → Int32) (p1 : Int32) (p2 : Int32) (sz : Nat) (post : Int32 → Prop) (hw : w_X0_leastFirst post f_fewest p1 p2) : Met l yX0_leastFirst v_X0_leastFirst ({ frames := 3, cells := 0, slots := 0, locals := 65 } : Room) (va_Pc [.ref h, .int p1, .int p2] (zPre D (zT cI cC cZ) sz (cw_X0_leastFirst cI h h_fewest f_fewest))) (q_X0_leastFirst D cI h h_fewest post f_fewest (va_A (cw_X0_leastFirst cI h h_fewest f_fewest) sz)) 0 0 (va_A (cw_X0_leastFirst cI h h_fewest f_fewest) sz) := by
  refine Met.ofW (cc := cX0_leastFirst) (maxL := 4) (ret := (some .int)) (by decide) rfl ?_
  intro p e s m args below meth c s₁ B hml hv
  obtain ⟨rfl, hsz, hP, hK, hD0⟩ := hv
  subst hsz
  have hx := B.exec
  have hb := B.bytes
  have hr := B.returns
  have hz : ∀ w ∈ zB, w.before _ s = true := fun w h => atoms_spec (ws := v_X0_leastFirst) B.pre w (List.mem_cons_of_mem _ h)
  have hown : s.vm.findClass RX0 = some m.cls := findClass_of_methodNamed B.named
  have hlocks := B.notSynchronized
  have hF : CallFix p m c cX0_leastFirst 4 s (([.ref h, .int p1, .int p2] : List Value).toArray) zB RX0 := ⟨hx, hb, hml, hown, hz⟩
  have hD := hD0.self (sz := s.heap.size)
  generalize hAe : va_A (cw_X0_leastFirst cI h h_fewest f_fewest) s.heap.size = A at hD ⊢
  have hA : ∀ q : Nat, s.heap.size ≤ q → A q := fun q h => by rw [← hAe]; exact Or.inr h
  have hS : va_S A s.heap s.heap [] := va_S.rf
  have hP : va_P D vwCl (cw_X0_leastFirst cI h h_fewest f_fewest) s.heap := hP
  have hl := lv_entry ([.ref h, .int p1, .int p2]) (n := 4) (Nat.le_of_ble_eq_true rfl)
  rw [lg_entry_eq]
  generalize (lg_sl ([.ref h, .int p1, .int p2]) ++ List.replicate (4 - (lg_sl ([.ref h, .int p1, .int p2])).length) Slot.unset).toArray = ls at hl ⊢
  have hl : lv_has ls 4 [(0, .ref h), (1, .int p1), (2, .int p2)] := hl
  have L2 : ∀ (n2 : Nat) (x3 : Int32) (H : Heap) (locs : List Loc) (ls : Array Slot) (hw : w_X0_leastFirst_B2 post f_fewest p1 p2 n2 x3) (hP : va_P D vwCl (cw_X0_leastFirst cI h h_fewest f_fewest) H) (hD : va_D A (cw_X0_leastFirst cI h h_fewest f_fewest)) (hS : va_S A s.heap H locs) (hl : lv_has ls 4 [(0, .ref h), (1, .int p1), (2, .int p2), (3, .int x3)]), W p l e (headSpec v_X0_leastFirst ({ frames := 3, cells := 0, slots := 0, locals := 65 } : Room)).room s m (([.ref h, .int p1, .int p2] : List Value).toArray) below meth c H locs 0 0 (MQ below (q_X0_leastFirst D cI h h_fewest post f_fewest A) (([.ref h, .int p1, .int p2] : List Value).toArray) s 0 0 A) (F0 m 2 ls []) := by
    intro n2
    induction n2 with
    | zero => intro x3 H locs ls hw; exact False.elim hw
    | succ n2 ih2 =>
      intro x3 H locs ls hw hP hD hS hl
      unfold w_X0_leastFirst_B2 at hw
      refine lv_iload_n hx hb dX0_leastFirst_2 rfl (lv_at hl 3 rfl) ?_
      refine lv_iload_n hx hb dX0_leastFirst_3 rfl (lv_at hl 2 rfl) ?_
      refine lv_icmp_gt (tgt := 34) hx hb dX0_leastFirst_4 (by decide) (fun c4 => ?_) (fun c4 => ?_)
      · have hw := hw.1 c4
        refine lv_bipush (v := (-6 : Int32)) hx hb dX0_leastFirst_34 (by decide) ?_
        exact z_iret hx hb hr hlocks () hw hP hS dX0_leastFirst_36
      have hw := hw.2 c4
      refine lv_iload_n hx hb dX0_leastFirst_7 rfl (lv_at hl 3 rfl) ?_
      refine lv_iload_n hx hb dX0_leastFirst_8 rfl (lv_at hl 1 rfl) ?_
      refine lv_icmp_ge (tgt := 34) hx hb dX0_leastFirst_9 (by decide) (fun c9 => ?_) (fun c9 => ?_)
      · have hw := hw.1 c9
        refine lv_bipush (v := (-6 : Int32)) hx hb dX0_leastFirst_34 (by decide) ?_
        exact z_iret hx hb hr hlocks () hw hP hS dX0_leastFirst_36
      have hw := hw.2 c9
      refine lv_aload_n hx hb dX0_leastFirst_12 rfl (lv_at hl 0 rfl) ?_
      refine lv_iload_n hx hb dX0_leastFirst_13 rfl (lv_at hl 1 rfl) ?_
      refine lv_iload_n hx hb dX0_leastFirst_14 rfl (lv_at hl 3 rfl) ?_
      refine z_ri (z_runV (As := [.int p1, .int x3]) (rest := []) hF (c_X0_withFirst l D cI cC cZ h h_fewest f_fewest p1 x3 _ _ hw) (cwV 2 hz (z_gV z2_189 z2_191 zp_12 z1_8 z2_192) rfl rfl rfl hd_X0_withFirst ⟨Nat.le_of_ble_eq_true rfl, Nat.le_of_ble_eq_true rfl⟩) hK hP hD [0, 1] rfl rfl 0 0 rfl rfl rfl rfl hl.1 rfl (Nat.le_of_ble_eq_true rfl) dX0_leastFirst_15 ⟨Nat.zero_le _, Nat.zero_le _⟩) hP hD hS hA [0, 1] rfl (fun _ => rfl) (fun _ => cw_X0_leastFirst cI h h_fewest f_fewest) (fun _ => rfl) (fun r15 u15 H locs hw hP hD hS => ?_)
      try dsimp only at hw
      refine lv_aload_n hx hb dX0_leastFirst_18 rfl (lv_at hl 0 rfl) ?_
      refine lv_iload_n hx hb dX0_leastFirst_19 rfl (lv_at hl 1 rfl) ?_
      refine z_ri (z_runV (As := [.int p1]) (rest := [.int r15]) hF (c_X0_fewestFor l D cI cC cZ h h_fewest f_fewest p1 _ _ hw) (cwV 1 hz (z_gV z2_193 z2_194 z2_195 z1_8 z2_196) rfl rfl rfl hd_X0_fewestFor ⟨Nat.le_of_ble_eq_true rfl, Nat.le_of_ble_eq_true rfl⟩) hK hP hD [0, 1] rfl rfl 0 0 rfl rfl rfl rfl hl.1 rfl (Nat.le_of_ble_eq_true rfl) dX0_leastFirst_20 ⟨Nat.zero_le _, Nat.zero_le _⟩) hP hD hS hA [0, 1] rfl (fun _ => rfl) (fun _ => cw_X0_leastFirst cI h h_fewest f_fewest) (fun _ => rfl) (fun r20 u20 H locs hw hP hD hS => ?_)
      try dsimp only at hw
      refine lv_icmp_ne (tgt := 28) hx hb dX0_leastFirst_23 (by decide) (fun c23 => ?_) (fun c23 => ?_)
      · have hw := hw.2 c23
        refine lv_iinc (k := 3) (v := (x3 + 1)) (lv' := [(3, .int (x3 + 1)), (0, .ref h), (1, .int p1), (2, .int p2)]) hx hb dX0_leastFirst_28 hl rfl rfl (by decide) rfl (fun ls hl => ?_)
        refine lv_goto (tgt := 2) hx hb dX0_leastFirst_31 (by decide) ?_
        exact ih2 (x3 + 1) _ _ _ hw hP hD hS (lv_sub hl [1, 2, 3, 0] rfl)
      have hw := hw.1 c23
      refine lv_iload_n hx hb dX0_leastFirst_26 rfl (lv_at hl 3 rfl) ?_
      exact z_iret hx hb hr hlocks () hw hP hS dX0_leastFirst_27
  unfold w_X0_leastFirst at hw
  refine lv_iconst (v := (1 : Int32)) hx hb dX0_leastFirst_0 (by decide) ?_
  refine lv_istore_n (lv' := [(3, .int (1 : Int32)), (0, .ref h), (1, .int p1), (2, .int p2)]) hx hb dX0_leastFirst_1 rfl hl (by decide) rfl (fun ls hl => ?_)
  obtain ⟨n2, hw⟩ := hw
  exact L2 n2 (1 : Int32) _ _ _ hw hP hD hS (lv_sub hl [1, 2, 3, 0] rfl)
abbrev cw_X8_trials (cI : ClassId) (h h_bowls h_bowls_fewest : Nat) (g_world g_images g_pad g_hearing g_guesses : Value) (f_bowls_fewest : Nat → Int32) : va_W := [(h, .inr (8, [g_world, g_images, g_pad, g_hearing, .ref h_bowls, g_guesses])), (h_bowls, .inr (0, [.ref h_bowls_fewest])), (h_bowls_fewest, .inl (cI, 100, .inl f_bowls_fewest))]
abbrev q_X8_trials (D : va_G) (cI : ClassId) (h h_bowls h_bowls_fewest : Nat) (g_world g_images g_pad g_hearing g_guesses : Value) (post : Int32 → (Nat → Int32) → Prop) (A : Nat → Prop) : Array Value → State → Outcome → State → Prop := va_Qi (S := (Nat → Int32)) (fun r u => post r u) (fun u t => va_P D vwCl (cw_X8_trials cI h h_bowls h_bowls_fewest g_world g_images g_pad g_hearing g_guesses u) t.heap) A
abbrev v_X8_trials : List Cond := .code yX8_trials cX8_trials 4 (some .int) :: zB
theorem hd_X8_trials : yX8_trials.cls = RX8 ∧ yX8_trials.cls ≠ "java/lang/invoke/MethodHandle" ∧ yX8_trials.cls ≠ "java/lang/invoke/VarHandle" ∧ (parseMethodDescriptor yX8_trials.desc).map (fun d => d.parameters.length) = some 3 := by decide +kernel
set_option maxHeartbeats 4000000 in
set_option maxRecDepth 100000 in
theorem c_X8_trials (l : Launch) (D : va_G) (cI cC cZ : ClassId) (h h_bowls h_bowls_fewest : Nat) (g_world g_images g_pad g_hearing g_guesses : Value) (f_bowls_fewest : Nat → Int32) (p1 : Int32) (p2 : Int32) (p3 : Int32) (sz : Nat) (post : Int32 → (Nat → Int32) → Prop) (hw : w_X8_trials post f_bowls_fewest p1 p2 p3) : Met l yX8_trials v_X8_trials ({ frames := 4, cells := 0, slots := 0, locals := 90 } : Room) (va_Pc [.ref h, .int p1, .int p2, .int p3] (zPre D (zT cI cC cZ) sz (cw_X8_trials cI h h_bowls h_bowls_fewest g_world g_images g_pad g_hearing g_guesses f_bowls_fewest))) (q_X8_trials D cI h h_bowls h_bowls_fewest g_world g_images g_pad g_hearing g_guesses post (va_A (cw_X8_trials cI h h_bowls h_bowls_fewest g_world g_images g_pad g_hearing g_guesses f_bowls_fewest) sz)) 0 0 (va_A (cw_X8_trials cI h h_bowls h_bowls_fewest g_world g_images g_pad g_hearing g_guesses f_bowls_fewest) sz) := by
  refine Met.ofW (cc := cX8_trials) (maxL := 4) (ret := (some .int)) (by decide) rfl ?_
  intro p e s m args below meth c s₁ B hml hv
  obtain ⟨rfl, hsz, hP, hK, hD0⟩ := hv
  subst hsz
  have hx := B.exec
  have hb := B.bytes
  have hr := B.returns
  have hz : ∀ w ∈ zB, w.before _ s = true := fun w h => atoms_spec (ws := v_X8_trials) B.pre w (List.mem_cons_of_mem _ h)
  have hown : s.vm.findClass RX8 = some m.cls := findClass_of_methodNamed B.named
  have hlocks := B.notSynchronized
  have hF : CallFix p m c cX8_trials 4 s (([.ref h, .int p1, .int p2, .int p3] : List Value).toArray) zB RX8 := ⟨hx, hb, hml, hown, hz⟩
  have hD := hD0.self (sz := s.heap.size)
  generalize hAe : va_A (cw_X8_trials cI h h_bowls h_bowls_fewest g_world g_images g_pad g_hearing g_guesses f_bowls_fewest) s.heap.size = A at hD ⊢
  have hA : ∀ q : Nat, s.heap.size ≤ q → A q := fun q h => by rw [← hAe]; exact Or.inr h
  have hS : va_S A s.heap s.heap [] := va_S.rf
  have hP : va_P D vwCl (cw_X8_trials cI h h_bowls h_bowls_fewest g_world g_images g_pad g_hearing g_guesses f_bowls_fewest) s.heap := hP
  have hl := lv_entry ([.ref h, .int p1, .int p2, .int p3]) (n := 4) (Nat.le_of_ble_eq_true rfl)
  rw [lg_entry_eq]
  generalize (lg_sl ([.ref h, .int p1, .int p2, .int p3]) ++ List.replicate (4 - (lg_sl ([.ref h, .int p1, .int p2, .int p3])).length) Slot.unset).toArray = ls at hl ⊢
  have hl : lv_has ls 4 [(0, .ref h), (1, .int p1), (2, .int p2), (3, .int p3)] := hl
  unfold w_X8_trials at hw
  refine lv_iload_n hx hb dX8_trials_0 rfl (lv_at hl 1 rfl) ?_
  refine lv_iconst (v := (1 : Int32)) hx hb dX8_trials_1 (by decide) ?_
  refine lv_bipush (v := (99 : Int32)) hx hb dX8_trials_2 (by decide) ?_
  refine z_ri (z_runS (As := [.int p1, .int (1 : Int32), .int (99 : Int32)]) (rest := []) hF (c_X8_within l D cI cC cZ p1 (1 : Int32) (99 : Int32) _ _ hw) (va_cwS 3 hz (z_gS z1_212 z1_213 z1_1 z1_214) rfl rfl rfl hd_X8_within ⟨Nat.le_of_ble_eq_true rfl, Nat.le_of_ble_eq_true rfl⟩) hK hP hD [] rfl rfl rfl hl.1 rfl (Nat.le_of_ble_eq_true rfl) dX8_trials_4 ⟨Nat.zero_le _, Nat.zero_le _⟩) hP hD hS hA [] rfl (fun _ => rfl) (fun _ => cw_X8_trials cI h h_bowls h_bowls_fewest g_world g_images g_pad g_hearing g_guesses f_bowls_fewest) (fun _ => rfl) (fun r4 u4 H locs hw hP hD hS => ?_)
  obtain ⟨hn4, hw⟩ := hw
  try dsimp only at hw
  refine lv_if_eq (tgt := 29) hx hb dX8_trials_7 (by decide) (fun c7 => ?_) (fun c7 => ?_)
  · have hw := hw.1 c7
    refine lv_bipush (v := (-2 : Int32)) hx hb dX8_trials_29 (by decide) ?_
    exact z_iret hx hb hr hlocks f_bowls_fewest hw hP hS dX8_trials_31
  have hw := hw.2 c7
  refine lv_iload_n hx hb dX8_trials_10 rfl (lv_at hl 2 rfl) ?_
  refine lv_iconst (v := (1 : Int32)) hx hb dX8_trials_11 (by decide) ?_
  refine lv_bipush (v := (20 : Int32)) hx hb dX8_trials_12 (by decide) ?_
  refine z_ri (z_runS (As := [.int p2, .int (1 : Int32), .int (20 : Int32)]) (rest := []) hF (c_X8_within l D cI cC cZ p2 (1 : Int32) (20 : Int32) _ _ hw) (va_cwS 3 hz (z_gS z1_212 z1_213 z1_1 z1_214) rfl rfl rfl hd_X8_within ⟨Nat.le_of_ble_eq_true rfl, Nat.le_of_ble_eq_true rfl⟩) hK hP hD [] rfl rfl rfl hl.1 rfl (Nat.le_of_ble_eq_true rfl) dX8_trials_14 ⟨Nat.zero_le _, Nat.zero_le _⟩) hP hD hS hA [] rfl (fun _ => rfl) (fun _ => cw_X8_trials cI h h_bowls h_bowls_fewest g_world g_images g_pad g_hearing g_guesses f_bowls_fewest) (fun _ => rfl) (fun r14 u14 H locs hw hP hD hS => ?_)
  obtain ⟨hn14, hw⟩ := hw
  try dsimp only at hw
  refine lv_if_eq (tgt := 29) hx hb dX8_trials_17 (by decide) (fun c17 => ?_) (fun c17 => ?_)
  · have hw := hw.1 c17
    refine lv_bipush (v := (-2 : Int32)) hx hb dX8_trials_29 (by decide) ?_
    exact z_iret hx hb hr hlocks f_bowls_fewest hw hP hS dX8_trials_31
  have hw := hw.2 c17
  refine lv_iload_n hx hb dX8_trials_20 rfl (lv_at hl 3 rfl) ?_
  refine lv_iconst (v := (0 : Int32)) hx hb dX8_trials_21 (by decide) ?_
  refine lv_iconst (v := (1 : Int32)) hx hb dX8_trials_22 (by decide) ?_
  refine z_ri (z_runS (As := [.int p3, .int (0 : Int32), .int (1 : Int32)]) (rest := []) hF (c_X8_within l D cI cC cZ p3 (0 : Int32) (1 : Int32) _ _ hw) (va_cwS 3 hz (z_gS z1_212 z1_213 z1_1 z1_214) rfl rfl rfl hd_X8_within ⟨Nat.le_of_ble_eq_true rfl, Nat.le_of_ble_eq_true rfl⟩) hK hP hD [] rfl rfl rfl hl.1 rfl (Nat.le_of_ble_eq_true rfl) dX8_trials_23 ⟨Nat.zero_le _, Nat.zero_le _⟩) hP hD hS hA [] rfl (fun _ => rfl) (fun _ => cw_X8_trials cI h h_bowls h_bowls_fewest g_world g_images g_pad g_hearing g_guesses f_bowls_fewest) (fun _ => rfl) (fun r23 u23 H locs hw hP hD hS => ?_)
  obtain ⟨hn23, hw⟩ := hw
  try dsimp only at hw
  refine lv_if_ne (tgt := 32) hx hb dX8_trials_26 (by decide) (fun c26 => ?_) (fun c26 => ?_)
  · have hw := hw.2 c26
    refine lv_aload_n hx hb dX8_trials_32 rfl (lv_at hl 0 rfl) ?_
    refine va_get (D := D) (ci := 8) (v := .ref h_bowls) (C := RX8) (T := TX8) (N := 6) hx hb hz hX_X8 hown hK.1 hP 0 rfl rfl 4 (by decide) (hz _ z1_187) (fun _ h9 => h9) rfl dX8_trials_33 ?_
    refine lv_iload_n hx hb dX8_trials_36 rfl (lv_at hl 1 rfl) ?_
    refine lv_iload_n hx hb dX8_trials_37 rfl (lv_at hl 2 rfl) ?_
    refine z_rv (z_runV (As := [.int p1, .int p2]) (rest := []) hF (c_X0_weigh l D cI cC cZ h_bowls h_bowls_fewest f_bowls_fewest p1 p2 _ _ hw) (cwV 2 hz (z_gV z2_185 z2_186 z2_187 z1_8 z2_188) rfl rfl rfl hd_X0_weigh ⟨Nat.le_of_ble_eq_true rfl, Nat.le_of_ble_eq_true rfl⟩) hK hP hD [1, 2] rfl rfl 1 0 rfl rfl rfl rfl hl.1 rfl (Nat.le_of_ble_eq_true rfl) dX8_trials_38 ⟨Nat.zero_le _, Nat.zero_le _⟩) hP hD hS hA [1, 2] rfl (fun _ => rfl) (fun u => cw_X8_trials cI h h_bowls h_bowls_fewest g_world g_images g_pad g_hearing g_guesses u) (fun _ => rfl) (fun u38_0 H locs hw hP hD hS => ?_)
    try dsimp only at hw
    have hP : va_P D vwCl (cw_X8_trials cI h h_bowls h_bowls_fewest g_world g_images g_pad g_hearing g_guesses u38_0) H := hP
    have hD : va_D A (cw_X8_trials cI h h_bowls h_bowls_fewest g_world g_images g_pad g_hearing g_guesses u38_0) := hD
    refine lv_iload_n hx hb dX8_trials_41 rfl (lv_at hl 3 rfl) ?_
    refine lv_if_ne (tgt := 56) hx hb dX8_trials_42 (by decide) (fun c42 => ?_) (fun c42 => ?_)
    · have hw := hw.2 c42
      refine lv_aload_n hx hb dX8_trials_56 rfl (lv_at hl 0 rfl) ?_
      refine va_get (D := D) (ci := 8) (v := .ref h_bowls) (C := RX8) (T := TX8) (N := 6) hx hb hz hX_X8 hown hK.1 hP 0 rfl rfl 4 (by decide) (hz _ z1_187) (fun _ h9 => h9) rfl dX8_trials_57 ?_
      refine lv_iload_n hx hb dX8_trials_60 rfl (lv_at hl 1 rfl) ?_
      refine lv_iload_n hx hb dX8_trials_61 rfl (lv_at hl 2 rfl) ?_
      refine z_ri (z_runV (As := [.int p1, .int p2]) (rest := []) hF (c_X0_leastFirst l D cI cC cZ h_bowls h_bowls_fewest u38_0 p1 p2 _ _ hw) (cwV 2 hz (z_gV z2_203 z2_204 z2_205 z1_8 z2_206) rfl rfl rfl hd_X0_leastFirst ⟨Nat.le_of_ble_eq_true rfl, Nat.le_of_ble_eq_true rfl⟩) hK hP hD [1, 2] rfl rfl 1 0 rfl rfl rfl rfl hl.1 rfl (Nat.le_of_ble_eq_true rfl) dX8_trials_62 ⟨Nat.zero_le _, Nat.zero_le _⟩) hP hD hS hA [1, 2] rfl (fun _ => rfl) (fun _ => cw_X8_trials cI h h_bowls h_bowls_fewest g_world g_images g_pad g_hearing g_guesses u38_0) (fun _ => rfl) (fun r62 u62 H locs hw hP hD hS => ?_)
      try dsimp only at hw
      exact z_iret hx hb hr hlocks u38_0 hw hP hS dX8_trials_65
    have hw := hw.1 c42
    refine lv_aload_n hx hb dX8_trials_45 rfl (lv_at hl 0 rfl) ?_
    refine va_get (D := D) (ci := 8) (v := .ref h_bowls) (C := RX8) (T := TX8) (N := 6) hx hb hz hX_X8 hown hK.1 hP 0 rfl rfl 4 (by decide) (hz _ z1_187) (fun _ h9 => h9) rfl dX8_trials_46 ?_
    refine lv_iload_n hx hb dX8_trials_49 rfl (lv_at hl 1 rfl) ?_
    refine z_ri (z_runV (As := [.int p1]) (rest := []) hF (c_X0_fewestFor l D cI cC cZ h_bowls h_bowls_fewest u38_0 p1 _ _ hw) (cwV 1 hz (z_gV z2_202 z2_194 z2_195 z1_8 z2_196) rfl rfl rfl hd_X0_fewestFor ⟨Nat.le_of_ble_eq_true rfl, Nat.le_of_ble_eq_true rfl⟩) hK hP hD [1, 2] rfl rfl 1 0 rfl rfl rfl rfl hl.1 rfl (Nat.le_of_ble_eq_true rfl) dX8_trials_50 ⟨Nat.zero_le _, Nat.zero_le _⟩) hP hD hS hA [1, 2] rfl (fun _ => rfl) (fun _ => cw_X8_trials cI h h_bowls h_bowls_fewest g_world g_images g_pad g_hearing g_guesses u38_0) (fun _ => rfl) (fun r50 u50 H locs hw hP hD hS => ?_)
    try dsimp only at hw
    refine lv_goto (tgt := 65) hx hb dX8_trials_53 (by decide) ?_
    exact z_iret hx hb hr hlocks u38_0 hw hP hS dX8_trials_65
  have hw := hw.1 c26
  refine lv_bipush (v := (-2 : Int32)) hx hb dX8_trials_29 (by decide) ?_
  exact z_iret hx hb hr hlocks f_bowls_fewest hw hP hS dX8_trials_31
abbrev cw_X6_besideAny (cI : ClassId) (h h_ways : Nat) (g_milky : Value) (f_ways : Nat → Int32) : va_W := [(h, .inr (6, [.ref h_ways, g_milky])), (h_ways, .inl (cI, 12, .inl f_ways))]
abbrev q_X6_besideAny (D : va_G) (cI : ClassId) (h h_ways : Nat) (g_milky : Value) (post : Int32 → Prop) (f_ways : Nat → Int32) (A : Nat → Prop) : Array Value → State → Outcome → State → Prop := va_Qi (S := Unit) (fun r _ => post r ) (fun _ t => va_P D vwCl (cw_X6_besideAny cI h h_ways g_milky f_ways) t.heap) A
abbrev v_X6_besideAny : List Cond := .code yX6_besideAny cX6_besideAny 4 (some .int) :: zB
theorem hd_X6_besideAny : yX6_besideAny.cls = RX6 ∧ yX6_besideAny.cls ≠ "java/lang/invoke/MethodHandle" ∧ yX6_besideAny.cls ≠ "java/lang/invoke/VarHandle" ∧ (parseMethodDescriptor yX6_besideAny.desc).map (fun d => d.parameters.length) = some 1 := by decide +kernel
set_option maxHeartbeats 4000000 in
set_option maxRecDepth 100000 in
theorem c_X6_besideAny (l : Launch) (D : va_G) (cI cC cZ : ClassId) (h h_ways : Nat) (g_milky : Value) (f_ways : Nat → Int32) (p1 : Int32) (sz : Nat) (post : Int32 → Prop) (hw : w_X6_besideAny post f_ways p1) : Met l yX6_besideAny v_X6_besideAny ({ frames := 0, cells := 0, slots := 0, locals := 0 } : Room) (va_Pc [.ref h, .int p1] (zPre D (zT cI cC cZ) sz (cw_X6_besideAny cI h h_ways g_milky f_ways))) (q_X6_besideAny D cI h h_ways g_milky post f_ways (va_A (cw_X6_besideAny cI h h_ways g_milky f_ways) sz)) 0 0 (va_A (cw_X6_besideAny cI h h_ways g_milky f_ways) sz) := by
  refine Met.ofW (cc := cX6_besideAny) (maxL := 4) (ret := (some .int)) (by decide) rfl ?_
  intro p e s m args below meth c s₁ B hml hv
  obtain ⟨rfl, hsz, hP, hK, hD0⟩ := hv
  subst hsz
  have hx := B.exec
  have hb := B.bytes
  have hr := B.returns
  have hz : ∀ w ∈ zB, w.before _ s = true := fun w h => atoms_spec (ws := v_X6_besideAny) B.pre w (List.mem_cons_of_mem _ h)
  have hown : s.vm.findClass RX6 = some m.cls := findClass_of_methodNamed B.named
  have hlocks := B.notSynchronized
  have hF : CallFix p m c cX6_besideAny 4 s (([.ref h, .int p1] : List Value).toArray) zB RX6 := ⟨hx, hb, hml, hown, hz⟩
  have hD := hD0.self (sz := s.heap.size)
  generalize hAe : va_A (cw_X6_besideAny cI h h_ways g_milky f_ways) s.heap.size = A at hD ⊢
  have hA : ∀ q : Nat, s.heap.size ≤ q → A q := fun q h => by rw [← hAe]; exact Or.inr h
  have hS : va_S A s.heap s.heap [] := va_S.rf
  have hP : va_P D vwCl (cw_X6_besideAny cI h h_ways g_milky f_ways) s.heap := hP
  have hl := lv_entry ([.ref h, .int p1]) (n := 4) (Nat.le_of_ble_eq_true rfl)
  rw [lg_entry_eq]
  generalize (lg_sl ([.ref h, .int p1]) ++ List.replicate (4 - (lg_sl ([.ref h, .int p1])).length) Slot.unset).toArray = ls at hl ⊢
  have hl : lv_has ls 4 [(0, .ref h), (1, .int p1)] := hl
  have L4 : ∀ (n4 : Nat) (x2 : Int32) (x3 : Int32) (H : Heap) (locs : List Loc) (ls : Array Slot) (hw : w_X6_besideAny_B4 post f_ways p1 n4 x2 x3) (hP : va_P D vwCl (cw_X6_besideAny cI h h_ways g_milky f_ways) H) (hD : va_D A (cw_X6_besideAny cI h h_ways g_milky f_ways)) (hS : va_S A s.heap H locs) (hl : lv_has ls 4 [(0, .ref h), (1, .int p1), (2, .int x2), (3, .int x3)]), W p l e (headSpec v_X6_besideAny ({ frames := 0, cells := 0, slots := 0, locals := 0 } : Room)).room s m (([.ref h, .int p1] : List Value).toArray) below meth c H locs 0 0 (MQ below (q_X6_besideAny D cI h h_ways g_milky post f_ways A) (([.ref h, .int p1] : List Value).toArray) s 0 0 A) (F0 m 4 ls []) := by
    intro n4
    induction n4 with
    | zero => intro x2 x3 H locs ls hw; exact False.elim hw
    | succ n4 ih4 =>
      intro x2 x3 H locs ls hw hP hD hS hl
      unfold w_X6_besideAny_B4 at hw
      refine lv_iload_n hx hb dX6_besideAny_4 rfl (lv_at hl 3 rfl) ?_
      refine lv_bipush (v := (12 : Int32)) hx hb dX6_besideAny_5 (by decide) ?_
      refine lv_icmp_ge (tgt := 34) hx hb dX6_besideAny_7 (by decide) (fun c7 => ?_) (fun c7 => ?_)
      · have hw := hw.1 c7
        refine lv_iload_n hx hb dX6_besideAny_34 rfl (lv_at hl 2 rfl) ?_
        exact z_iret hx hb hr hlocks () hw hP hS dX6_besideAny_35
      have hw := hw.2 c7
      refine lv_iload_n hx hb dX6_besideAny_10 rfl (lv_at hl 1 rfl) ?_
      refine lv_iload_n hx hb dX6_besideAny_11 rfl (lv_at hl 3 rfl) ?_
      refine lv_ishr hx hb dX6_besideAny_12 ?_
      refine lv_iconst (v := (1 : Int32)) hx hb dX6_besideAny_13 (by decide) ?_
      refine lv_iand hx hb dX6_besideAny_14 ?_
      refine lv_iconst (v := (1 : Int32)) hx hb dX6_besideAny_15 (by decide) ?_
      refine lv_icmp_ne (tgt := 28) hx hb dX6_besideAny_16 (by decide) (fun c16 => ?_) (fun c16 => ?_)
      · have hw := hw.2 c16
        refine lv_iinc (k := 3) (v := (x3 + 1)) (lv' := [(3, .int (x3 + 1)), (0, .ref h), (1, .int p1), (2, .int x2)]) hx hb dX6_besideAny_28 hl rfl rfl (by decide) rfl (fun ls hl => ?_)
        refine lv_goto (tgt := 4) hx hb dX6_besideAny_31 (by decide) ?_
        exact ih4 x2 (x3 + 1) _ _ _ hw hP hD hS (lv_sub hl [1, 2, 3, 0] rfl)
      have hw := hw.1 c16
      refine lv_iload_n hx hb dX6_besideAny_19 rfl (lv_at hl 2 rfl) ?_
      refine lv_aload_n hx hb dX6_besideAny_20 rfl (lv_at hl 0 rfl) ?_
      refine va_get (D := D) (ci := 6) (v := .ref h_ways) (C := RX6) (T := TX6) (N := 2) hx hb hz hX_X6 hown hK.1 hP 0 rfl rfl 0 (by decide) (hz _ z1_72) (fun _ h9 => h9) rfl dX6_besideAny_21 ?_
      refine lv_iload_n hx hb dX6_besideAny_24 rfl (lv_at hl 3 rfl) ?_
      obtain ⟨hi25, hw⟩ := hw
      refine va_iald hx hb hK.1 hP 1 0 rfl rfl hi25 dX6_besideAny_25 ?_
      refine lv_ior hx hb dX6_besideAny_26 ?_
      refine lv_topi (fun y27 ey27 => ?_)
      have hw := hw y27 ey27
      refine lv_istore_n (lv' := [(2, .int y27), (0, .ref h), (1, .int p1), (3, .int x3)]) hx hb dX6_besideAny_27 rfl hl (by decide) rfl (fun ls hl => ?_)
      refine lv_iinc (k := 3) (v := (x3 + 1)) (lv' := [(3, .int (x3 + 1)), (2, .int y27), (0, .ref h), (1, .int p1)]) hx hb dX6_besideAny_28 hl rfl rfl (by decide) rfl (fun ls hl => ?_)
      refine lv_goto (tgt := 4) hx hb dX6_besideAny_31 (by decide) ?_
      exact ih4 y27 (x3 + 1) _ _ _ hw hP hD hS (lv_sub hl [2, 3, 1, 0] rfl)
  unfold w_X6_besideAny at hw
  refine lv_iconst (v := (0 : Int32)) hx hb dX6_besideAny_0 (by decide) ?_
  refine lv_istore_n (lv' := [(2, .int (0 : Int32)), (0, .ref h), (1, .int p1)]) hx hb dX6_besideAny_1 rfl hl (by decide) rfl (fun ls hl => ?_)
  refine lv_iconst (v := (0 : Int32)) hx hb dX6_besideAny_2 (by decide) ?_
  refine lv_istore_n (lv' := [(3, .int (0 : Int32)), (2, .int (0 : Int32)), (0, .ref h), (1, .int p1)]) hx hb dX6_besideAny_3 rfl hl (by decide) rfl (fun ls hl => ?_)
  obtain ⟨n4, hw⟩ := hw
  exact L4 n4 (0 : Int32) (0 : Int32) _ _ _ hw hP hD hS (lv_sub hl [2, 3, 1, 0] rfl)
abbrev cw_X6_safeCells (cI : ClassId) (h h_ways : Nat) (g_milky : Value) (f_ways : Nat → Int32) : va_W := [(h, .inr (6, [.ref h_ways, g_milky])), (h_ways, .inl (cI, 12, .inl f_ways))]
abbrev q_X6_safeCells (D : va_G) (cI : ClassId) (h h_ways : Nat) (g_milky : Value) (post : Int32 → Prop) (f_ways : Nat → Int32) (A : Nat → Prop) : Array Value → State → Outcome → State → Prop := va_Qi (S := Unit) (fun r _ => post r ) (fun _ t => va_P D vwCl (cw_X6_safeCells cI h h_ways g_milky f_ways) t.heap) A
abbrev v_X6_safeCells : List Cond := .code yX6_safeCells cX6_safeCells 2 (some .int) :: zB
theorem hd_X6_safeCells : yX6_safeCells.cls = RX6 ∧ yX6_safeCells.cls ≠ "java/lang/invoke/MethodHandle" ∧ yX6_safeCells.cls ≠ "java/lang/invoke/VarHandle" ∧ (parseMethodDescriptor yX6_safeCells.desc).map (fun d => d.parameters.length) = some 1 := by decide +kernel
set_option maxHeartbeats 4000000 in
set_option maxRecDepth 100000 in
theorem c_X6_safeCells (l : Launch) (D : va_G) (cI cC cZ : ClassId) (h h_ways : Nat) (g_milky : Value) (f_ways : Nat → Int32) (p1 : Int32) (sz : Nat) (post : Int32 → Prop) (hw : w_X6_safeCells post f_ways p1) : Met l yX6_safeCells v_X6_safeCells ({ frames := 1, cells := 0, slots := 0, locals := 23 } : Room) (va_Pc [.ref h, .int p1] (zPre D (zT cI cC cZ) sz (cw_X6_safeCells cI h h_ways g_milky f_ways))) (q_X6_safeCells D cI h h_ways g_milky post f_ways (va_A (cw_X6_safeCells cI h h_ways g_milky f_ways) sz)) 0 0 (va_A (cw_X6_safeCells cI h h_ways g_milky f_ways) sz) := by
  refine Met.ofW (cc := cX6_safeCells) (maxL := 2) (ret := (some .int)) (by decide) rfl ?_
  intro p e s m args below meth c s₁ B hml hv
  obtain ⟨rfl, hsz, hP, hK, hD0⟩ := hv
  subst hsz
  have hx := B.exec
  have hb := B.bytes
  have hr := B.returns
  have hz : ∀ w ∈ zB, w.before _ s = true := fun w h => atoms_spec (ws := v_X6_safeCells) B.pre w (List.mem_cons_of_mem _ h)
  have hown : s.vm.findClass RX6 = some m.cls := findClass_of_methodNamed B.named
  have hlocks := B.notSynchronized
  have hF : CallFix p m c cX6_safeCells 2 s (([.ref h, .int p1] : List Value).toArray) zB RX6 := ⟨hx, hb, hml, hown, hz⟩
  have hD := hD0.self (sz := s.heap.size)
  generalize hAe : va_A (cw_X6_safeCells cI h h_ways g_milky f_ways) s.heap.size = A at hD ⊢
  have hA : ∀ q : Nat, s.heap.size ≤ q → A q := fun q h => by rw [← hAe]; exact Or.inr h
  have hS : va_S A s.heap s.heap [] := va_S.rf
  have hP : va_P D vwCl (cw_X6_safeCells cI h h_ways g_milky f_ways) s.heap := hP
  have hl := lv_entry ([.ref h, .int p1]) (n := 2) (Nat.le_of_ble_eq_true rfl)
  rw [lg_entry_eq]
  generalize (lg_sl ([.ref h, .int p1]) ++ List.replicate (2 - (lg_sl ([.ref h, .int p1])).length) Slot.unset).toArray = ls at hl ⊢
  have hl : lv_has ls 2 [(0, .ref h), (1, .int p1)] := hl
  unfold w_X6_safeCells at hw
  refine lv_sipush (v := (4095 : Int32)) hx hb dX6_safeCells_0 (by decide) ?_
  refine lv_iload_n hx hb dX6_safeCells_3 rfl (lv_at hl 1 rfl) ?_
  refine lv_aload_n hx hb dX6_safeCells_4 rfl (lv_at hl 0 rfl) ?_
  refine lv_iload_n hx hb dX6_safeCells_5 rfl (lv_at hl 1 rfl) ?_
  refine z_ri (z_runV (As := [.int p1]) (rest := [.int p1, .int (4095 : Int32)]) hF (c_X6_besideAny l D cI cC cZ h h_ways g_milky f_ways p1 _ _ hw) (cwV 1 hz (z_gV z2_215 z2_217 zp_13 z1_4 z2_218) rfl rfl rfl hd_X6_besideAny ⟨Nat.le_of_ble_eq_true rfl, Nat.le_of_ble_eq_true rfl⟩) hK hP hD [0, 1] rfl rfl 0 6 rfl rfl rfl rfl hl.1 rfl (Nat.le_of_ble_eq_true rfl) dX6_safeCells_6 ⟨Nat.zero_le _, Nat.zero_le _⟩) hP hD hS hA [0, 1] rfl (fun _ => rfl) (fun _ => cw_X6_safeCells cI h h_ways g_milky f_ways) (fun _ => rfl) (fun r6 u6 H locs hw hP hD hS => ?_)
  try dsimp only at hw
  refine lv_ior hx hb dX6_safeCells_9 ?_
  refine lv_iconst (v := (-1 : Int32)) hx hb dX6_safeCells_10 (by decide) ?_
  refine lv_ixor hx hb dX6_safeCells_11 ?_
  refine lv_iand hx hb dX6_safeCells_12 ?_
  exact z_iret hx hb hr hlocks () hw hP hS dX6_safeCells_13
abbrev cw_X6_steps (cI : ClassId) (h h_ways : Nat) (g_milky : Value) (f_ways : Nat → Int32) : va_W := [(h, .inr (6, [.ref h_ways, g_milky])), (h_ways, .inl (cI, 12, .inl f_ways))]
abbrev q_X6_steps (D : va_G) (cI : ClassId) (h h_ways : Nat) (g_milky : Value) (post : Int32 → Prop) (f_ways : Nat → Int32) (A : Nat → Prop) : Array Value → State → Outcome → State → Prop := va_Qi (S := Unit) (fun r _ => post r ) (fun _ t => va_P D vwCl (cw_X6_steps cI h h_ways g_milky f_ways) t.heap) A
abbrev v_X6_steps : List Cond := .code yX6_steps cX6_steps 7 (some .int) :: zB
theorem hd_X6_steps : yX6_steps.cls = RX6 ∧ yX6_steps.cls ≠ "java/lang/invoke/MethodHandle" ∧ yX6_steps.cls ≠ "java/lang/invoke/VarHandle" ∧ (parseMethodDescriptor yX6_steps.desc).map (fun d => d.parameters.length) = some 3 := by decide +kernel
set_option maxHeartbeats 4000000 in
set_option maxRecDepth 100000 in
theorem c_X6_steps (l : Launch) (D : va_G) (cI cC cZ : ClassId) (h h_ways : Nat) (g_milky : Value) (f_ways : Nat → Int32) (p1 : Int32) (p2 : Int32) (p3 : Int32) (sz : Nat) (post : Int32 → Prop) (hw : w_X6_steps post f_ways p1 p2 p3) : Met l yX6_steps v_X6_steps ({ frames := 1, cells := 0, slots := 0, locals := 23 } : Room) (va_Pc [.ref h, .int p1, .int p2, .int p3] (zPre D (zT cI cC cZ) sz (cw_X6_steps cI h h_ways g_milky f_ways))) (q_X6_steps D cI h h_ways g_milky post f_ways (va_A (cw_X6_steps cI h h_ways g_milky f_ways) sz)) 0 0 (va_A (cw_X6_steps cI h h_ways g_milky f_ways) sz) := by
  refine Met.ofW (cc := cX6_steps) (maxL := 7) (ret := (some .int)) (by decide) rfl ?_
  intro p e s m args below meth c s₁ B hml hv
  obtain ⟨rfl, hsz, hP, hK, hD0⟩ := hv
  subst hsz
  have hx := B.exec
  have hb := B.bytes
  have hr := B.returns
  have hz : ∀ w ∈ zB, w.before _ s = true := fun w h => atoms_spec (ws := v_X6_steps) B.pre w (List.mem_cons_of_mem _ h)
  have hown : s.vm.findClass RX6 = some m.cls := findClass_of_methodNamed B.named
  have hlocks := B.notSynchronized
  have hF : CallFix p m c cX6_steps 7 s (([.ref h, .int p1, .int p2, .int p3] : List Value).toArray) zB RX6 := ⟨hx, hb, hml, hown, hz⟩
  have hD := hD0.self (sz := s.heap.size)
  generalize hAe : va_A (cw_X6_steps cI h h_ways g_milky f_ways) s.heap.size = A at hD ⊢
  have hA : ∀ q : Nat, s.heap.size ≤ q → A q := fun q h => by rw [← hAe]; exact Or.inr h
  have hS : va_S A s.heap s.heap [] := va_S.rf
  have hP : va_P D vwCl (cw_X6_steps cI h h_ways g_milky f_ways) s.heap := hP
  have hl := lv_entry ([.ref h, .int p1, .int p2, .int p3]) (n := 7) (Nat.le_of_ble_eq_true rfl)
  rw [lg_entry_eq]
  generalize (lg_sl ([.ref h, .int p1, .int p2, .int p3]) ++ List.replicate (7 - (lg_sl ([.ref h, .int p1, .int p2, .int p3])).length) Slot.unset).toArray = ls at hl ⊢
  have hl : lv_has ls 7 [(0, .ref h), (1, .int p1), (2, .int p2), (3, .int p3)] := hl
  have L10 : ∀ (n10 : Nat) (x4 : Int32) (x5 : Int32) (H : Heap) (locs : List Loc) (ls : Array Slot) (hw : w_X6_steps_B10 post f_ways p1 p2 p3 n10 x4 x5) (hP : va_P D vwCl (cw_X6_steps cI h h_ways g_milky f_ways) H) (hD : va_D A (cw_X6_steps cI h h_ways g_milky f_ways)) (hS : va_S A s.heap H locs) (hl : lv_has ls 7 [(0, .ref h), (2, .int p2), (3, .int p3), (4, .int x4), (5, .int x5)]), W p l e (headSpec v_X6_steps ({ frames := 1, cells := 0, slots := 0, locals := 23 } : Room)).room s m (([.ref h, .int p1, .int p2, .int p3] : List Value).toArray) below meth c H locs 0 0 (MQ below (q_X6_steps D cI h h_ways g_milky post f_ways A) (([.ref h, .int p1, .int p2, .int p3] : List Value).toArray) s 0 0 A) (F0 m 10 ls []) := by
    intro n10
    induction n10 with
    | zero => intro x4 x5 H locs ls hw; exact False.elim hw
    | succ n10 ih10 =>
      intro x4 x5 H locs ls hw hP hD hS hl
      unfold w_X6_steps_B10 at hw
      refine lv_iload hx hb dX6_steps_10 (lv_at hl 4 rfl) ?_
      refine lv_bipush (v := (12 : Int32)) hx hb dX6_steps_12 (by decide) ?_
      refine lv_icmp_ge (tgt := 63) hx hb dX6_steps_14 (by decide) (fun c14 => ?_) (fun c14 => ?_)
      · have hw := hw.1 c14
        refine lv_bipush (v := (-6 : Int32)) hx hb dX6_steps_63 (by decide) ?_
        exact z_iret hx hb hr hlocks () hw hP hS dX6_steps_65
      have hw := hw.2 c14
      refine lv_iload hx hb dX6_steps_17 (lv_at hl 3 rfl) ?_
      refine lv_iload_n hx hb dX6_steps_19 rfl (lv_at hl 1 rfl) ?_
      refine lv_ishr hx hb dX6_steps_20 ?_
      refine lv_iconst (v := (1 : Int32)) hx hb dX6_steps_21 (by decide) ?_
      refine lv_iand hx hb dX6_steps_22 ?_
      refine lv_iconst (v := (1 : Int32)) hx hb dX6_steps_23 (by decide) ?_
      refine lv_icmp_ne (tgt := 30) hx hb dX6_steps_24 (by decide) (fun c24 => ?_) (fun c24 => ?_)
      · have hw := hw.2 c24
        refine lv_iload hx hb dX6_steps_30 (lv_at hl 3 rfl) ?_
        refine lv_aload_n hx hb dX6_steps_32 rfl (lv_at hl 0 rfl) ?_
        refine lv_iload hx hb dX6_steps_33 (lv_at hl 3 rfl) ?_
        refine z_ri (z_runV (As := [.int x4]) (rest := [.int x4]) hF (c_X6_besideAny l D cI cC cZ h h_ways g_milky f_ways x4 _ _ hw) (cwV 1 hz (z_gV z2_215 z2_217 zp_13 z1_4 z2_218) rfl rfl rfl hd_X6_besideAny ⟨Nat.le_of_ble_eq_true rfl, Nat.le_of_ble_eq_true rfl⟩) hK hP hD [0, 1] rfl rfl 0 6 rfl rfl rfl rfl hl.1 rfl (Nat.le_of_ble_eq_true rfl) dX6_steps_35 ⟨Nat.zero_le _, Nat.zero_le _⟩) hP hD hS hA [0, 1] rfl (fun _ => rfl) (fun _ => cw_X6_steps cI h h_ways g_milky f_ways) (fun _ => rfl) (fun r35 u35 H locs hw hP hD hS => ?_)
        try dsimp only at hw
        refine lv_iload_n hx hb dX6_steps_38 rfl (lv_at hl 2 rfl) ?_
        refine lv_iand hx hb dX6_steps_39 ?_
        refine lv_ior hx hb dX6_steps_40 ?_
        refine lv_istore (lv' := [(6, .int (x4 ||| (r35 &&& p3))), (0, .ref h), (2, .int p2), (3, .int p3), (4, .int x4), (5, .int x5)]) hx hb dX6_steps_41 hl (by decide) rfl (fun ls hl => ?_)
        refine lv_iload hx hb dX6_steps_43 (lv_at hl 0 rfl) ?_
        refine lv_iload hx hb dX6_steps_45 (lv_at hl 4 rfl) ?_
        refine lv_icmp_ne (tgt := 53) hx hb dX6_steps_47 (by decide) (fun c47 => ?_) (fun c47 => ?_)
        · have hw := hw.2 c47
          refine lv_iload hx hb dX6_steps_53 (lv_at hl 0 rfl) ?_
          refine lv_istore (lv' := [(4, .int (x4 ||| (r35 &&& p3))), (6, .int (x4 ||| (r35 &&& p3))), (0, .ref h), (2, .int p2), (3, .int p3), (5, .int x5)]) hx hb dX6_steps_55 hl (by decide) rfl (fun ls hl => ?_)
          refine lv_iinc (k := 5) (v := (x5 + 1)) (lv' := [(5, .int (x5 + 1)), (4, .int (x4 ||| (r35 &&& p3))), (6, .int (x4 ||| (r35 &&& p3))), (0, .ref h), (2, .int p2), (3, .int p3)]) hx hb dX6_steps_57 hl rfl rfl (by decide) rfl (fun ls hl => ?_)
          refine lv_goto (tgt := 10) hx hb dX6_steps_60 (by decide) ?_
          exact ih10 (x4 ||| (r35 &&& p3)) (x5 + 1) _ _ _ hw hP hD hS (lv_sub hl [3, 4, 5, 1, 0] rfl)
        have hw := hw.1 c47
        refine lv_bipush (v := (-6 : Int32)) hx hb dX6_steps_50 (by decide) ?_
        exact z_iret hx hb hr hlocks () hw hP hS dX6_steps_52
      have hw := hw.1 c24
      refine lv_iload hx hb dX6_steps_27 (lv_at hl 4 rfl) ?_
      exact z_iret hx hb hr hlocks () hw hP hS dX6_steps_29
  unfold w_X6_steps at hw
  refine lv_iconst (v := (1 : Int32)) hx hb dX6_steps_0 (by decide) ?_
  refine lv_iload_n hx hb dX6_steps_1 rfl (lv_at hl 1 rfl) ?_
  refine lv_ishl hx hb dX6_steps_2 ?_
  refine lv_iload_n hx hb dX6_steps_3 rfl (lv_at hl 3 rfl) ?_
  refine lv_iand hx hb dX6_steps_4 ?_
  refine lv_topi (fun y5 ey5 => ?_)
  have hw := hw y5 ey5
  refine lv_istore (lv' := [(4, .int y5), (0, .ref h), (1, .int p1), (2, .int p2), (3, .int p3)]) hx hb dX6_steps_5 hl (by decide) rfl (fun ls hl => ?_)
  refine lv_iconst (v := (0 : Int32)) hx hb dX6_steps_7 (by decide) ?_
  refine lv_istore (lv' := [(5, .int (0 : Int32)), (4, .int y5), (0, .ref h), (1, .int p1), (2, .int p2), (3, .int p3)]) hx hb dX6_steps_8 hl (by decide) rfl (fun ls hl => ?_)
  obtain ⟨n10, hw⟩ := hw
  exact L10 n10 y5 (0 : Int32) _ _ _ hw hP hD hS (lv_sub hl [2, 4, 5, 1, 0] rfl)
abbrev cw_X6_waysFrom (cI : ClassId) (h h_ways : Nat) (g_milky : Value) (f_ways : Nat → Int32) : va_W := [(h, .inr (6, [.ref h_ways, g_milky])), (h_ways, .inl (cI, 12, .inl f_ways))]
abbrev q_X6_waysFrom (D : va_G) (cI : ClassId) (h h_ways : Nat) (g_milky : Value) (post : Int32 → Prop) (f_ways : Nat → Int32) (A : Nat → Prop) : Array Value → State → Outcome → State → Prop := va_Qi (S := Unit) (fun r _ => post r ) (fun _ t => va_P D vwCl (cw_X6_waysFrom cI h h_ways g_milky f_ways) t.heap) A
abbrev v_X6_waysFrom : List Cond := .code yX6_waysFrom cX6_waysFrom 2 (some .int) :: zB
theorem hd_X6_waysFrom : yX6_waysFrom.cls = RX6 ∧ yX6_waysFrom.cls ≠ "java/lang/invoke/MethodHandle" ∧ yX6_waysFrom.cls ≠ "java/lang/invoke/VarHandle" ∧ (parseMethodDescriptor yX6_waysFrom.desc).map (fun d => d.parameters.length) = some 1 := by decide +kernel
set_option maxHeartbeats 4000000 in
set_option maxRecDepth 100000 in
theorem c_X6_waysFrom (l : Launch) (D : va_G) (cI cC cZ : ClassId) (h h_ways : Nat) (g_milky : Value) (f_ways : Nat → Int32) (p1 : Int32) (sz : Nat) (post : Int32 → Prop) (hw : w_X6_waysFrom post f_ways p1) : Met l yX6_waysFrom v_X6_waysFrom ({ frames := 1, cells := 0, slots := 0, locals := 20 } : Room) (va_Pc [.ref h, .int p1] (zPre D (zT cI cC cZ) sz (cw_X6_waysFrom cI h h_ways g_milky f_ways))) (q_X6_waysFrom D cI h h_ways g_milky post f_ways (va_A (cw_X6_waysFrom cI h h_ways g_milky f_ways) sz)) 0 0 (va_A (cw_X6_waysFrom cI h h_ways g_milky f_ways) sz) := by
  refine Met.ofW (cc := cX6_waysFrom) (maxL := 2) (ret := (some .int)) (by decide) rfl ?_
  intro p e s m args below meth c s₁ B hml hv
  obtain ⟨rfl, hsz, hP, hK, hD0⟩ := hv
  subst hsz
  have hx := B.exec
  have hb := B.bytes
  have hr := B.returns
  have hz : ∀ w ∈ zB, w.before _ s = true := fun w h => atoms_spec (ws := v_X6_waysFrom) B.pre w (List.mem_cons_of_mem _ h)
  have hown : s.vm.findClass RX6 = some m.cls := findClass_of_methodNamed B.named
  have hlocks := B.notSynchronized
  have hF : CallFix p m c cX6_waysFrom 2 s (([.ref h, .int p1] : List Value).toArray) zB RX6 := ⟨hx, hb, hml, hown, hz⟩
  have hD := hD0.self (sz := s.heap.size)
  generalize hAe : va_A (cw_X6_waysFrom cI h h_ways g_milky f_ways) s.heap.size = A at hD ⊢
  have hA : ∀ q : Nat, s.heap.size ≤ q → A q := fun q h => by rw [← hAe]; exact Or.inr h
  have hS : va_S A s.heap s.heap [] := va_S.rf
  have hP : va_P D vwCl (cw_X6_waysFrom cI h h_ways g_milky f_ways) s.heap := hP
  have hl := lv_entry ([.ref h, .int p1]) (n := 2) (Nat.le_of_ble_eq_true rfl)
  rw [lg_entry_eq]
  generalize (lg_sl ([.ref h, .int p1]) ++ List.replicate (2 - (lg_sl ([.ref h, .int p1])).length) Slot.unset).toArray = ls at hl ⊢
  have hl : lv_has ls 2 [(0, .ref h), (1, .int p1)] := hl
  unfold w_X6_waysFrom at hw
  refine lv_iload_n hx hb dX6_waysFrom_0 rfl (lv_at hl 1 rfl) ?_
  refine z_ri (z_runSN (As := [.int p1]) (rest := []) hF (c_X8_isCell l D cI cC cZ p1 _ _ hw) ⟨va_cnB 1 hz (z_gN z1_236) rfl rfl rfl (hK.2.1 _ (List.mem_of_getElem? (i := 19) rfl)) (hz _ z1_1) hd_X8_isCell ⟨Nat.le_of_ble_eq_true rfl, Nat.le_of_ble_eq_true rfl⟩, (hz _ z1_235), trivial⟩ hK hP hD [] rfl rfl rfl hl.1 rfl (Nat.le_of_ble_eq_true rfl) dX6_waysFrom_1 ⟨Nat.zero_le _, Nat.zero_le _⟩) hP hD hS hA [] rfl (fun _ => rfl) (fun _ => cw_X6_waysFrom cI h h_ways g_milky f_ways) (fun _ => rfl) (fun r1 u1 H locs hw hP hD hS => ?_)
  obtain ⟨hn1, hw⟩ := hw
  try dsimp only at hw
  refine lv_if_eq (tgt := 16) hx hb dX6_waysFrom_4 (by decide) (fun c4 => ?_) (fun c4 => ?_)
  · have hw := hw.1 c4
    refine lv_iconst (v := (0 : Int32)) hx hb dX6_waysFrom_16 (by decide) ?_
    exact z_iret hx hb hr hlocks () hw hP hS dX6_waysFrom_17
  have hw := hw.2 c4
  refine lv_aload_n hx hb dX6_waysFrom_7 rfl (lv_at hl 0 rfl) ?_
  refine va_get (D := D) (ci := 6) (v := .ref h_ways) (C := RX6) (T := TX6) (N := 2) hx hb hz hX_X6 hown hK.1 hP 0 rfl rfl 0 (by decide) (hz _ z1_72) (fun _ h9 => h9) rfl dX6_waysFrom_8 ?_
  refine lv_iload_n hx hb dX6_waysFrom_11 rfl (lv_at hl 1 rfl) ?_
  obtain ⟨hi12, hw⟩ := hw
  refine va_iald hx hb hK.1 hP 1 0 rfl rfl hi12 dX6_waysFrom_12 ?_
  refine lv_goto (tgt := 17) hx hb dX6_waysFrom_13 (by decide) ?_
  exact z_iret hx hb hr hlocks () hw hP hS dX6_waysFrom_17
abbrev cw_X6_firstCell (cI : ClassId) (h h_ways : Nat) (g_milky : Value) (f_ways : Nat → Int32) : va_W := [(h, .inr (6, [.ref h_ways, g_milky])), (h_ways, .inl (cI, 12, .inl f_ways))]
abbrev q_X6_firstCell (D : va_G) (cI : ClassId) (h h_ways : Nat) (g_milky : Value) (post : Int32 → Prop) (f_ways : Nat → Int32) (A : Nat → Prop) : Array Value → State → Outcome → State → Prop := va_Qi (S := Unit) (fun r _ => post r ) (fun _ t => va_P D vwCl (cw_X6_firstCell cI h h_ways g_milky f_ways) t.heap) A
abbrev v_X6_firstCell : List Cond := .code yX6_firstCell cX6_firstCell 7 (some .int) :: zB
theorem hd_X6_firstCell : yX6_firstCell.cls = RX6 ∧ yX6_firstCell.cls ≠ "java/lang/invoke/MethodHandle" ∧ yX6_firstCell.cls ≠ "java/lang/invoke/VarHandle" ∧ (parseMethodDescriptor yX6_firstCell.desc).map (fun d => d.parameters.length) = some 3 := by decide +kernel
set_option maxHeartbeats 4000000 in
set_option maxRecDepth 100000 in
theorem c_X6_firstCell (l : Launch) (D : va_G) (cI cC cZ : ClassId) (h h_ways : Nat) (g_milky : Value) (f_ways : Nat → Int32) (p1 : Int32) (p2 : Int32) (p3 : Int32) (sz : Nat) (post : Int32 → Prop) (hw : w_X6_firstCell post f_ways p1 p2 p3) : Met l yX6_firstCell v_X6_firstCell ({ frames := 2, cells := 0, slots := 0, locals := 49 } : Room) (va_Pc [.ref h, .int p1, .int p2, .int p3] (zPre D (zT cI cC cZ) sz (cw_X6_firstCell cI h h_ways g_milky f_ways))) (q_X6_firstCell D cI h h_ways g_milky post f_ways (va_A (cw_X6_firstCell cI h h_ways g_milky f_ways) sz)) 0 0 (va_A (cw_X6_firstCell cI h h_ways g_milky f_ways) sz) := by
  refine Met.ofW (cc := cX6_firstCell) (maxL := 7) (ret := (some .int)) (by decide) rfl ?_
  intro p e s m args below meth c s₁ B hml hv
  obtain ⟨rfl, hsz, hP, hK, hD0⟩ := hv
  subst hsz
  have hx := B.exec
  have hb := B.bytes
  have hr := B.returns
  have hz : ∀ w ∈ zB, w.before _ s = true := fun w h => atoms_spec (ws := v_X6_firstCell) B.pre w (List.mem_cons_of_mem _ h)
  have hown : s.vm.findClass RX6 = some m.cls := findClass_of_methodNamed B.named
  have hlocks := B.notSynchronized
  have hF : CallFix p m c cX6_firstCell 7 s (([.ref h, .int p1, .int p2, .int p3] : List Value).toArray) zB RX6 := ⟨hx, hb, hml, hown, hz⟩
  have hD := hD0.self (sz := s.heap.size)
  generalize hAe : va_A (cw_X6_firstCell cI h h_ways g_milky f_ways) s.heap.size = A at hD ⊢
  have hA : ∀ q : Nat, s.heap.size ≤ q → A q := fun q h => by rw [← hAe]; exact Or.inr h
  have hS : va_S A s.heap s.heap [] := va_S.rf
  have hP : va_P D vwCl (cw_X6_firstCell cI h h_ways g_milky f_ways) s.heap := hP
  have hl := lv_entry ([.ref h, .int p1, .int p2, .int p3]) (n := 7) (Nat.le_of_ble_eq_true rfl)
  rw [lg_entry_eq]
  generalize (lg_sl ([.ref h, .int p1, .int p2, .int p3]) ++ List.replicate (7 - (lg_sl ([.ref h, .int p1, .int p2, .int p3])).length) Slot.unset).toArray = ls at hl ⊢
  have hl : lv_has ls 7 [(0, .ref h), (1, .int p1), (2, .int p2), (3, .int p3)] := hl
  have L20 : ∀ (n20 : Nat) (x4 : Int32) (x5 : Int32) (H : Heap) (locs : List Loc) (ls : Array Slot) (hw : w_X6_firstCell_B20 post f_ways p1 p2 p3 n20 x4 x5) (hP : va_P D vwCl (cw_X6_firstCell cI h h_ways g_milky f_ways) H) (hD : va_D A (cw_X6_firstCell cI h h_ways g_milky f_ways)) (hS : va_S A s.heap H locs) (hl : lv_has ls 7 [(0, .ref h), (1, .int p1), (2, .int p2), (3, .int p3), (4, .int x4), (5, .int x5)]), W p l e (headSpec v_X6_firstCell ({ frames := 2, cells := 0, slots := 0, locals := 49 } : Room)).room s m (([.ref h, .int p1, .int p2, .int p3] : List Value).toArray) below meth c H locs 0 0 (MQ below (q_X6_firstCell D cI h h_ways g_milky post f_ways A) (([.ref h, .int p1, .int p2, .int p3] : List Value).toArray) s 0 0 A) (F0 m 20 ls []) := by
    intro n20
    induction n20 with
    | zero => intro x4 x5 H locs ls hw; exact False.elim hw
    | succ n20 ih20 =>
      have J46 : ∀ (x4 : Int32) (x5 : Int32) (s0 : Int32) (H : Heap) (locs : List Loc) (ls : Array Slot) (hw : w_X6_firstCell_B46 post f_ways p1 p2 p3 (fun x4 x5 => w_X6_firstCell_B20 post f_ways p1 p2 p3 n20 x4 x5) x4 x5 s0) (hP : va_P D vwCl (cw_X6_firstCell cI h h_ways g_milky f_ways) H) (hD : va_D A (cw_X6_firstCell cI h h_ways g_milky f_ways)) (hS : va_S A s.heap H locs) (hl : lv_has ls 7 [(0, .ref h), (1, .int p1), (2, .int p2), (3, .int p3), (4, .int x4), (5, .int x5)]), W p l e (headSpec v_X6_firstCell ({ frames := 2, cells := 0, slots := 0, locals := 49 } : Room)).room s m (([.ref h, .int p1, .int p2, .int p3] : List Value).toArray) below meth c H locs 0 0 (MQ below (q_X6_firstCell D cI h h_ways g_milky post f_ways A) (([.ref h, .int p1, .int p2, .int p3] : List Value).toArray) s 0 0 A) (F0 m 46 ls [.int s0]) := by
        intro x4 x5 s0 H locs ls hw hP hD hS hl
        unfold w_X6_firstCell_B46 at hw
        refine lv_istore (lv' := [(6, .int s0), (0, .ref h), (1, .int p1), (2, .int p2), (3, .int p3), (4, .int x4), (5, .int x5)]) hx hb dX6_firstCell_46 hl (by decide) rfl (fun ls hl => ?_)
        refine lv_iload hx hb dX6_firstCell_48 (lv_at hl 0 rfl) ?_
        refine lv_if_eq (tgt := 71) hx hb dX6_firstCell_50 (by decide) (fun c50 => ?_) (fun c50 => ?_)
        · have hw := hw.1 c50
          refine lv_iinc (k := 6) (v := (x5 + 1)) (lv' := [(5, .int (x5 + 1)), (6, .int s0), (0, .ref h), (1, .int p1), (2, .int p2), (3, .int p3), (4, .int x4)]) hx hb dX6_firstCell_71 hl rfl rfl (by decide) rfl (fun ls hl => ?_)
          refine lv_goto (tgt := 20) hx hb dX6_firstCell_74 (by decide) ?_
          exact ih20 x4 (x5 + 1) _ _ _ hw hP hD hS (lv_sub hl [2, 3, 4, 5, 6, 0] rfl)
        have hw := hw.2 c50
        refine lv_aload_n hx hb dX6_firstCell_53 rfl (lv_at hl 1 rfl) ?_
        refine lv_iload hx hb dX6_firstCell_54 (lv_at hl 6 rfl) ?_
        refine lv_iload_n hx hb dX6_firstCell_56 rfl (lv_at hl 3 rfl) ?_
        refine lv_iload_n hx hb dX6_firstCell_57 rfl (lv_at hl 4 rfl) ?_
        refine z_ri (z_runV (As := [.int x5, .int p2, .int p3]) (rest := []) hF (c_X6_steps l D cI cC cZ h h_ways g_milky f_ways x5 p2 p3 _ _ hw) (cwV 3 hz (z_gV z2_227 z2_220 z2_221 z1_4 z2_222) rfl rfl rfl hd_X6_steps ⟨Nat.le_of_ble_eq_true rfl, Nat.le_of_ble_eq_true rfl⟩) hK hP hD [0, 1] rfl rfl 0 6 rfl rfl rfl rfl hl.1 rfl (Nat.le_of_ble_eq_true rfl) dX6_firstCell_58 ⟨Nat.zero_le _, Nat.zero_le _⟩) hP hD hS hA [0, 1] rfl (fun _ => rfl) (fun _ => cw_X6_firstCell cI h h_ways g_milky f_ways) (fun _ => rfl) (fun r58 u58 H locs hw hP hD hS => ?_)
        try dsimp only at hw
        refine lv_iload hx hb dX6_firstCell_61 (lv_at hl 5 rfl) ?_
        refine lv_iconst (v := (1 : Int32)) hx hb dX6_firstCell_63 (by decide) ?_
        refine lv_isub hx hb dX6_firstCell_64 ?_
        refine lv_icmp_ne (tgt := 71) hx hb dX6_firstCell_65 (by decide) (fun c65 => ?_) (fun c65 => ?_)
        · have hw := hw.2 c65
          refine lv_iinc (k := 6) (v := (x5 + 1)) (lv' := [(5, .int (x5 + 1)), (6, .int s0), (0, .ref h), (1, .int p1), (2, .int p2), (3, .int p3), (4, .int x4)]) hx hb dX6_firstCell_71 hl rfl rfl (by decide) rfl (fun ls hl => ?_)
          refine lv_goto (tgt := 20) hx hb dX6_firstCell_74 (by decide) ?_
          exact ih20 x4 (x5 + 1) _ _ _ hw hP hD hS (lv_sub hl [2, 3, 4, 5, 6, 0] rfl)
        have hw := hw.1 c65
        refine lv_iload hx hb dX6_firstCell_68 (lv_at hl 6 rfl) ?_
        exact z_iret hx hb hr hlocks () hw hP hS dX6_firstCell_70
      intro x4 x5 H locs ls hw hP hD hS hl
      unfold w_X6_firstCell_B20 at hw
      refine lv_iload hx hb dX6_firstCell_20 (lv_at hl 5 rfl) ?_
      refine lv_bipush (v := (12 : Int32)) hx hb dX6_firstCell_22 (by decide) ?_
      refine lv_icmp_ge (tgt := 77) hx hb dX6_firstCell_24 (by decide) (fun c24 => ?_) (fun c24 => ?_)
      · have hw := hw.1 c24
        refine lv_bipush (v := (-6 : Int32)) hx hb dX6_firstCell_77 (by decide) ?_
        exact z_iret hx hb hr hlocks () hw hP hS dX6_firstCell_79
      have hw := hw.2 c24
      refine lv_aload_n hx hb dX6_firstCell_27 rfl (lv_at hl 0 rfl) ?_
      refine lv_iload_n hx hb dX6_firstCell_28 rfl (lv_at hl 1 rfl) ?_
      refine z_ri (z_runV (As := [.int p1]) (rest := []) hF (c_X6_waysFrom l D cI cC cZ h h_ways g_milky f_ways p1 _ _ hw) (cwV 1 hz (z_gV z2_228 z2_229 z2_230 z1_4 z2_231) rfl rfl rfl hd_X6_waysFrom ⟨Nat.le_of_ble_eq_true rfl, Nat.le_of_ble_eq_true rfl⟩) hK hP hD [0, 1] rfl rfl 0 6 rfl rfl rfl rfl hl.1 rfl (Nat.le_of_ble_eq_true rfl) dX6_firstCell_29 ⟨Nat.zero_le _, Nat.zero_le _⟩) hP hD hS hA [0, 1] rfl (fun _ => rfl) (fun _ => cw_X6_firstCell cI h h_ways g_milky f_ways) (fun _ => rfl) (fun r29 u29 H locs hw hP hD hS => ?_)
      try dsimp only at hw
      refine lv_iload hx hb dX6_firstCell_32 (lv_at hl 5 rfl) ?_
      refine lv_ishr hx hb dX6_firstCell_34 ?_
      refine lv_iconst (v := (1 : Int32)) hx hb dX6_firstCell_35 (by decide) ?_
      refine lv_iand hx hb dX6_firstCell_36 ?_
      refine lv_iconst (v := (1 : Int32)) hx hb dX6_firstCell_37 (by decide) ?_
      refine lv_icmp_ne (tgt := 45) hx hb dX6_firstCell_38 (by decide) (fun c38 => ?_) (fun c38 => ?_)
      · have hw := hw.2 c38
        refine lv_iconst (v := (0 : Int32)) hx hb dX6_firstCell_45 (by decide) ?_
        exact J46 x4 x5 (0 : Int32) _ _ _ hw hP hD hS (lv_sub hl [0, 1, 2, 3, 4, 5] rfl)
      have hw := hw.1 c38
      refine lv_iconst (v := (1 : Int32)) hx hb dX6_firstCell_41 (by decide) ?_
      refine lv_goto (tgt := 46) hx hb dX6_firstCell_42 (by decide) ?_
      exact J46 x4 x5 (1 : Int32) _ _ _ hw hP hD hS (lv_sub hl [0, 1, 2, 3, 4, 5] rfl)
  unfold w_X6_firstCell at hw
  refine lv_aload_n hx hb dX6_firstCell_0 rfl (lv_at hl 0 rfl) ?_
  refine lv_iload_n hx hb dX6_firstCell_1 rfl (lv_at hl 1 rfl) ?_
  refine lv_iload_n hx hb dX6_firstCell_2 rfl (lv_at hl 2 rfl) ?_
  refine lv_iload_n hx hb dX6_firstCell_3 rfl (lv_at hl 3 rfl) ?_
  refine z_ri (z_runV (As := [.int p1, .int p2, .int p3]) (rest := []) hF (c_X6_steps l D cI cC cZ h h_ways g_milky f_ways p1 p2 p3 _ _ hw) (cwV 3 hz (z_gV z2_227 z2_220 z2_221 z1_4 z2_222) rfl rfl rfl hd_X6_steps ⟨Nat.le_of_ble_eq_true rfl, Nat.le_of_ble_eq_true rfl⟩) hK hP hD [0, 1] rfl rfl 0 6 rfl rfl rfl rfl hl.1 rfl (Nat.le_of_ble_eq_true rfl) dX6_firstCell_4 ⟨Nat.zero_le _, Nat.zero_le _⟩) hP hD hS hA [0, 1] rfl (fun _ => rfl) (fun _ => cw_X6_firstCell cI h h_ways g_milky f_ways) (fun _ => rfl) (fun r4 u4 H locs hw hP hD hS => ?_)
  try dsimp only at hw
  refine lv_istore (lv' := [(4, .int r4), (0, .ref h), (1, .int p1), (2, .int p2), (3, .int p3)]) hx hb dX6_firstCell_7 hl (by decide) rfl (fun ls hl => ?_)
  refine lv_iload hx hb dX6_firstCell_9 (lv_at hl 0 rfl) ?_
  refine lv_if_gt (tgt := 17) hx hb dX6_firstCell_11 (by decide) (fun c11 => ?_) (fun c11 => ?_)
  · have hw := hw.1 c11
    refine lv_iconst (v := (0 : Int32)) hx hb dX6_firstCell_17 (by decide) ?_
    refine lv_istore (lv' := [(5, .int (0 : Int32)), (4, .int r4), (0, .ref h), (1, .int p1), (2, .int p2), (3, .int p3)]) hx hb dX6_firstCell_18 hl (by decide) rfl (fun ls hl => ?_)
    obtain ⟨n20, hw⟩ := hw
    exact L20 n20 r4 (0 : Int32) _ _ _ hw hP hD hS (lv_sub hl [2, 3, 4, 5, 1, 0] rfl)
  have hw := hw.2 c11
  refine lv_bipush (v := (-6 : Int32)) hx hb dX6_firstCell_14 (by decide) ?_
  exact z_iret hx hb hr hlocks () hw hP hS dX6_firstCell_16
abbrev cw_X8_round (cI : ClassId) (h h_world h_world_town h_world_town_ways : Nat) (g_images g_pad g_hearing g_bowls g_guesses g_world_court g_world_sights : Value) (f_world_town_ways : Nat → Int32) (f_world_town_milky : Int32) : va_W := [(h, .inr (8, [.ref h_world, g_images, g_pad, g_hearing, g_bowls, g_guesses])), (h_world, .inr (7, [g_world_court, .ref h_world_town, g_world_sights])), (h_world_town, .inr (6, [.ref h_world_town_ways, .int f_world_town_milky])), (h_world_town_ways, .inl (cI, 12, .inl f_world_town_ways))]
abbrev q_X8_round (D : va_G) (cI : ClassId) (h h_world h_world_town h_world_town_ways : Nat) (g_images g_pad g_hearing g_bowls g_guesses g_world_court g_world_sights : Value) (post : Int32 → Prop) (f_world_town_ways : Nat → Int32) (f_world_town_milky : Int32) (A : Nat → Prop) : Array Value → State → Outcome → State → Prop := va_Qi (S := Unit) (fun r _ => post r ) (fun _ t => va_P D vwCl (cw_X8_round cI h h_world h_world_town h_world_town_ways g_images g_pad g_hearing g_bowls g_guesses g_world_court g_world_sights f_world_town_ways f_world_town_milky) t.heap) A
abbrev v_X8_round : List Cond := .code yX8_round cX8_round 5 (some .int) :: zB
theorem hd_X8_round : yX8_round.cls = RX8 ∧ yX8_round.cls ≠ "java/lang/invoke/MethodHandle" ∧ yX8_round.cls ≠ "java/lang/invoke/VarHandle" ∧ (parseMethodDescriptor yX8_round.desc).map (fun d => d.parameters.length) = some 3 := by decide +kernel
set_option maxHeartbeats 4000000 in
set_option maxRecDepth 100000 in
theorem c_X8_round (l : Launch) (D : va_G) (cI cC cZ : ClassId) (h h_world h_world_town h_world_town_ways : Nat) (g_images g_pad g_hearing g_bowls g_guesses g_world_court g_world_sights : Value) (f_world_town_ways : Nat → Int32) (f_world_town_milky : Int32) (p1 : Int32) (p2 : Int32) (p3 : Int32) (sz : Nat) (post : Int32 → Prop) (hw : w_X8_round post f_world_town_ways f_world_town_milky p1 p2 p3) : Met l yX8_round v_X8_round ({ frames := 3, cells := 0, slots := 0, locals := 75 } : Room) (va_Pc [.ref h, .int p1, .int p2, .int p3] (zPre D (zT cI cC cZ) sz (cw_X8_round cI h h_world h_world_town h_world_town_ways g_images g_pad g_hearing g_bowls g_guesses g_world_court g_world_sights f_world_town_ways f_world_town_milky))) (q_X8_round D cI h h_world h_world_town h_world_town_ways g_images g_pad g_hearing g_bowls g_guesses g_world_court g_world_sights post f_world_town_ways f_world_town_milky (va_A (cw_X8_round cI h h_world h_world_town h_world_town_ways g_images g_pad g_hearing g_bowls g_guesses g_world_court g_world_sights f_world_town_ways f_world_town_milky) sz)) 0 0 (va_A (cw_X8_round cI h h_world h_world_town h_world_town_ways g_images g_pad g_hearing g_bowls g_guesses g_world_court g_world_sights f_world_town_ways f_world_town_milky) sz) := by
  refine Met.ofW (cc := cX8_round) (maxL := 5) (ret := (some .int)) (by decide) rfl ?_
  intro p e s m args below meth c s₁ B hml hv
  obtain ⟨rfl, hsz, hP, hK, hD0⟩ := hv
  subst hsz
  have hx := B.exec
  have hb := B.bytes
  have hr := B.returns
  have hz : ∀ w ∈ zB, w.before _ s = true := fun w h => atoms_spec (ws := v_X8_round) B.pre w (List.mem_cons_of_mem _ h)
  have hown : s.vm.findClass RX8 = some m.cls := findClass_of_methodNamed B.named
  have hlocks := B.notSynchronized
  have hF : CallFix p m c cX8_round 5 s (([.ref h, .int p1, .int p2, .int p3] : List Value).toArray) zB RX8 := ⟨hx, hb, hml, hown, hz⟩
  have hD := hD0.self (sz := s.heap.size)
  generalize hAe : va_A (cw_X8_round cI h h_world h_world_town h_world_town_ways g_images g_pad g_hearing g_bowls g_guesses g_world_court g_world_sights f_world_town_ways f_world_town_milky) s.heap.size = A at hD ⊢
  have hA : ∀ q : Nat, s.heap.size ≤ q → A q := fun q h => by rw [← hAe]; exact Or.inr h
  have hS : va_S A s.heap s.heap [] := va_S.rf
  have hP : va_P D vwCl (cw_X8_round cI h h_world h_world_town h_world_town_ways g_images g_pad g_hearing g_bowls g_guesses g_world_court g_world_sights f_world_town_ways f_world_town_milky) s.heap := hP
  have hl := lv_entry ([.ref h, .int p1, .int p2, .int p3]) (n := 5) (Nat.le_of_ble_eq_true rfl)
  rw [lg_entry_eq]
  generalize (lg_sl ([.ref h, .int p1, .int p2, .int p3]) ++ List.replicate (5 - (lg_sl ([.ref h, .int p1, .int p2, .int p3])).length) Slot.unset).toArray = ls at hl ⊢
  have hl : lv_has ls 5 [(0, .ref h), (1, .int p1), (2, .int p2), (3, .int p3)] := hl
  unfold w_X8_round at hw
  refine lv_iload_n hx hb dX8_round_0 rfl (lv_at hl 1 rfl) ?_
  refine z_ri (z_runS (As := [.int p1]) (rest := []) hF (c_X8_isCell l D cI cC cZ p1 _ _ hw) (va_cwS 1 hz (z_gS z1_234 z1_235 z1_1 z1_236) rfl rfl rfl hd_X8_isCell ⟨Nat.le_of_ble_eq_true rfl, Nat.le_of_ble_eq_true rfl⟩) hK hP hD [] rfl rfl rfl hl.1 rfl (Nat.le_of_ble_eq_true rfl) dX8_round_1 ⟨Nat.zero_le _, Nat.zero_le _⟩) hP hD hS hA [] rfl (fun _ => rfl) (fun _ => cw_X8_round cI h h_world h_world_town h_world_town_ways g_images g_pad g_hearing g_bowls g_guesses g_world_court g_world_sights f_world_town_ways f_world_town_milky) (fun _ => rfl) (fun r1 u1 H locs hw hP hD hS => ?_)
  obtain ⟨hn1, hw⟩ := hw
  try dsimp only at hw
  refine lv_if_eq (tgt := 14) hx hb dX8_round_4 (by decide) (fun c4 => ?_) (fun c4 => ?_)
  · have hw := hw.1 c4
    refine lv_iconst (v := (-1 : Int32)) hx hb dX8_round_14 (by decide) ?_
    exact z_iret hx hb hr hlocks () hw hP hS dX8_round_15
  have hw := hw.2 c4
  refine lv_iload_n hx hb dX8_round_7 rfl (lv_at hl 2 rfl) ?_
  refine z_ri (z_runS (As := [.int p2]) (rest := []) hF (c_X8_isCell l D cI cC cZ p2 _ _ hw) (va_cwS 1 hz (z_gS z1_234 z1_235 z1_1 z1_236) rfl rfl rfl hd_X8_isCell ⟨Nat.le_of_ble_eq_true rfl, Nat.le_of_ble_eq_true rfl⟩) hK hP hD [] rfl rfl rfl hl.1 rfl (Nat.le_of_ble_eq_true rfl) dX8_round_8 ⟨Nat.zero_le _, Nat.zero_le _⟩) hP hD hS hA [] rfl (fun _ => rfl) (fun _ => cw_X8_round cI h h_world h_world_town h_world_town_ways g_images g_pad g_hearing g_bowls g_guesses g_world_court g_world_sights f_world_town_ways f_world_town_milky) (fun _ => rfl) (fun r8 u8 H locs hw hP hD hS => ?_)
  obtain ⟨hn8, hw⟩ := hw
  try dsimp only at hw
  refine lv_if_ne (tgt := 16) hx hb dX8_round_11 (by decide) (fun c11 => ?_) (fun c11 => ?_)
  · have hw := hw.2 c11
    refine lv_iload_n hx hb dX8_round_16 rfl (lv_at hl 3 rfl) ?_
    refine lv_iconst (v := (0 : Int32)) hx hb dX8_round_17 (by decide) ?_
    refine lv_iconst (v := (1 : Int32)) hx hb dX8_round_18 (by decide) ?_
    refine z_ri (z_runS (As := [.int p3, .int (0 : Int32), .int (1 : Int32)]) (rest := []) hF (c_X8_within l D cI cC cZ p3 (0 : Int32) (1 : Int32) _ _ hw) (va_cwS 3 hz (z_gS z1_212 z1_213 z1_1 z1_214) rfl rfl rfl hd_X8_within ⟨Nat.le_of_ble_eq_true rfl, Nat.le_of_ble_eq_true rfl⟩) hK hP hD [] rfl rfl rfl hl.1 rfl (Nat.le_of_ble_eq_true rfl) dX8_round_19 ⟨Nat.zero_le _, Nat.zero_le _⟩) hP hD hS hA [] rfl (fun _ => rfl) (fun _ => cw_X8_round cI h h_world h_world_town h_world_town_ways g_images g_pad g_hearing g_bowls g_guesses g_world_court g_world_sights f_world_town_ways f_world_town_milky) (fun _ => rfl) (fun r19 u19 H locs hw hP hD hS => ?_)
    obtain ⟨hn19, hw⟩ := hw
    try dsimp only at hw
    refine lv_if_ne (tgt := 28) hx hb dX8_round_22 (by decide) (fun c22 => ?_) (fun c22 => ?_)
    · have hw := hw.2 c22
      refine lv_aload_n hx hb dX8_round_28 rfl (lv_at hl 0 rfl) ?_
      refine va_get (D := D) (ci := 8) (v := .ref h_world) (C := RX8) (T := TX8) (N := 6) hx hb hz hX_X8 hown hK.1 hP 0 rfl rfl 0 (by decide) (hz _ z1_183) (fun _ h9 => h9) rfl dX8_round_29 ?_
      refine va_getN (D := D) (ci := 7) (v := .ref h_world_town) (C := RX7) (T := TX7) (N := 3) hx hb hz hX_X7 hown hK.1 hP 1 rfl rfl 1 (by decide) (va_Nw.use rfl (hK.2.1 _ (List.mem_of_getElem? (i := 8) rfl))) (fun _ h9 => h9) rfl dX8_round_32 ?_
      refine lv_aload_n hx hb dX8_round_35 rfl (lv_at hl 0 rfl) ?_
      refine va_get (D := D) (ci := 8) (v := .ref h_world) (C := RX8) (T := TX8) (N := 6) hx hb hz hX_X8 hown hK.1 hP 0 rfl rfl 0 (by decide) (hz _ z1_183) (fun _ h9 => h9) rfl dX8_round_36 ?_
      refine va_getN (D := D) (ci := 7) (v := .ref h_world_town) (C := RX7) (T := TX7) (N := 3) hx hb hz hX_X7 hown hK.1 hP 1 rfl rfl 1 (by decide) (va_Nw.use rfl (hK.2.1 _ (List.mem_of_getElem? (i := 8) rfl))) (fun _ h9 => h9) rfl dX8_round_39 ?_
      refine va_getN (D := D) (ci := 6) (v := .int f_world_town_milky) (C := RX6) (T := TX6) (N := 2) hx hb hz hX_X6 hown hK.1 hP 2 rfl rfl 1 (by decide) (va_Nw.use rfl (hK.2.1 _ (List.mem_of_getElem? (i := 5) rfl))) (fun _ h9 => h9) rfl dX8_round_42 ?_
      refine z_ri (z_runV (As := [.int f_world_town_milky]) (rest := []) hF (c_X6_safeCells l D cI cC cZ h_world_town h_world_town_ways (.int f_world_town_milky) f_world_town_ways f_world_town_milky _ _ hw) (cwV 1 hz (z_gV z2_211 z2_212 z2_213 z1_4 z2_214) rfl rfl rfl hd_X6_safeCells ⟨Nat.le_of_ble_eq_true rfl, Nat.le_of_ble_eq_true rfl⟩) hK hP hD [2, 3] rfl rfl 2 6 rfl rfl rfl rfl hl.1 rfl (Nat.le_of_ble_eq_true rfl) dX8_round_45 ⟨Nat.zero_le _, Nat.zero_le _⟩) hP hD hS hA [2, 3] rfl (fun _ => rfl) (fun _ => cw_X8_round cI h h_world h_world_town h_world_town_ways g_images g_pad g_hearing g_bowls g_guesses g_world_court g_world_sights f_world_town_ways f_world_town_milky) (fun _ => rfl) (fun r45 u45 H locs hw hP hD hS => ?_)
      try dsimp only at hw
      refine lv_istore (lv' := [(4, .int r45), (0, .ref h), (1, .int p1), (2, .int p2), (3, .int p3)]) hx hb dX8_round_48 hl (by decide) rfl (fun ls hl => ?_)
      refine lv_iload_n hx hb dX8_round_50 rfl (lv_at hl 4 rfl) ?_
      refine lv_if_ne (tgt := 71) hx hb dX8_round_51 (by decide) (fun c51 => ?_) (fun c51 => ?_)
      · have hw := hw.2 c51
        refine lv_aload_n hx hb dX8_round_71 rfl (lv_at hl 1 rfl) ?_
        refine va_get (D := D) (ci := 8) (v := .ref h_world) (C := RX8) (T := TX8) (N := 6) hx hb hz hX_X8 hown hK.1 hP 0 rfl rfl 0 (by decide) (hz _ z1_183) (fun _ h9 => h9) rfl dX8_round_72 ?_
        refine va_getN (D := D) (ci := 7) (v := .ref h_world_town) (C := RX7) (T := TX7) (N := 3) hx hb hz hX_X7 hown hK.1 hP 1 rfl rfl 1 (by decide) (va_Nw.use rfl (hK.2.1 _ (List.mem_of_getElem? (i := 8) rfl))) (fun _ h9 => h9) rfl dX8_round_75 ?_
        refine lv_iload_n hx hb dX8_round_78 rfl (lv_at hl 2 rfl) ?_
        refine lv_iload_n hx hb dX8_round_79 rfl (lv_at hl 3 rfl) ?_
        refine lv_iload hx hb dX8_round_80 (lv_at hl 0 rfl) ?_
        refine z_ri (z_runV (As := [.int p1, .int p2, .int r45]) (rest := []) hF (c_X6_firstCell l D cI cC cZ h_world_town h_world_town_ways (.int f_world_town_milky) f_world_town_ways p1 p2 r45 _ _ hw) (cwV 3 hz (z_gV z2_223 z2_224 z2_225 z1_4 z2_226) rfl rfl rfl hd_X6_firstCell ⟨Nat.le_of_ble_eq_true rfl, Nat.le_of_ble_eq_true rfl⟩) hK hP hD [2, 3] rfl rfl 2 6 rfl rfl rfl rfl hl.1 rfl (Nat.le_of_ble_eq_true rfl) dX8_round_82 ⟨Nat.zero_le _, Nat.zero_le _⟩) hP hD hS hA [2, 3] rfl (fun _ => rfl) (fun _ => cw_X8_round cI h h_world h_world_town h_world_town_ways g_images g_pad g_hearing g_bowls g_guesses g_world_court g_world_sights f_world_town_ways f_world_town_milky) (fun _ => rfl) (fun r82 u82 H locs hw hP hD hS => ?_)
        try dsimp only at hw
        exact z_iret hx hb hr hlocks () hw hP hS dX8_round_85
      have hw := hw.1 c51
      refine lv_aload_n hx hb dX8_round_54 rfl (lv_at hl 1 rfl) ?_
      refine va_get (D := D) (ci := 8) (v := .ref h_world) (C := RX8) (T := TX8) (N := 6) hx hb hz hX_X8 hown hK.1 hP 0 rfl rfl 0 (by decide) (hz _ z1_183) (fun _ h9 => h9) rfl dX8_round_55 ?_
      refine va_getN (D := D) (ci := 7) (v := .ref h_world_town) (C := RX7) (T := TX7) (N := 3) hx hb hz hX_X7 hown hK.1 hP 1 rfl rfl 1 (by decide) (va_Nw.use rfl (hK.2.1 _ (List.mem_of_getElem? (i := 8) rfl))) (fun _ h9 => h9) rfl dX8_round_58 ?_
      refine lv_iload_n hx hb dX8_round_61 rfl (lv_at hl 2 rfl) ?_
      refine lv_iload_n hx hb dX8_round_62 rfl (lv_at hl 3 rfl) ?_
      refine lv_iload hx hb dX8_round_63 (lv_at hl 0 rfl) ?_
      refine z_ri (z_runV (As := [.int p1, .int p2, .int r45]) (rest := []) hF (c_X6_steps l D cI cC cZ h_world_town h_world_town_ways (.int f_world_town_milky) f_world_town_ways p1 p2 r45 _ _ hw) (cwV 3 hz (z_gV z2_219 z2_220 z2_221 z1_4 z2_222) rfl rfl rfl hd_X6_steps ⟨Nat.le_of_ble_eq_true rfl, Nat.le_of_ble_eq_true rfl⟩) hK hP hD [2, 3] rfl rfl 2 6 rfl rfl rfl rfl hl.1 rfl (Nat.le_of_ble_eq_true rfl) dX8_round_65 ⟨Nat.zero_le _, Nat.zero_le _⟩) hP hD hS hA [2, 3] rfl (fun _ => rfl) (fun _ => cw_X8_round cI h h_world h_world_town h_world_town_ways g_images g_pad g_hearing g_bowls g_guesses g_world_court g_world_sights f_world_town_ways f_world_town_milky) (fun _ => rfl) (fun r65 u65 H locs hw hP hD hS => ?_)
      try dsimp only at hw
      refine lv_goto (tgt := 85) hx hb dX8_round_68 (by decide) ?_
      exact z_iret hx hb hr hlocks () hw hP hS dX8_round_85
    have hw := hw.1 c22
    refine lv_bipush (v := (-2 : Int32)) hx hb dX8_round_25 (by decide) ?_
    exact z_iret hx hb hr hlocks () hw hP hS dX8_round_27
  have hw := hw.1 c11
  refine lv_iconst (v := (-1 : Int32)) hx hb dX8_round_14 (by decide) ?_
  exact z_iret hx hb hr hlocks () hw hP hS dX8_round_15
abbrev cw_X6_fewestToEmpty (cI : ClassId) (h h_ways : Nat) (f_ways : Nat → Int32) (f_milky : Int32) : va_W := [(h, .inr (6, [.ref h_ways, .int f_milky])), (h_ways, .inl (cI, 12, .inl f_ways))]
abbrev q_X6_fewestToEmpty (D : va_G) (cI : ClassId) (h h_ways : Nat) (post : Int32 → Prop) (f_ways : Nat → Int32) (f_milky : Int32) (A : Nat → Prop) : Array Value → State → Outcome → State → Prop := va_Qi (S := Unit) (fun r _ => post r ) (fun _ t => va_P D vwCl (cw_X6_fewestToEmpty cI h h_ways f_ways f_milky) t.heap) A
abbrev v_X6_fewestToEmpty : List Cond := .code yX6_fewestToEmpty cX6_fewestToEmpty 7 (some .int) :: zB
theorem hd_X6_fewestToEmpty : yX6_fewestToEmpty.cls = RX6 ∧ yX6_fewestToEmpty.cls ≠ "java/lang/invoke/MethodHandle" ∧ yX6_fewestToEmpty.cls ≠ "java/lang/invoke/VarHandle" ∧ (parseMethodDescriptor yX6_fewestToEmpty.desc).map (fun d => d.parameters.length) = some 2 := by decide +kernel
set_option maxHeartbeats 4000000 in
set_option maxRecDepth 100000 in
theorem c_X6_fewestToEmpty (l : Launch) (D : va_G) (cI cC cZ : ClassId) (h h_ways : Nat) (f_ways : Nat → Int32) (f_milky : Int32) (p1 : Int32) (p2 : Int32) (sz : Nat) (post : Int32 → Prop) (hw : w_X6_fewestToEmpty post f_ways f_milky p1 p2) : Met l yX6_fewestToEmpty v_X6_fewestToEmpty ({ frames := 2, cells := 0, slots := 0, locals := 49 } : Room) (va_Pc [.ref h, .int p1, .int p2] (zPre D (zT cI cC cZ) sz (cw_X6_fewestToEmpty cI h h_ways f_ways f_milky))) (q_X6_fewestToEmpty D cI h h_ways post f_ways f_milky (va_A (cw_X6_fewestToEmpty cI h h_ways f_ways f_milky) sz)) 0 0 (va_A (cw_X6_fewestToEmpty cI h h_ways f_ways f_milky) sz) := by
  refine Met.ofW (cc := cX6_fewestToEmpty) (maxL := 7) (ret := (some .int)) (by decide) rfl ?_
  intro p e s m args below meth c s₁ B hml hv
  obtain ⟨rfl, hsz, hP, hK, hD0⟩ := hv
  subst hsz
  have hx := B.exec
  have hb := B.bytes
  have hr := B.returns
  have hz : ∀ w ∈ zB, w.before _ s = true := fun w h => atoms_spec (ws := v_X6_fewestToEmpty) B.pre w (List.mem_cons_of_mem _ h)
  have hown : s.vm.findClass RX6 = some m.cls := findClass_of_methodNamed B.named
  have hlocks := B.notSynchronized
  have hF : CallFix p m c cX6_fewestToEmpty 7 s (([.ref h, .int p1, .int p2] : List Value).toArray) zB RX6 := ⟨hx, hb, hml, hown, hz⟩
  have hD := hD0.self (sz := s.heap.size)
  generalize hAe : va_A (cw_X6_fewestToEmpty cI h h_ways f_ways f_milky) s.heap.size = A at hD ⊢
  have hA : ∀ q : Nat, s.heap.size ≤ q → A q := fun q h => by rw [← hAe]; exact Or.inr h
  have hS : va_S A s.heap s.heap [] := va_S.rf
  have hP : va_P D vwCl (cw_X6_fewestToEmpty cI h h_ways f_ways f_milky) s.heap := hP
  have hl := lv_entry ([.ref h, .int p1, .int p2]) (n := 7) (Nat.le_of_ble_eq_true rfl)
  rw [lg_entry_eq]
  generalize (lg_sl ([.ref h, .int p1, .int p2]) ++ List.replicate (7 - (lg_sl ([.ref h, .int p1, .int p2])).length) Slot.unset).toArray = ls at hl ⊢
  have hl : lv_has ls 7 [(0, .ref h), (1, .int p1), (2, .int p2)] := hl
  have L25 : ∀ (n25 : Nat) (x3 : Int32) (x4 : Int32) (H : Heap) (locs : List Loc) (ls : Array Slot) (hw : w_X6_fewestToEmpty_B25 post f_ways f_milky p1 p2 n25 x3 x4) (hP : va_P D vwCl (cw_X6_fewestToEmpty cI h h_ways f_ways f_milky) H) (hD : va_D A (cw_X6_fewestToEmpty cI h h_ways f_ways f_milky)) (hS : va_S A s.heap H locs) (hl : lv_has ls 7 [(0, .ref h), (1, .int p1), (2, .int p2), (3, .int x3), (4, .int x4)]), W p l e (headSpec v_X6_fewestToEmpty ({ frames := 2, cells := 0, slots := 0, locals := 49 } : Room)).room s m (([.ref h, .int p1, .int p2] : List Value).toArray) below meth c H locs 0 0 (MQ below (q_X6_fewestToEmpty D cI h h_ways post f_ways f_milky A) (([.ref h, .int p1, .int p2] : List Value).toArray) s 0 0 A) (F0 m 25 ls []) := by
    intro n25
    induction n25 with
    | zero => intro x3 x4 H locs ls hw; exact False.elim hw
    | succ n25 ih25 =>
      have J70 : ∀ (x3 : Int32) (x4 : Int32) (x5 : Int32) (s0 : Int32) (H : Heap) (locs : List Loc) (ls : Array Slot) (hw : w_X6_fewestToEmpty_B70 post f_ways f_milky p1 p2 (fun x3 x4 => w_X6_fewestToEmpty_B25 post f_ways f_milky p1 p2 n25 x3 x4) x3 x4 x5 s0) (hP : va_P D vwCl (cw_X6_fewestToEmpty cI h h_ways f_ways f_milky) H) (hD : va_D A (cw_X6_fewestToEmpty cI h h_ways f_ways f_milky)) (hS : va_S A s.heap H locs) (hl : lv_has ls 7 [(0, .ref h), (1, .int p1), (2, .int p2), (3, .int x3), (4, .int x4), (5, .int x5)]), W p l e (headSpec v_X6_fewestToEmpty ({ frames := 2, cells := 0, slots := 0, locals := 49 } : Room)).room s m (([.ref h, .int p1, .int p2] : List Value).toArray) below meth c H locs 0 0 (MQ below (q_X6_fewestToEmpty D cI h h_ways post f_ways f_milky A) (([.ref h, .int p1, .int p2] : List Value).toArray) s 0 0 A) (F0 m 70 ls [.int s0]) := by
        intro x3 x4 x5 s0 H locs ls hw hP hD hS hl
        unfold w_X6_fewestToEmpty_B70 at hw
        refine lv_istore (lv' := [(6, .int s0), (0, .ref h), (1, .int p1), (2, .int p2), (3, .int x3), (4, .int x4), (5, .int x5)]) hx hb dX6_fewestToEmpty_70 hl (by decide) rfl (fun ls hl => ?_)
        refine lv_iload hx hb dX6_fewestToEmpty_72 (lv_at hl 6 rfl) ?_
        refine lv_if_eq (tgt := 109) hx hb dX6_fewestToEmpty_74 (by decide) (fun c74 => ?_) (fun c74 => ?_)
        · have hw := hw.1 c74
          refine lv_iinc (k := 5) (v := (x4 + 1)) (lv' := [(4, .int (x4 + 1)), (6, .int s0), (0, .ref h), (1, .int p1), (2, .int p2), (3, .int x3), (5, .int x5)]) hx hb dX6_fewestToEmpty_109 hl rfl rfl (by decide) rfl (fun ls hl => ?_)
          refine lv_goto (tgt := 25) hx hb dX6_fewestToEmpty_112 (by decide) ?_
          exact ih25 x3 (x4 + 1) _ _ _ hw hP hD hS (lv_sub hl [2, 3, 4, 5, 0] rfl)
        have hw := hw.2 c74
        refine lv_iload hx hb dX6_fewestToEmpty_77 (lv_at hl 0 rfl) ?_
        refine lv_if_eq (tgt := 109) hx hb dX6_fewestToEmpty_79 (by decide) (fun c79 => ?_) (fun c79 => ?_)
        · have hw := hw.1 c79
          refine lv_iinc (k := 5) (v := (x4 + 1)) (lv' := [(4, .int (x4 + 1)), (6, .int s0), (0, .ref h), (1, .int p1), (2, .int p2), (3, .int x3), (5, .int x5)]) hx hb dX6_fewestToEmpty_109 hl rfl rfl (by decide) rfl (fun ls hl => ?_)
          refine lv_goto (tgt := 25) hx hb dX6_fewestToEmpty_112 (by decide) ?_
          exact ih25 x3 (x4 + 1) _ _ _ hw hP hD hS (lv_sub hl [2, 3, 4, 5, 0] rfl)
        have hw := hw.2 c79
        refine lv_aload_n hx hb dX6_fewestToEmpty_82 rfl (lv_at hl 1 rfl) ?_
        refine lv_iload_n hx hb dX6_fewestToEmpty_83 rfl (lv_at hl 2 rfl) ?_
        refine lv_iload_n hx hb dX6_fewestToEmpty_84 rfl (lv_at hl 3 rfl) ?_
        refine lv_aload_n hx hb dX6_fewestToEmpty_85 rfl (lv_at hl 1 rfl) ?_
        refine lv_aload_n hx hb dX6_fewestToEmpty_86 rfl (lv_at hl 1 rfl) ?_
        refine va_get (D := D) (ci := 6) (v := .int f_milky) (C := RX6) (T := TX6) (N := 2) hx hb hz hX_X6 hown hK.1 hP 0 rfl rfl 1 (by decide) (hz _ z1_73) (fun _ h9 => h9) rfl dX6_fewestToEmpty_87 ?_
        refine lv_iload hx hb dX6_fewestToEmpty_90 (lv_at hl 5 rfl) ?_
        refine lv_iconst (v := (-1 : Int32)) hx hb dX6_fewestToEmpty_92 (by decide) ?_
        refine lv_ixor hx hb dX6_fewestToEmpty_93 ?_
        refine lv_iand hx hb dX6_fewestToEmpty_94 ?_
        refine z_ri (z_runV (As := [.int (f_milky &&& (x4 ^^^ (-1 : Int32)))]) (rest := [.int p2, .int p1, .ref h]) hF (c_X6_safeCells l D cI cC cZ h h_ways (.int f_milky) f_ways (f_milky &&& (x4 ^^^ (-1 : Int32))) _ _ hw) (cwV 1 hz (z_gV z3_0 z2_212 z2_213 z1_4 z2_214) rfl rfl rfl hd_X6_safeCells ⟨Nat.le_of_ble_eq_true rfl, Nat.le_of_ble_eq_true rfl⟩) hK hP hD [0, 1] rfl rfl 0 6 rfl rfl rfl rfl hl.1 rfl (Nat.le_of_ble_eq_true rfl) dX6_fewestToEmpty_95 ⟨Nat.zero_le _, Nat.zero_le _⟩) hP hD hS hA [0, 1] rfl (fun _ => rfl) (fun _ => cw_X6_fewestToEmpty cI h h_ways f_ways f_milky) (fun _ => rfl) (fun r95 u95 H locs hw hP hD hS => ?_)
        try dsimp only at hw
        refine z_ri (z_runV (As := [.int p1, .int p2, .int r95]) (rest := []) hF (c_X6_steps l D cI cC cZ h h_ways (.int f_milky) f_ways p1 p2 r95 _ _ hw) (cwV 3 hz (z_gV z2_227 z2_220 z2_221 z1_4 z2_222) rfl rfl rfl hd_X6_steps ⟨Nat.le_of_ble_eq_true rfl, Nat.le_of_ble_eq_true rfl⟩) hK hP hD [0, 1] rfl rfl 0 6 rfl rfl rfl rfl hl.1 rfl (Nat.le_of_ble_eq_true rfl) dX6_fewestToEmpty_98 ⟨Nat.zero_le _, Nat.zero_le _⟩) hP hD hS hA [0, 1] rfl (fun _ => rfl) (fun _ => cw_X6_fewestToEmpty cI h h_ways f_ways f_milky) (fun _ => rfl) (fun r98 u98 H locs hw hP hD hS => ?_)
        try dsimp only at hw
        refine lv_bipush (v := (-6 : Int32)) hx hb dX6_fewestToEmpty_101 (by decide) ?_
        refine lv_icmp_eq (tgt := 109) hx hb dX6_fewestToEmpty_103 (by decide) (fun c103 => ?_) (fun c103 => ?_)
        · have hw := hw.1 c103
          refine lv_iinc (k := 5) (v := (x4 + 1)) (lv' := [(4, .int (x4 + 1)), (6, .int s0), (0, .ref h), (1, .int p1), (2, .int p2), (3, .int x3), (5, .int x5)]) hx hb dX6_fewestToEmpty_109 hl rfl rfl (by decide) rfl (fun ls hl => ?_)
          refine lv_goto (tgt := 25) hx hb dX6_fewestToEmpty_112 (by decide) ?_
          exact ih25 x3 (x4 + 1) _ _ _ hw hP hD hS (lv_sub hl [2, 3, 4, 5, 0] rfl)
        have hw := hw.2 c103
        refine lv_iload hx hb dX6_fewestToEmpty_106 (lv_at hl 5 rfl) ?_
        refine lv_istore_n (lv' := [(3, .int x4), (6, .int s0), (0, .ref h), (1, .int p1), (2, .int p2), (4, .int x4), (5, .int x5)]) hx hb dX6_fewestToEmpty_108 rfl hl (by decide) rfl (fun ls hl => ?_)
        refine lv_iinc (k := 5) (v := (x4 + 1)) (lv' := [(4, .int (x4 + 1)), (3, .int x4), (6, .int s0), (0, .ref h), (1, .int p1), (2, .int p2), (5, .int x5)]) hx hb dX6_fewestToEmpty_109 hl rfl rfl (by decide) rfl (fun ls hl => ?_)
        refine lv_goto (tgt := 25) hx hb dX6_fewestToEmpty_112 (by decide) ?_
        exact ih25 x4 (x4 + 1) _ _ _ hw hP hD hS (lv_sub hl [3, 4, 5, 1, 0] rfl)
      have J51 : ∀ (x3 : Int32) (x4 : Int32) (s0 : Int32) (H : Heap) (locs : List Loc) (ls : Array Slot) (hw : w_X6_fewestToEmpty_B51 post f_ways f_milky p1 p2 (fun x3 x4 => w_X6_fewestToEmpty_B25 post f_ways f_milky p1 p2 n25 x3 x4) x3 x4 s0) (hP : va_P D vwCl (cw_X6_fewestToEmpty cI h h_ways f_ways f_milky) H) (hD : va_D A (cw_X6_fewestToEmpty cI h h_ways f_ways f_milky)) (hS : va_S A s.heap H locs) (hl : lv_has ls 7 [(0, .ref h), (1, .int p1), (2, .int p2), (3, .int x3), (4, .int x4)]), W p l e (headSpec v_X6_fewestToEmpty ({ frames := 2, cells := 0, slots := 0, locals := 49 } : Room)).room s m (([.ref h, .int p1, .int p2] : List Value).toArray) below meth c H locs 0 0 (MQ below (q_X6_fewestToEmpty D cI h h_ways post f_ways f_milky A) (([.ref h, .int p1, .int p2] : List Value).toArray) s 0 0 A) (F0 m 51 ls [.int s0]) := by
        intro x3 x4 s0 H locs ls hw hP hD hS hl
        unfold w_X6_fewestToEmpty_B51 at hw
        refine lv_istore (lv' := [(5, .int s0), (0, .ref h), (1, .int p1), (2, .int p2), (3, .int x3), (4, .int x4)]) hx hb dX6_fewestToEmpty_51 hl (by decide) rfl (fun ls hl => ?_)
        refine lv_iload hx hb dX6_fewestToEmpty_53 (lv_at hl 5 rfl) ?_
        refine z_ri (z_runS (As := [.int x4]) (rest := []) hF (c_J6_bitCount_0f7a4 l D cI cC cZ x4 _ _ hw) (va_cwS 1 hz (z_gS z2_6 z1_221 z1_11 z1_222) rfl rfl rfl hd_J6_bitCount_0f7a4 ⟨Nat.le_of_ble_eq_true rfl, Nat.le_of_ble_eq_true rfl⟩) hK hP hD [] rfl rfl rfl hl.1 rfl (Nat.le_of_ble_eq_true rfl) dX6_fewestToEmpty_55 ⟨Nat.zero_le _, Nat.zero_le _⟩) hP hD hS hA [] rfl (fun _ => rfl) (fun _ => cw_X6_fewestToEmpty cI h h_ways f_ways f_milky) (fun _ => rfl) (fun r55 u55 H locs hw hP hD hS => ?_)
        try dsimp only at hw
        refine lv_iload_n hx hb dX6_fewestToEmpty_58 rfl (lv_at hl 4 rfl) ?_
        refine z_ri (z_runS (As := [.int x3]) (rest := [.int r55]) hF (c_J6_bitCount_0f7a4 l D cI cC cZ x3 _ _ hw) (va_cwS 1 hz (z_gS z2_6 z1_221 z1_11 z1_222) rfl rfl rfl hd_J6_bitCount_0f7a4 ⟨Nat.le_of_ble_eq_true rfl, Nat.le_of_ble_eq_true rfl⟩) hK hP hD [] rfl rfl rfl hl.1 rfl (Nat.le_of_ble_eq_true rfl) dX6_fewestToEmpty_59 ⟨Nat.zero_le _, Nat.zero_le _⟩) hP hD hS hA [] rfl (fun _ => rfl) (fun _ => cw_X6_fewestToEmpty cI h h_ways f_ways f_milky) (fun _ => rfl) (fun r59 u59 H locs hw hP hD hS => ?_)
        try dsimp only at hw
        refine lv_icmp_ge (tgt := 69) hx hb dX6_fewestToEmpty_62 (by decide) (fun c62 => ?_) (fun c62 => ?_)
        · have hw := hw.1 c62
          refine lv_iconst (v := (0 : Int32)) hx hb dX6_fewestToEmpty_69 (by decide) ?_
          exact J70 x3 x4 s0 (0 : Int32) _ _ _ hw hP hD hS (lv_sub hl [1, 2, 3, 4, 5, 0] rfl)
        have hw := hw.2 c62
        refine lv_iconst (v := (1 : Int32)) hx hb dX6_fewestToEmpty_65 (by decide) ?_
        refine lv_goto (tgt := 70) hx hb dX6_fewestToEmpty_66 (by decide) ?_
        exact J70 x3 x4 s0 (1 : Int32) _ _ _ hw hP hD hS (lv_sub hl [1, 2, 3, 4, 5, 0] rfl)
      intro x3 x4 H locs ls hw hP hD hS hl
      unfold w_X6_fewestToEmpty_B25 at hw
      refine lv_iload hx hb dX6_fewestToEmpty_25 (lv_at hl 4 rfl) ?_
      refine lv_aload_n hx hb dX6_fewestToEmpty_27 rfl (lv_at hl 0 rfl) ?_
      refine va_get (D := D) (ci := 6) (v := .int f_milky) (C := RX6) (T := TX6) (N := 2) hx hb hz hX_X6 hown hK.1 hP 0 rfl rfl 1 (by decide) (hz _ z1_73) (fun _ h9 => h9) rfl dX6_fewestToEmpty_28 ?_
      refine lv_icmp_ge (tgt := 115) hx hb dX6_fewestToEmpty_31 (by decide) (fun c31 => ?_) (fun c31 => ?_)
      · have hw := hw.1 c31
        refine lv_iload_n hx hb dX6_fewestToEmpty_115 rfl (lv_at hl 3 rfl) ?_
        exact z_iret hx hb hr hlocks () hw hP hS dX6_fewestToEmpty_116
      have hw := hw.2 c31
      refine lv_iload hx hb dX6_fewestToEmpty_34 (lv_at hl 4 rfl) ?_
      refine lv_aload_n hx hb dX6_fewestToEmpty_36 rfl (lv_at hl 0 rfl) ?_
      refine va_get (D := D) (ci := 6) (v := .int f_milky) (C := RX6) (T := TX6) (N := 2) hx hb hz hX_X6 hown hK.1 hP 0 rfl rfl 1 (by decide) (hz _ z1_73) (fun _ h9 => h9) rfl dX6_fewestToEmpty_37 ?_
      refine lv_iconst (v := (-1 : Int32)) hx hb dX6_fewestToEmpty_40 (by decide) ?_
      refine lv_ixor hx hb dX6_fewestToEmpty_41 ?_
      refine lv_iand hx hb dX6_fewestToEmpty_42 ?_
      refine lv_if_ne (tgt := 50) hx hb dX6_fewestToEmpty_43 (by decide) (fun c43 => ?_) (fun c43 => ?_)
      · have hw := hw.2 c43
        refine lv_iconst (v := (0 : Int32)) hx hb dX6_fewestToEmpty_50 (by decide) ?_
        exact J51 x3 x4 (0 : Int32) _ _ _ hw hP hD hS (lv_sub hl [0, 1, 2, 3, 4] rfl)
      have hw := hw.1 c43
      refine lv_iconst (v := (1 : Int32)) hx hb dX6_fewestToEmpty_46 (by decide) ?_
      refine lv_goto (tgt := 51) hx hb dX6_fewestToEmpty_47 (by decide) ?_
      exact J51 x3 x4 (1 : Int32) _ _ _ hw hP hD hS (lv_sub hl [0, 1, 2, 3, 4] rfl)
  unfold w_X6_fewestToEmpty at hw
  refine lv_aload_n hx hb dX6_fewestToEmpty_0 rfl (lv_at hl 0 rfl) ?_
  refine lv_iload_n hx hb dX6_fewestToEmpty_1 rfl (lv_at hl 1 rfl) ?_
  refine lv_iload_n hx hb dX6_fewestToEmpty_2 rfl (lv_at hl 2 rfl) ?_
  refine lv_sipush (v := (4095 : Int32)) hx hb dX6_fewestToEmpty_3 (by decide) ?_
  refine z_ri (z_runV (As := [.int p1, .int p2, .int (4095 : Int32)]) (rest := []) hF (c_X6_steps l D cI cC cZ h h_ways (.int f_milky) f_ways p1 p2 (4095 : Int32) _ _ hw) (cwV 3 hz (z_gV z2_227 z2_220 z2_221 z1_4 z2_222) rfl rfl rfl hd_X6_steps ⟨Nat.le_of_ble_eq_true rfl, Nat.le_of_ble_eq_true rfl⟩) hK hP hD [0, 1] rfl rfl 0 6 rfl rfl rfl rfl hl.1 rfl (Nat.le_of_ble_eq_true rfl) dX6_fewestToEmpty_6 ⟨Nat.zero_le _, Nat.zero_le _⟩) hP hD hS hA [0, 1] rfl (fun _ => rfl) (fun _ => cw_X6_fewestToEmpty cI h h_ways f_ways f_milky) (fun _ => rfl) (fun r6 u6 H locs hw hP hD hS => ?_)
  try dsimp only at hw
  refine lv_bipush (v := (-6 : Int32)) hx hb dX6_fewestToEmpty_9 (by decide) ?_
  refine lv_icmp_ne (tgt := 17) hx hb dX6_fewestToEmpty_11 (by decide) (fun c11 => ?_) (fun c11 => ?_)
  · have hw := hw.2 c11
    refine lv_aload_n hx hb dX6_fewestToEmpty_17 rfl (lv_at hl 0 rfl) ?_
    refine va_get (D := D) (ci := 6) (v := .int f_milky) (C := RX6) (T := TX6) (N := 2) hx hb hz hX_X6 hown hK.1 hP 0 rfl rfl 1 (by decide) (hz _ z1_73) (fun _ h9 => h9) rfl dX6_fewestToEmpty_18 ?_
    refine lv_istore_n (lv' := [(3, .int f_milky), (0, .ref h), (1, .int p1), (2, .int p2)]) hx hb dX6_fewestToEmpty_21 rfl hl (by decide) rfl (fun ls hl => ?_)
    refine lv_iconst (v := (0 : Int32)) hx hb dX6_fewestToEmpty_22 (by decide) ?_
    refine lv_istore (lv' := [(4, .int (0 : Int32)), (3, .int f_milky), (0, .ref h), (1, .int p1), (2, .int p2)]) hx hb dX6_fewestToEmpty_23 hl (by decide) rfl (fun ls hl => ?_)
    obtain ⟨n25, hw⟩ := hw
    exact L25 n25 f_milky (0 : Int32) _ _ _ hw hP hD hS (lv_sub hl [2, 3, 4, 1, 0] rfl)
  have hw := hw.1 c11
  refine lv_bipush (v := (-6 : Int32)) hx hb dX6_fewestToEmpty_14 (by decide) ?_
  exact z_iret hx hb hr hlocks () hw hP hS dX6_fewestToEmpty_16
abbrev cw_X8_shun (cI : ClassId) (h h_world h_world_town h_world_town_ways : Nat) (g_images g_pad g_hearing g_bowls g_guesses g_world_court g_world_sights : Value) (f_world_town_ways : Nat → Int32) (f_world_town_milky : Int32) : va_W := [(h, .inr (8, [.ref h_world, g_images, g_pad, g_hearing, g_bowls, g_guesses])), (h_world, .inr (7, [g_world_court, .ref h_world_town, g_world_sights])), (h_world_town, .inr (6, [.ref h_world_town_ways, .int f_world_town_milky])), (h_world_town_ways, .inl (cI, 12, .inl f_world_town_ways))]
abbrev q_X8_shun (D : va_G) (cI : ClassId) (h h_world h_world_town h_world_town_ways : Nat) (g_images g_pad g_hearing g_bowls g_guesses g_world_court g_world_sights : Value) (post : Int32 → Prop) (f_world_town_ways : Nat → Int32) (f_world_town_milky : Int32) (A : Nat → Prop) : Array Value → State → Outcome → State → Prop := va_Qi (S := Unit) (fun r _ => post r ) (fun _ t => va_P D vwCl (cw_X8_shun cI h h_world h_world_town h_world_town_ways g_images g_pad g_hearing g_bowls g_guesses g_world_court g_world_sights f_world_town_ways f_world_town_milky) t.heap) A
abbrev v_X8_shun : List Cond := .code yX8_shun cX8_shun 5 (some .int) :: zB
theorem hd_X8_shun : yX8_shun.cls = RX8 ∧ yX8_shun.cls ≠ "java/lang/invoke/MethodHandle" ∧ yX8_shun.cls ≠ "java/lang/invoke/VarHandle" ∧ (parseMethodDescriptor yX8_shun.desc).map (fun d => d.parameters.length) = some 3 := by decide +kernel
set_option maxHeartbeats 4000000 in
set_option maxRecDepth 100000 in
theorem c_X8_shun (l : Launch) (D : va_G) (cI cC cZ : ClassId) (h h_world h_world_town h_world_town_ways : Nat) (g_images g_pad g_hearing g_bowls g_guesses g_world_court g_world_sights : Value) (f_world_town_ways : Nat → Int32) (f_world_town_milky : Int32) (p1 : Int32) (p2 : Int32) (p3 : Int32) (sz : Nat) (post : Int32 → Prop) (hw : w_X8_shun post f_world_town_ways f_world_town_milky p1 p2 p3) : Met l yX8_shun v_X8_shun ({ frames := 3, cells := 0, slots := 0, locals := 75 } : Room) (va_Pc [.ref h, .int p1, .int p2, .int p3] (zPre D (zT cI cC cZ) sz (cw_X8_shun cI h h_world h_world_town h_world_town_ways g_images g_pad g_hearing g_bowls g_guesses g_world_court g_world_sights f_world_town_ways f_world_town_milky))) (q_X8_shun D cI h h_world h_world_town h_world_town_ways g_images g_pad g_hearing g_bowls g_guesses g_world_court g_world_sights post f_world_town_ways f_world_town_milky (va_A (cw_X8_shun cI h h_world h_world_town h_world_town_ways g_images g_pad g_hearing g_bowls g_guesses g_world_court g_world_sights f_world_town_ways f_world_town_milky) sz)) 0 0 (va_A (cw_X8_shun cI h h_world h_world_town h_world_town_ways g_images g_pad g_hearing g_bowls g_guesses g_world_court g_world_sights f_world_town_ways f_world_town_milky) sz) := by
  refine Met.ofW (cc := cX8_shun) (maxL := 5) (ret := (some .int)) (by decide) rfl ?_
  intro p e s m args below meth c s₁ B hml hv
  obtain ⟨rfl, hsz, hP, hK, hD0⟩ := hv
  subst hsz
  have hx := B.exec
  have hb := B.bytes
  have hr := B.returns
  have hz : ∀ w ∈ zB, w.before _ s = true := fun w h => atoms_spec (ws := v_X8_shun) B.pre w (List.mem_cons_of_mem _ h)
  have hown : s.vm.findClass RX8 = some m.cls := findClass_of_methodNamed B.named
  have hlocks := B.notSynchronized
  have hF : CallFix p m c cX8_shun 5 s (([.ref h, .int p1, .int p2, .int p3] : List Value).toArray) zB RX8 := ⟨hx, hb, hml, hown, hz⟩
  have hD := hD0.self (sz := s.heap.size)
  generalize hAe : va_A (cw_X8_shun cI h h_world h_world_town h_world_town_ways g_images g_pad g_hearing g_bowls g_guesses g_world_court g_world_sights f_world_town_ways f_world_town_milky) s.heap.size = A at hD ⊢
  have hA : ∀ q : Nat, s.heap.size ≤ q → A q := fun q h => by rw [← hAe]; exact Or.inr h
  have hS : va_S A s.heap s.heap [] := va_S.rf
  have hP : va_P D vwCl (cw_X8_shun cI h h_world h_world_town h_world_town_ways g_images g_pad g_hearing g_bowls g_guesses g_world_court g_world_sights f_world_town_ways f_world_town_milky) s.heap := hP
  have hl := lv_entry ([.ref h, .int p1, .int p2, .int p3]) (n := 5) (Nat.le_of_ble_eq_true rfl)
  rw [lg_entry_eq]
  generalize (lg_sl ([.ref h, .int p1, .int p2, .int p3]) ++ List.replicate (5 - (lg_sl ([.ref h, .int p1, .int p2, .int p3])).length) Slot.unset).toArray = ls at hl ⊢
  have hl : lv_has ls 5 [(0, .ref h), (1, .int p1), (2, .int p2), (3, .int p3)] := hl
  unfold w_X8_shun at hw
  refine lv_iload_n hx hb dX8_shun_0 rfl (lv_at hl 1 rfl) ?_
  refine z_ri (z_runS (As := [.int p1]) (rest := []) hF (c_X8_isCell l D cI cC cZ p1 _ _ hw) (va_cwS 1 hz (z_gS z1_234 z1_235 z1_1 z1_236) rfl rfl rfl hd_X8_isCell ⟨Nat.le_of_ble_eq_true rfl, Nat.le_of_ble_eq_true rfl⟩) hK hP hD [] rfl rfl rfl hl.1 rfl (Nat.le_of_ble_eq_true rfl) dX8_shun_1 ⟨Nat.zero_le _, Nat.zero_le _⟩) hP hD hS hA [] rfl (fun _ => rfl) (fun _ => cw_X8_shun cI h h_world h_world_town h_world_town_ways g_images g_pad g_hearing g_bowls g_guesses g_world_court g_world_sights f_world_town_ways f_world_town_milky) (fun _ => rfl) (fun r1 u1 H locs hw hP hD hS => ?_)
  obtain ⟨hn1, hw⟩ := hw
  try dsimp only at hw
  refine lv_if_eq (tgt := 14) hx hb dX8_shun_4 (by decide) (fun c4 => ?_) (fun c4 => ?_)
  · have hw := hw.1 c4
    refine lv_iconst (v := (-1 : Int32)) hx hb dX8_shun_14 (by decide) ?_
    exact z_iret hx hb hr hlocks () hw hP hS dX8_shun_15
  have hw := hw.2 c4
  refine lv_iload_n hx hb dX8_shun_7 rfl (lv_at hl 2 rfl) ?_
  refine z_ri (z_runS (As := [.int p2]) (rest := []) hF (c_X8_isCell l D cI cC cZ p2 _ _ hw) (va_cwS 1 hz (z_gS z1_234 z1_235 z1_1 z1_236) rfl rfl rfl hd_X8_isCell ⟨Nat.le_of_ble_eq_true rfl, Nat.le_of_ble_eq_true rfl⟩) hK hP hD [] rfl rfl rfl hl.1 rfl (Nat.le_of_ble_eq_true rfl) dX8_shun_8 ⟨Nat.zero_le _, Nat.zero_le _⟩) hP hD hS hA [] rfl (fun _ => rfl) (fun _ => cw_X8_shun cI h h_world h_world_town h_world_town_ways g_images g_pad g_hearing g_bowls g_guesses g_world_court g_world_sights f_world_town_ways f_world_town_milky) (fun _ => rfl) (fun r8 u8 H locs hw hP hD hS => ?_)
  obtain ⟨hn8, hw⟩ := hw
  try dsimp only at hw
  refine lv_if_ne (tgt := 16) hx hb dX8_shun_11 (by decide) (fun c11 => ?_) (fun c11 => ?_)
  · have hw := hw.2 c11
    refine lv_iload_n hx hb dX8_shun_16 rfl (lv_at hl 3 rfl) ?_
    refine lv_iconst (v := (0 : Int32)) hx hb dX8_shun_17 (by decide) ?_
    refine lv_iconst (v := (1 : Int32)) hx hb dX8_shun_18 (by decide) ?_
    refine z_ri (z_runS (As := [.int p3, .int (0 : Int32), .int (1 : Int32)]) (rest := []) hF (c_X8_within l D cI cC cZ p3 (0 : Int32) (1 : Int32) _ _ hw) (va_cwS 3 hz (z_gS z1_212 z1_213 z1_1 z1_214) rfl rfl rfl hd_X8_within ⟨Nat.le_of_ble_eq_true rfl, Nat.le_of_ble_eq_true rfl⟩) hK hP hD [] rfl rfl rfl hl.1 rfl (Nat.le_of_ble_eq_true rfl) dX8_shun_19 ⟨Nat.zero_le _, Nat.zero_le _⟩) hP hD hS hA [] rfl (fun _ => rfl) (fun _ => cw_X8_shun cI h h_world h_world_town h_world_town_ways g_images g_pad g_hearing g_bowls g_guesses g_world_court g_world_sights f_world_town_ways f_world_town_milky) (fun _ => rfl) (fun r19 u19 H locs hw hP hD hS => ?_)
    obtain ⟨hn19, hw⟩ := hw
    try dsimp only at hw
    refine lv_if_ne (tgt := 28) hx hb dX8_shun_22 (by decide) (fun c22 => ?_) (fun c22 => ?_)
    · have hw := hw.2 c22
      refine lv_aload_n hx hb dX8_shun_28 rfl (lv_at hl 0 rfl) ?_
      refine va_get (D := D) (ci := 8) (v := .ref h_world) (C := RX8) (T := TX8) (N := 6) hx hb hz hX_X8 hown hK.1 hP 0 rfl rfl 0 (by decide) (hz _ z1_183) (fun _ h9 => h9) rfl dX8_shun_29 ?_
      refine va_getN (D := D) (ci := 7) (v := .ref h_world_town) (C := RX7) (T := TX7) (N := 3) hx hb hz hX_X7 hown hK.1 hP 1 rfl rfl 1 (by decide) (va_Nw.use rfl (hK.2.1 _ (List.mem_of_getElem? (i := 8) rfl))) (fun _ h9 => h9) rfl dX8_shun_32 ?_
      refine lv_iload_n hx hb dX8_shun_35 rfl (lv_at hl 1 rfl) ?_
      refine lv_iload_n hx hb dX8_shun_36 rfl (lv_at hl 2 rfl) ?_
      refine z_ri (z_runV (As := [.int p1, .int p2]) (rest := []) hF (c_X6_fewestToEmpty l D cI cC cZ h_world_town h_world_town_ways f_world_town_ways f_world_town_milky p1 p2 _ _ hw) (cwV 2 hz (z_gV z2_236 z2_237 z2_238 z1_4 z2_239) rfl rfl rfl hd_X6_fewestToEmpty ⟨Nat.le_of_ble_eq_true rfl, Nat.le_of_ble_eq_true rfl⟩) hK hP hD [2, 3] rfl rfl 2 6 rfl rfl rfl rfl hl.1 rfl (Nat.le_of_ble_eq_true rfl) dX8_shun_37 ⟨Nat.zero_le _, Nat.zero_le _⟩) hP hD hS hA [2, 3] rfl (fun _ => rfl) (fun _ => cw_X8_shun cI h h_world h_world_town h_world_town_ways g_images g_pad g_hearing g_bowls g_guesses g_world_court g_world_sights f_world_town_ways f_world_town_milky) (fun _ => rfl) (fun r37 u37 H locs hw hP hD hS => ?_)
      try dsimp only at hw
      refine lv_istore (lv' := [(4, .int r37), (0, .ref h), (1, .int p1), (2, .int p2), (3, .int p3)]) hx hb dX8_shun_40 hl (by decide) rfl (fun ls hl => ?_)
      refine lv_iload hx hb dX8_shun_42 (lv_at hl 0 rfl) ?_
      refine lv_bipush (v := (-6 : Int32)) hx hb dX8_shun_44 (by decide) ?_
      refine lv_icmp_ne (tgt := 52) hx hb dX8_shun_46 (by decide) (fun c46 => ?_) (fun c46 => ?_)
      · have hw := hw.2 c46
        refine lv_iload_n hx hb dX8_shun_52 rfl (lv_at hl 4 rfl) ?_
        refine lv_if_ne (tgt := 64) hx hb dX8_shun_53 (by decide) (fun c53 => ?_) (fun c53 => ?_)
        · have hw := hw.2 c53
          refine lv_iload hx hb dX8_shun_64 (lv_at hl 0 rfl) ?_
          exact z_iret hx hb hr hlocks () hw hP hS dX8_shun_66
        have hw := hw.1 c53
        refine lv_iload hx hb dX8_shun_56 (lv_at hl 0 rfl) ?_
        refine z_ri (z_runS (As := [.int r37]) (rest := []) hF (c_J6_bitCount_0f7a4 l D cI cC cZ r37 _ _ hw) (va_cwS 1 hz (z_gS z1_220 z1_221 z1_11 z1_222) rfl rfl rfl hd_J6_bitCount_0f7a4 ⟨Nat.le_of_ble_eq_true rfl, Nat.le_of_ble_eq_true rfl⟩) hK hP hD [] rfl rfl rfl hl.1 rfl (Nat.le_of_ble_eq_true rfl) dX8_shun_58 ⟨Nat.zero_le _, Nat.zero_le _⟩) hP hD hS hA [] rfl (fun _ => rfl) (fun _ => cw_X8_shun cI h h_world h_world_town h_world_town_ways g_images g_pad g_hearing g_bowls g_guesses g_world_court g_world_sights f_world_town_ways f_world_town_milky) (fun _ => rfl) (fun r58 u58 H locs hw hP hD hS => ?_)
        try dsimp only at hw
        refine lv_goto (tgt := 66) hx hb dX8_shun_61 (by decide) ?_
        exact z_iret hx hb hr hlocks () hw hP hS dX8_shun_66
      have hw := hw.1 c46
      refine lv_bipush (v := (-6 : Int32)) hx hb dX8_shun_49 (by decide) ?_
      exact z_iret hx hb hr hlocks () hw hP hS dX8_shun_51
    have hw := hw.1 c22
    refine lv_bipush (v := (-2 : Int32)) hx hb dX8_shun_25 (by decide) ?_
    exact z_iret hx hb hr hlocks () hw hP hS dX8_shun_27
  have hw := hw.1 c11
  refine lv_iconst (v := (-1 : Int32)) hx hb dX8_shun_14 (by decide) ?_
  exact z_iret hx hb hr hlocks () hw hP hS dX8_shun_15
abbrev cw_X8_choose : va_W := []
abbrev q_X8_choose (D : va_G) (post : Int32 → Prop) (A : Nat → Prop) : Array Value → State → Outcome → State → Prop := va_Qi (S := Unit) (fun r _ => post r ) (fun _ t => va_P D vwCl (cw_X8_choose) t.heap) A
abbrev v_X8_choose : List Cond := .code yX8_choose cX8_choose 5 (some .int) :: zB
theorem hd_X8_choose : yX8_choose.cls ≠ "java/lang/invoke/MethodHandle" ∧ yX8_choose.cls ≠ "java/lang/invoke/VarHandle" ∧ (parseMethodDescriptor yX8_choose.desc).map (fun d => d.parameters.length) = some 2 := by decide +kernel
set_option maxHeartbeats 4000000 in
set_option maxRecDepth 100000 in
theorem c_X8_choose (l : Launch) (D : va_G) (cI cC cZ : ClassId) (p0 : Int32) (p1 : Int32) (sz : Nat) (post : Int32 → Prop) (hw : w_X8_choose post p0 p1) : Met l yX8_choose v_X8_choose ({ frames := 0, cells := 0, slots := 0, locals := 0 } : Room) (va_Pc [.int p0, .int p1] (zPre D (zT cI cC cZ) sz (cw_X8_choose))) (q_X8_choose D post (va_A (cw_X8_choose) sz)) 0 0 (va_A (cw_X8_choose) sz) := by
  refine Met.ofW (cc := cX8_choose) (maxL := 5) (ret := (some .int)) (by decide) rfl ?_
  intro p e s m args below meth c s₁ B hml hv
  obtain ⟨rfl, hsz, hP, hK, hD0⟩ := hv
  subst hsz
  have hx := B.exec
  have hb := B.bytes
  have hr := B.returns
  have hz : ∀ w ∈ zB, w.before _ s = true := fun w h => atoms_spec (ws := v_X8_choose) B.pre w (List.mem_cons_of_mem _ h)
  have hown : s.vm.findClass RX8 = some m.cls := findClass_of_methodNamed B.named
  have hlocks := B.notSynchronized
  have hF : CallFix p m c cX8_choose 5 s (([.int p0, .int p1] : List Value).toArray) zB RX8 := ⟨hx, hb, hml, hown, hz⟩
  have hD := hD0.self (sz := s.heap.size)
  generalize hAe : va_A (cw_X8_choose) s.heap.size = A at hD ⊢
  have hA : ∀ q : Nat, s.heap.size ≤ q → A q := fun q h => by rw [← hAe]; exact Or.inr h
  have hS : va_S A s.heap s.heap [] := va_S.rf
  have hP : va_P D vwCl (cw_X8_choose) s.heap := hP
  have hl := lv_entry ([.int p0, .int p1]) (n := 5) (Nat.le_of_ble_eq_true rfl)
  rw [lg_entry_eq]
  generalize (lg_sl ([.int p0, .int p1]) ++ List.replicate (5 - (lg_sl ([.int p0, .int p1])).length) Slot.unset).toArray = ls at hl ⊢
  have hl : lv_has ls 5 [(0, .int p0), (1, .int p1)] := hl
  have L16 : ∀ (n16 : Nat) (x2 : Int64) (x4 : Int32) (H : Heap) (locs : List Loc) (ls : Array Slot) (hw : w_X8_choose_B16 post p0 p1 n16 x2 x4) (hP : va_P D vwCl (cw_X8_choose) H) (hD : va_D A (cw_X8_choose)) (hS : va_S A s.heap H locs) (hl : lv_has ls 5 [(0, .int p0), (1, .int p1), (2, .long x2), (4, .int x4)]), W p l e (headSpec v_X8_choose ({ frames := 0, cells := 0, slots := 0, locals := 0 } : Room)).room s m (([.int p0, .int p1] : List Value).toArray) below meth c H locs 0 0 (MQ below (q_X8_choose D post A) (([.int p0, .int p1] : List Value).toArray) s 0 0 A) (F0 m 16 ls []) := by
    intro n16
    induction n16 with
    | zero => intro x2 x4 H locs ls hw; exact False.elim hw
    | succ n16 ih16 =>
      intro x2 x4 H locs ls hw hP hD hS hl
      unfold w_X8_choose_B16 at hw
      refine lv_iload hx hb dX8_choose_16 (lv_at hl 3 rfl) ?_
      refine lv_iload_n hx hb dX8_choose_18 rfl (lv_at hl 1 rfl) ?_
      refine lv_icmp_gt (tgt := 42) hx hb dX8_choose_19 (by decide) (fun c19 => ?_) (fun c19 => ?_)
      · have hw := hw.1 c19
        refine lv_lload_n hx hb dX8_choose_42 rfl (lv_at hl 2 rfl) ?_
        refine lv_l2i (v := x2.toInt32) hx hb dX8_choose_43 rfl ?_
        exact z_iret hx hb hr hlocks () hw hP hS dX8_choose_44
      have hw := hw.2 c19
      refine lv_lload_n hx hb dX8_choose_22 rfl (lv_at hl 2 rfl) ?_
      refine lv_iload_n hx hb dX8_choose_23 rfl (lv_at hl 0 rfl) ?_
      refine lv_iload_n hx hb dX8_choose_24 rfl (lv_at hl 1 rfl) ?_
      refine lv_isub hx hb dX8_choose_25 ?_
      refine lv_iload hx hb dX8_choose_26 (lv_at hl 3 rfl) ?_
      refine lv_iadd hx hb dX8_choose_28 ?_
      refine lv_i2l (v := ((p0 - p1) + x4).toInt64) hx hb dX8_choose_29 rfl ?_
      refine lv_lmul hx hb dX8_choose_30 ?_
      refine lv_iload hx hb dX8_choose_31 (lv_at hl 3 rfl) ?_
      refine lv_i2l (v := x4.toInt64) hx hb dX8_choose_33 rfl ?_
      obtain ⟨hz34, hw⟩ := hw
      refine lv_ldiv hx hb dX8_choose_34 hz34 ?_
      refine lv_topl (fun y35 ey35 => ?_)
      have hw := hw y35 ey35
      refine lv_lstore_n (lv' := [(2, .long y35), (0, .int p0), (1, .int p1), (4, .int x4)]) hx hb dX8_choose_35 rfl hl (by decide) rfl (fun ls hl => ?_)
      refine lv_iinc (k := 3) (v := (x4 + 1)) (lv' := [(4, .int (x4 + 1)), (2, .long y35), (0, .int p0), (1, .int p1)]) hx hb dX8_choose_36 hl rfl rfl (by decide) rfl (fun ls hl => ?_)
      refine lv_goto (tgt := 16) hx hb dX8_choose_39 (by decide) ?_
      exact ih16 y35 (x4 + 1) _ _ _ hw hP hD hS (lv_sub hl [2, 3, 1, 0] rfl)
  unfold w_X8_choose at hw
  refine lv_iload_n hx hb dX8_choose_0 rfl (lv_at hl 1 rfl) ?_
  refine lv_if_lt (tgt := 9) hx hb dX8_choose_1 (by decide) (fun c1 => ?_) (fun c1 => ?_)
  · have hw := hw.1 c1
    refine lv_iconst (v := (0 : Int32)) hx hb dX8_choose_9 (by decide) ?_
    exact z_iret hx hb hr hlocks () hw hP hS dX8_choose_10
  have hw := hw.2 c1
  refine lv_iload_n hx hb dX8_choose_4 rfl (lv_at hl 1 rfl) ?_
  refine lv_iload_n hx hb dX8_choose_5 rfl (lv_at hl 0 rfl) ?_
  refine lv_icmp_le (tgt := 11) hx hb dX8_choose_6 (by decide) (fun c6 => ?_) (fun c6 => ?_)
  · have hw := hw.1 c6
    refine lv_lconst (v := (1 : Int64)) hx hb dX8_choose_11 (by decide) ?_
    refine lv_lstore_n (lv' := [(2, .long (1 : Int64)), (0, .int p0), (1, .int p1)]) hx hb dX8_choose_12 rfl hl (by decide) rfl (fun ls hl => ?_)
    refine lv_iconst (v := (1 : Int32)) hx hb dX8_choose_13 (by decide) ?_
    refine lv_istore (lv' := [(4, .int (1 : Int32)), (2, .long (1 : Int64)), (0, .int p0), (1, .int p1)]) hx hb dX8_choose_14 hl (by decide) rfl (fun ls hl => ?_)
    obtain ⟨n16, hw⟩ := hw
    exact L16 n16 (1 : Int64) (1 : Int32) _ _ _ hw hP hD hS (lv_sub hl [2, 3, 1, 0] rfl)
  have hw := hw.2 c6
  refine lv_iconst (v := (0 : Int32)) hx hb dX8_choose_9 (by decide) ?_
  exact z_iret hx hb hr hlocks () hw hP hS dX8_choose_10
abbrev cw_X8_countRows : va_W := []
abbrev q_X8_countRows (D : va_G) (post : Int32 → Prop) (A : Nat → Prop) : Array Value → State → Outcome → State → Prop := va_Qi (S := Unit) (fun r _ => post r ) (fun _ t => va_P D vwCl (cw_X8_countRows) t.heap) A
abbrev v_X8_countRows : List Cond := .code yX8_countRows cX8_countRows 2 (some .int) :: zB
theorem hd_X8_countRows : yX8_countRows.cls ≠ "java/lang/invoke/MethodHandle" ∧ yX8_countRows.cls ≠ "java/lang/invoke/VarHandle" ∧ (parseMethodDescriptor yX8_countRows.desc).map (fun d => d.parameters.length) = some 2 := by decide +kernel
set_option maxHeartbeats 4000000 in
set_option maxRecDepth 100000 in
theorem c_X8_countRows (l : Launch) (D : va_G) (cI cC cZ : ClassId) (p0 : Int32) (p1 : Int32) (sz : Nat) (post : Int32 → Prop) (hw : w_X8_countRows post p0 p1) : Met l yX8_countRows v_X8_countRows ({ frames := 1, cells := 0, slots := 0, locals := 24 } : Room) (va_Pc [.int p0, .int p1] (zPre D (zT cI cC cZ) sz (cw_X8_countRows))) (q_X8_countRows D post (va_A (cw_X8_countRows) sz)) 0 0 (va_A (cw_X8_countRows) sz) := by
  refine Met.ofW (cc := cX8_countRows) (maxL := 2) (ret := (some .int)) (by decide) rfl ?_
  intro p e s m args below meth c s₁ B hml hv
  obtain ⟨rfl, hsz, hP, hK, hD0⟩ := hv
  subst hsz
  have hx := B.exec
  have hb := B.bytes
  have hr := B.returns
  have hz : ∀ w ∈ zB, w.before _ s = true := fun w h => atoms_spec (ws := v_X8_countRows) B.pre w (List.mem_cons_of_mem _ h)
  have hown : s.vm.findClass RX8 = some m.cls := findClass_of_methodNamed B.named
  have hlocks := B.notSynchronized
  have hF : CallFix p m c cX8_countRows 2 s (([.int p0, .int p1] : List Value).toArray) zB RX8 := ⟨hx, hb, hml, hown, hz⟩
  have hD := hD0.self (sz := s.heap.size)
  generalize hAe : va_A (cw_X8_countRows) s.heap.size = A at hD ⊢
  have hA : ∀ q : Nat, s.heap.size ≤ q → A q := fun q h => by rw [← hAe]; exact Or.inr h
  have hS : va_S A s.heap s.heap [] := va_S.rf
  have hP : va_P D vwCl (cw_X8_countRows) s.heap := hP
  have hl := lv_entry ([.int p0, .int p1]) (n := 2) (Nat.le_of_ble_eq_true rfl)
  rw [lg_entry_eq]
  generalize (lg_sl ([.int p0, .int p1]) ++ List.replicate (2 - (lg_sl ([.int p0, .int p1])).length) Slot.unset).toArray = ls at hl ⊢
  have hl : lv_has ls 2 [(0, .int p0), (1, .int p1)] := hl
  unfold w_X8_countRows at hw
  refine lv_iload_n hx hb dX8_countRows_0 rfl (lv_at hl 0 rfl) ?_
  refine lv_iload_n hx hb dX8_countRows_1 rfl (lv_at hl 1 rfl) ?_
  refine lv_isub hx hb dX8_countRows_2 ?_
  refine lv_iconst (v := (1 : Int32)) hx hb dX8_countRows_3 (by decide) ?_
  refine lv_iadd hx hb dX8_countRows_4 ?_
  refine lv_iload_n hx hb dX8_countRows_5 rfl (lv_at hl 1 rfl) ?_
  refine z_ri (z_runS (As := [.int ((p0 - p1) + (1 : Int32)), .int p1]) (rest := []) hF (c_X8_choose l D cI cC cZ ((p0 - p1) + (1 : Int32)) p1 _ _ hw) (va_cwS 2 hz (z_gS z3_8 z3_9 z1_1 z3_10) rfl rfl rfl hd_X8_choose ⟨Nat.le_of_ble_eq_true rfl, Nat.le_of_ble_eq_true rfl⟩) hK hP hD [] rfl rfl rfl hl.1 rfl (Nat.le_of_ble_eq_true rfl) dX8_countRows_6 ⟨Nat.zero_le _, Nat.zero_le _⟩) hP hD hS hA [] rfl (fun _ => rfl) (fun _ => cw_X8_countRows) (fun _ => rfl) (fun r6 u6 H locs hw hP hD hS => ?_)
  try dsimp only at hw
  exact z_iret hx hb hr hlocks () hw hP hS dX8_countRows_9
abbrev cw_X8_apart (h : Nat) (g_world g_images g_pad g_hearing g_bowls g_guesses : Value) : va_W := [(h, .inr (8, [g_world, g_images, g_pad, g_hearing, g_bowls, g_guesses]))]
abbrev q_X8_apart (D : va_G) (h : Nat) (g_world g_images g_pad g_hearing g_bowls g_guesses : Value) (post : Int32 → Prop) (A : Nat → Prop) : Array Value → State → Outcome → State → Prop := va_Qi (S := Unit) (fun r _ => post r ) (fun _ t => va_P D vwCl (cw_X8_apart h g_world g_images g_pad g_hearing g_bowls g_guesses) t.heap) A
abbrev v_X8_apart : List Cond := .code yX8_apart cX8_apart 3 (some .int) :: zB
theorem hd_X8_apart : yX8_apart.cls = RX8 ∧ yX8_apart.cls ≠ "java/lang/invoke/MethodHandle" ∧ yX8_apart.cls ≠ "java/lang/invoke/VarHandle" ∧ (parseMethodDescriptor yX8_apart.desc).map (fun d => d.parameters.length) = some 2 := by decide +kernel
set_option maxHeartbeats 4000000 in
set_option maxRecDepth 100000 in
theorem c_X8_apart (l : Launch) (D : va_G) (cI cC cZ : ClassId) (h : Nat) (g_world g_images g_pad g_hearing g_bowls g_guesses : Value) (p1 : Int32) (p2 : Int32) (sz : Nat) (post : Int32 → Prop) (hw : w_X8_apart post p1 p2) : Met l yX8_apart v_X8_apart ({ frames := 2, cells := 0, slots := 0, locals := 45 } : Room) (va_Pc [.ref h, .int p1, .int p2] (zPre D (zT cI cC cZ) sz (cw_X8_apart h g_world g_images g_pad g_hearing g_bowls g_guesses))) (q_X8_apart D h g_world g_images g_pad g_hearing g_bowls g_guesses post (va_A (cw_X8_apart h g_world g_images g_pad g_hearing g_bowls g_guesses) sz)) 0 0 (va_A (cw_X8_apart h g_world g_images g_pad g_hearing g_bowls g_guesses) sz) := by
  refine Met.ofW (cc := cX8_apart) (maxL := 3) (ret := (some .int)) (by decide) rfl ?_
  intro p e s m args below meth c s₁ B hml hv
  obtain ⟨rfl, hsz, hP, hK, hD0⟩ := hv
  subst hsz
  have hx := B.exec
  have hb := B.bytes
  have hr := B.returns
  have hz : ∀ w ∈ zB, w.before _ s = true := fun w h => atoms_spec (ws := v_X8_apart) B.pre w (List.mem_cons_of_mem _ h)
  have hown : s.vm.findClass RX8 = some m.cls := findClass_of_methodNamed B.named
  have hlocks := B.notSynchronized
  have hF : CallFix p m c cX8_apart 3 s (([.ref h, .int p1, .int p2] : List Value).toArray) zB RX8 := ⟨hx, hb, hml, hown, hz⟩
  have hD := hD0.self (sz := s.heap.size)
  generalize hAe : va_A (cw_X8_apart h g_world g_images g_pad g_hearing g_bowls g_guesses) s.heap.size = A at hD ⊢
  have hA : ∀ q : Nat, s.heap.size ≤ q → A q := fun q h => by rw [← hAe]; exact Or.inr h
  have hS : va_S A s.heap s.heap [] := va_S.rf
  have hP : va_P D vwCl (cw_X8_apart h g_world g_images g_pad g_hearing g_bowls g_guesses) s.heap := hP
  have hl := lv_entry ([.ref h, .int p1, .int p2]) (n := 3) (Nat.le_of_ble_eq_true rfl)
  rw [lg_entry_eq]
  generalize (lg_sl ([.ref h, .int p1, .int p2]) ++ List.replicate (3 - (lg_sl ([.ref h, .int p1, .int p2])).length) Slot.unset).toArray = ls at hl ⊢
  have hl : lv_has ls 3 [(0, .ref h), (1, .int p1), (2, .int p2)] := hl
  unfold w_X8_apart at hw
  refine lv_iload_n hx hb dX8_apart_0 rfl (lv_at hl 1 rfl) ?_
  refine lv_iconst (v := (0 : Int32)) hx hb dX8_apart_1 (by decide) ?_
  refine lv_bipush (v := (40 : Int32)) hx hb dX8_apart_2 (by decide) ?_
  refine z_ri (z_runS (As := [.int p1, .int (0 : Int32), .int (40 : Int32)]) (rest := []) hF (c_X8_within l D cI cC cZ p1 (0 : Int32) (40 : Int32) _ _ hw) (va_cwS 3 hz (z_gS z1_212 z1_213 z1_1 z1_214) rfl rfl rfl hd_X8_within ⟨Nat.le_of_ble_eq_true rfl, Nat.le_of_ble_eq_true rfl⟩) hK hP hD [] rfl rfl rfl hl.1 rfl (Nat.le_of_ble_eq_true rfl) dX8_apart_4 ⟨Nat.zero_le _, Nat.zero_le _⟩) hP hD hS hA [] rfl (fun _ => rfl) (fun _ => cw_X8_apart h g_world g_images g_pad g_hearing g_bowls g_guesses) (fun _ => rfl) (fun r4 u4 H locs hw hP hD hS => ?_)
  obtain ⟨hn4, hw⟩ := hw
  try dsimp only at hw
  refine lv_if_eq (tgt := 19) hx hb dX8_apart_7 (by decide) (fun c7 => ?_) (fun c7 => ?_)
  · have hw := hw.1 c7
    refine lv_bipush (v := (-2 : Int32)) hx hb dX8_apart_19 (by decide) ?_
    exact z_iret hx hb hr hlocks () hw hP hS dX8_apart_21
  have hw := hw.2 c7
  refine lv_iload_n hx hb dX8_apart_10 rfl (lv_at hl 2 rfl) ?_
  refine lv_iconst (v := (0 : Int32)) hx hb dX8_apart_11 (by decide) ?_
  refine lv_iload_n hx hb dX8_apart_12 rfl (lv_at hl 1 rfl) ?_
  refine z_ri (z_runS (As := [.int p2, .int (0 : Int32), .int p1]) (rest := []) hF (c_X8_within l D cI cC cZ p2 (0 : Int32) p1 _ _ hw) (va_cwS 3 hz (z_gS z1_212 z1_213 z1_1 z1_214) rfl rfl rfl hd_X8_within ⟨Nat.le_of_ble_eq_true rfl, Nat.le_of_ble_eq_true rfl⟩) hK hP hD [] rfl rfl rfl hl.1 rfl (Nat.le_of_ble_eq_true rfl) dX8_apart_13 ⟨Nat.zero_le _, Nat.zero_le _⟩) hP hD hS hA [] rfl (fun _ => rfl) (fun _ => cw_X8_apart h g_world g_images g_pad g_hearing g_bowls g_guesses) (fun _ => rfl) (fun r13 u13 H locs hw hP hD hS => ?_)
  obtain ⟨hn13, hw⟩ := hw
  try dsimp only at hw
  refine lv_if_ne (tgt := 22) hx hb dX8_apart_16 (by decide) (fun c16 => ?_) (fun c16 => ?_)
  · have hw := hw.2 c16
    refine lv_iload_n hx hb dX8_apart_22 rfl (lv_at hl 1 rfl) ?_
    refine lv_iload_n hx hb dX8_apart_23 rfl (lv_at hl 2 rfl) ?_
    refine z_ri (z_runS (As := [.int p1, .int p2]) (rest := []) hF (c_X8_countRows l D cI cC cZ p1 p2 _ _ hw) (va_cwS 2 hz (z_gS z3_5 z3_6 z1_1 z3_7) rfl rfl rfl hd_X8_countRows ⟨Nat.le_of_ble_eq_true rfl, Nat.le_of_ble_eq_true rfl⟩) hK hP hD [] rfl rfl rfl hl.1 rfl (Nat.le_of_ble_eq_true rfl) dX8_apart_24 ⟨Nat.zero_le _, Nat.zero_le _⟩) hP hD hS hA [] rfl (fun _ => rfl) (fun _ => cw_X8_apart h g_world g_images g_pad g_hearing g_bowls g_guesses) (fun _ => rfl) (fun r24 u24 H locs hw hP hD hS => ?_)
    try dsimp only at hw
    refine lv_ldc (v := (1000007 : Int32)) hx hb hown (hz _ z3_11) dX8_apart_27 ?_
    refine lv_irem hx hb dX8_apart_29 (by decide) ?_
    exact z_iret hx hb hr hlocks () hw hP hS dX8_apart_30
  have hw := hw.1 c16
  refine lv_bipush (v := (-2 : Int32)) hx hb dX8_apart_19 (by decide) ?_
  exact z_iret hx hb hr hlocks () hw hP hS dX8_apart_21
abbrev cw_X8_nthRow : va_W := []
abbrev q_X8_nthRow (D : va_G) (post : Int32 → Prop) (A : Nat → Prop) : Array Value → State → Outcome → State → Prop := va_Qi (S := Unit) (fun r _ => post r ) (fun _ t => va_P D vwCl (cw_X8_nthRow) t.heap) A
abbrev v_X8_nthRow : List Cond := .code yX8_nthRow cX8_nthRow 8 (some .int) :: zB
theorem hd_X8_nthRow : yX8_nthRow.cls ≠ "java/lang/invoke/MethodHandle" ∧ yX8_nthRow.cls ≠ "java/lang/invoke/VarHandle" ∧ (parseMethodDescriptor yX8_nthRow.desc).map (fun d => d.parameters.length) = some 3 := by decide +kernel
set_option maxHeartbeats 4000000 in
set_option maxRecDepth 100000 in
theorem c_X8_nthRow (l : Launch) (D : va_G) (cI cC cZ : ClassId) (p0 : Int32) (p1 : Int32) (p2 : Int32) (sz : Nat) (post : Int32 → Prop) (hw : w_X8_nthRow post p0 p1 p2) : Met l yX8_nthRow v_X8_nthRow ({ frames := 2, cells := 0, slots := 0, locals := 45 } : Room) (va_Pc [.int p0, .int p1, .int p2] (zPre D (zT cI cC cZ) sz (cw_X8_nthRow))) (q_X8_nthRow D post (va_A (cw_X8_nthRow) sz)) 0 0 (va_A (cw_X8_nthRow) sz) := by
  refine Met.ofW (cc := cX8_nthRow) (maxL := 8) (ret := (some .int)) (by decide) rfl ?_
  intro p e s m args below meth c s₁ B hml hv
  obtain ⟨rfl, hsz, hP, hK, hD0⟩ := hv
  subst hsz
  have hx := B.exec
  have hb := B.bytes
  have hr := B.returns
  have hz : ∀ w ∈ zB, w.before _ s = true := fun w h => atoms_spec (ws := v_X8_nthRow) B.pre w (List.mem_cons_of_mem _ h)
  have hown : s.vm.findClass RX8 = some m.cls := findClass_of_methodNamed B.named
  have hlocks := B.notSynchronized
  have hF : CallFix p m c cX8_nthRow 8 s (([.int p0, .int p1, .int p2] : List Value).toArray) zB RX8 := ⟨hx, hb, hml, hown, hz⟩
  have hD := hD0.self (sz := s.heap.size)
  generalize hAe : va_A (cw_X8_nthRow) s.heap.size = A at hD ⊢
  have hA : ∀ q : Nat, s.heap.size ≤ q → A q := fun q h => by rw [← hAe]; exact Or.inr h
  have hS : va_S A s.heap s.heap [] := va_S.rf
  have hP : va_P D vwCl (cw_X8_nthRow) s.heap := hP
  have hl := lv_entry ([.int p0, .int p1, .int p2]) (n := 8) (Nat.le_of_ble_eq_true rfl)
  rw [lg_entry_eq]
  generalize (lg_sl ([.int p0, .int p1, .int p2]) ++ List.replicate (8 - (lg_sl ([.int p0, .int p1, .int p2])).length) Slot.unset).toArray = ls at hl ⊢
  have hl : lv_has ls 8 [(0, .int p0), (1, .int p1), (2, .int p2)] := hl
  have L13 : ∀ (n13 : Nat) (x3 : Int32) (x4 : Int32) (x5 : Int32) (x6 : Int32) (H : Heap) (locs : List Loc) (ls : Array Slot) (hw : w_X8_nthRow_B13 post p0 p1 p2 n13 x3 x4 x5 x6) (hP : va_P D vwCl (cw_X8_nthRow) H) (hD : va_D A (cw_X8_nthRow)) (hS : va_S A s.heap H locs) (hl : lv_has ls 8 [(3, .int x3), (4, .int x4), (5, .int x5), (6, .int x6)]), W p l e (headSpec v_X8_nthRow ({ frames := 2, cells := 0, slots := 0, locals := 45 } : Room)).room s m (([.int p0, .int p1, .int p2] : List Value).toArray) below meth c H locs 0 0 (MQ below (q_X8_nthRow D post A) (([.int p0, .int p1, .int p2] : List Value).toArray) s 0 0 A) (F0 m 13 ls []) := by
    intro n13
    induction n13 with
    | zero => intro x3 x4 x5 x6 H locs ls hw; exact False.elim hw
    | succ n13 ih13 =>
      intro x3 x4 x5 x6 H locs ls hw hP hD hS hl
      unfold w_X8_nthRow_B13 at hw
      refine lv_iload hx hb dX8_nthRow_13 (lv_at hl 3 rfl) ?_
      refine lv_if_lt (tgt := 57) hx hb dX8_nthRow_15 (by decide) (fun c15 => ?_) (fun c15 => ?_)
      · have hw := hw.1 c15
        refine lv_iload_n hx hb dX8_nthRow_57 rfl (lv_at hl 0 rfl) ?_
        exact z_iret hx hb hr hlocks () hw hP hS dX8_nthRow_58
      have hw := hw.2 c15
      refine lv_iload hx hb dX8_nthRow_18 (lv_at hl 3 rfl) ?_
      refine lv_iload hx hb dX8_nthRow_20 (lv_at hl 1 rfl) ?_
      refine z_ri (z_runS (As := [.int x6, .int x4]) (rest := []) hF (c_X8_countRows l D cI cC cZ x6 x4 _ _ hw) (va_cwS 2 hz (z_gS z3_5 z3_6 z1_1 z3_7) rfl rfl rfl hd_X8_countRows ⟨Nat.le_of_ble_eq_true rfl, Nat.le_of_ble_eq_true rfl⟩) hK hP hD [] rfl rfl rfl hl.1 rfl (Nat.le_of_ble_eq_true rfl) dX8_nthRow_22 ⟨Nat.zero_le _, Nat.zero_le _⟩) hP hD hS hA [] rfl (fun _ => rfl) (fun _ => cw_X8_nthRow) (fun _ => rfl) (fun r22 u22 H locs hw hP hD hS => ?_)
      try dsimp only at hw
      refine lv_istore (lv' := [(7, .int r22), (3, .int x3), (4, .int x4), (5, .int x5), (6, .int x6)]) hx hb dX8_nthRow_25 hl (by decide) rfl (fun ls hl => ?_)
      refine lv_iload hx hb dX8_nthRow_27 (lv_at hl 3 rfl) ?_
      refine lv_iload hx hb dX8_nthRow_29 (lv_at hl 0 rfl) ?_
      refine lv_icmp_lt (tgt := 51) hx hb dX8_nthRow_31 (by decide) (fun c31 => ?_) (fun c31 => ?_)
      · have hw := hw.1 c31
        refine lv_iinc (k := 4) (v := (x6 + (-1))) (lv' := [(6, .int (x6 + (-1))), (7, .int r22), (3, .int x3), (4, .int x4), (5, .int x5)]) hx hb dX8_nthRow_51 hl rfl rfl (by decide) rfl (fun ls hl => ?_)
        refine lv_goto (tgt := 13) hx hb dX8_nthRow_54 (by decide) ?_
        exact ih13 x3 x4 x5 (x6 + (-1)) _ _ _ hw hP hD hS (lv_sub hl [2, 3, 4, 0] rfl)
      have hw := hw.2 c31
      refine lv_iload hx hb dX8_nthRow_34 (lv_at hl 3 rfl) ?_
      refine lv_iload hx hb dX8_nthRow_36 (lv_at hl 0 rfl) ?_
      refine lv_isub hx hb dX8_nthRow_38 ?_
      refine lv_istore (lv' := [(5, .int (x5 - r22)), (7, .int r22), (3, .int x3), (4, .int x4), (6, .int x6)]) hx hb dX8_nthRow_39 hl (by decide) rfl (fun ls hl => ?_)
      refine lv_iinc (k := 3) (v := (x4 + (-1))) (lv' := [(4, .int (x4 + (-1))), (5, .int (x5 - r22)), (7, .int r22), (3, .int x3), (6, .int x6)]) hx hb dX8_nthRow_41 hl rfl rfl (by decide) rfl (fun ls hl => ?_)
      refine lv_iload_n hx hb dX8_nthRow_44 rfl (lv_at hl 3 rfl) ?_
      refine lv_iconst (v := (1 : Int32)) hx hb dX8_nthRow_45 (by decide) ?_
      refine lv_iload hx hb dX8_nthRow_46 (lv_at hl 4 rfl) ?_
      refine lv_ishl hx hb dX8_nthRow_48 ?_
      refine lv_ior hx hb dX8_nthRow_49 ?_
      refine lv_topi (fun y50 ey50 => ?_)
      have hw := hw y50 ey50
      refine lv_istore_n (lv' := [(3, .int y50), (4, .int (x4 + (-1))), (5, .int (x5 - r22)), (7, .int r22), (6, .int x6)]) hx hb dX8_nthRow_50 rfl hl (by decide) rfl (fun ls hl => ?_)
      refine lv_iinc (k := 4) (v := (x6 + (-1))) (lv' := [(6, .int (x6 + (-1))), (3, .int y50), (4, .int (x4 + (-1))), (5, .int (x5 - r22)), (7, .int r22)]) hx hb dX8_nthRow_51 hl rfl rfl (by decide) rfl (fun ls hl => ?_)
      refine lv_goto (tgt := 13) hx hb dX8_nthRow_54 (by decide) ?_
      exact ih13 y50 (x4 + (-1)) (x5 - r22) (x6 + (-1)) _ _ _ hw hP hD hS (lv_sub hl [1, 2, 3, 0] rfl)
  unfold w_X8_nthRow at hw
  refine lv_iconst (v := (0 : Int32)) hx hb dX8_nthRow_0 (by decide) ?_
  refine lv_istore_n (lv' := [(3, .int (0 : Int32)), (0, .int p0), (1, .int p1), (2, .int p2)]) hx hb dX8_nthRow_1 rfl hl (by decide) rfl (fun ls hl => ?_)
  refine lv_iload_n hx hb dX8_nthRow_2 rfl (lv_at hl 2 rfl) ?_
  refine lv_istore (lv' := [(4, .int p1), (3, .int (0 : Int32)), (0, .int p0), (1, .int p1), (2, .int p2)]) hx hb dX8_nthRow_3 hl (by decide) rfl (fun ls hl => ?_)
  refine lv_iload_n hx hb dX8_nthRow_5 rfl (lv_at hl 4 rfl) ?_
  refine lv_istore (lv' := [(5, .int p2), (4, .int p1), (3, .int (0 : Int32)), (0, .int p0), (1, .int p1), (2, .int p2)]) hx hb dX8_nthRow_6 hl (by decide) rfl (fun ls hl => ?_)
  refine lv_iload_n hx hb dX8_nthRow_8 rfl (lv_at hl 3 rfl) ?_
  refine lv_iconst (v := (1 : Int32)) hx hb dX8_nthRow_9 (by decide) ?_
  refine lv_isub hx hb dX8_nthRow_10 ?_
  refine lv_istore (lv' := [(6, .int (p0 - (1 : Int32))), (5, .int p2), (4, .int p1), (3, .int (0 : Int32)), (0, .int p0), (1, .int p1), (2, .int p2)]) hx hb dX8_nthRow_11 hl (by decide) rfl (fun ls hl => ?_)
  obtain ⟨n13, hw⟩ := hw
  exact L13 n13 (0 : Int32) p1 p2 (p0 - (1 : Int32)) _ _ _ hw hP hD hS (lv_sub hl [3, 2, 1, 0] rfl)
abbrev cw_X8_row (h : Nat) (g_world g_images g_pad g_hearing g_bowls g_guesses : Value) : va_W := [(h, .inr (8, [g_world, g_images, g_pad, g_hearing, g_bowls, g_guesses]))]
abbrev q_X8_row (D : va_G) (h : Nat) (g_world g_images g_pad g_hearing g_bowls g_guesses : Value) (post : Int32 → Prop) (A : Nat → Prop) : Array Value → State → Outcome → State → Prop := va_Qi (S := Unit) (fun r _ => post r ) (fun _ t => va_P D vwCl (cw_X8_row h g_world g_images g_pad g_hearing g_bowls g_guesses) t.heap) A
abbrev v_X8_row : List Cond := .code yX8_row cX8_row 4 (some .int) :: zB
theorem hd_X8_row : yX8_row.cls = RX8 ∧ yX8_row.cls ≠ "java/lang/invoke/MethodHandle" ∧ yX8_row.cls ≠ "java/lang/invoke/VarHandle" ∧ (parseMethodDescriptor yX8_row.desc).map (fun d => d.parameters.length) = some 3 := by decide +kernel
set_option maxHeartbeats 4000000 in
set_option maxRecDepth 100000 in
theorem c_X8_row (l : Launch) (D : va_G) (cI cC cZ : ClassId) (h : Nat) (g_world g_images g_pad g_hearing g_bowls g_guesses : Value) (p1 : Int32) (p2 : Int32) (p3 : Int32) (sz : Nat) (post : Int32 → Prop) (hw : w_X8_row post p1 p2 p3) : Met l yX8_row v_X8_row ({ frames := 3, cells := 0, slots := 0, locals := 72 } : Room) (va_Pc [.ref h, .int p1, .int p2, .int p3] (zPre D (zT cI cC cZ) sz (cw_X8_row h g_world g_images g_pad g_hearing g_bowls g_guesses))) (q_X8_row D h g_world g_images g_pad g_hearing g_bowls g_guesses post (va_A (cw_X8_row h g_world g_images g_pad g_hearing g_bowls g_guesses) sz)) 0 0 (va_A (cw_X8_row h g_world g_images g_pad g_hearing g_bowls g_guesses) sz) := by
  refine Met.ofW (cc := cX8_row) (maxL := 4) (ret := (some .int)) (by decide) rfl ?_
  intro p e s m args below meth c s₁ B hml hv
  obtain ⟨rfl, hsz, hP, hK, hD0⟩ := hv
  subst hsz
  have hx := B.exec
  have hb := B.bytes
  have hr := B.returns
  have hz : ∀ w ∈ zB, w.before _ s = true := fun w h => atoms_spec (ws := v_X8_row) B.pre w (List.mem_cons_of_mem _ h)
  have hown : s.vm.findClass RX8 = some m.cls := findClass_of_methodNamed B.named
  have hlocks := B.notSynchronized
  have hF : CallFix p m c cX8_row 4 s (([.ref h, .int p1, .int p2, .int p3] : List Value).toArray) zB RX8 := ⟨hx, hb, hml, hown, hz⟩
  have hD := hD0.self (sz := s.heap.size)
  generalize hAe : va_A (cw_X8_row h g_world g_images g_pad g_hearing g_bowls g_guesses) s.heap.size = A at hD ⊢
  have hA : ∀ q : Nat, s.heap.size ≤ q → A q := fun q h => by rw [← hAe]; exact Or.inr h
  have hS : va_S A s.heap s.heap [] := va_S.rf
  have hP : va_P D vwCl (cw_X8_row h g_world g_images g_pad g_hearing g_bowls g_guesses) s.heap := hP
  have hl := lv_entry ([.ref h, .int p1, .int p2, .int p3]) (n := 4) (Nat.le_of_ble_eq_true rfl)
  rw [lg_entry_eq]
  generalize (lg_sl ([.ref h, .int p1, .int p2, .int p3]) ++ List.replicate (4 - (lg_sl ([.ref h, .int p1, .int p2, .int p3])).length) Slot.unset).toArray = ls at hl ⊢
  have hl : lv_has ls 4 [(0, .ref h), (1, .int p1), (2, .int p2), (3, .int p3)] := hl
  unfold w_X8_row at hw
  refine lv_iload_n hx hb dX8_row_0 rfl (lv_at hl 1 rfl) ?_
  refine lv_iconst (v := (0 : Int32)) hx hb dX8_row_1 (by decide) ?_
  refine lv_bipush (v := (25 : Int32)) hx hb dX8_row_2 (by decide) ?_
  refine z_ri (z_runS (As := [.int p1, .int (0 : Int32), .int (25 : Int32)]) (rest := []) hF (c_X8_within l D cI cC cZ p1 (0 : Int32) (25 : Int32) _ _ hw) (va_cwS 3 hz (z_gS z1_212 z1_213 z1_1 z1_214) rfl rfl rfl hd_X8_within ⟨Nat.le_of_ble_eq_true rfl, Nat.le_of_ble_eq_true rfl⟩) hK hP hD [] rfl rfl rfl hl.1 rfl (Nat.le_of_ble_eq_true rfl) dX8_row_4 ⟨Nat.zero_le _, Nat.zero_le _⟩) hP hD hS hA [] rfl (fun _ => rfl) (fun _ => cw_X8_row h g_world g_images g_pad g_hearing g_bowls g_guesses) (fun _ => rfl) (fun r4 u4 H locs hw hP hD hS => ?_)
  obtain ⟨hn4, hw⟩ := hw
  try dsimp only at hw
  refine lv_if_eq (tgt := 29) hx hb dX8_row_7 (by decide) (fun c7 => ?_) (fun c7 => ?_)
  · have hw := hw.1 c7
    refine lv_bipush (v := (-2 : Int32)) hx hb dX8_row_29 (by decide) ?_
    exact z_iret hx hb hr hlocks () hw hP hS dX8_row_31
  have hw := hw.2 c7
  refine lv_iload_n hx hb dX8_row_10 rfl (lv_at hl 2 rfl) ?_
  refine lv_iconst (v := (0 : Int32)) hx hb dX8_row_11 (by decide) ?_
  refine lv_iload_n hx hb dX8_row_12 rfl (lv_at hl 1 rfl) ?_
  refine z_ri (z_runS (As := [.int p2, .int (0 : Int32), .int p1]) (rest := []) hF (c_X8_within l D cI cC cZ p2 (0 : Int32) p1 _ _ hw) (va_cwS 3 hz (z_gS z1_212 z1_213 z1_1 z1_214) rfl rfl rfl hd_X8_within ⟨Nat.le_of_ble_eq_true rfl, Nat.le_of_ble_eq_true rfl⟩) hK hP hD [] rfl rfl rfl hl.1 rfl (Nat.le_of_ble_eq_true rfl) dX8_row_13 ⟨Nat.zero_le _, Nat.zero_le _⟩) hP hD hS hA [] rfl (fun _ => rfl) (fun _ => cw_X8_row h g_world g_images g_pad g_hearing g_bowls g_guesses) (fun _ => rfl) (fun r13 u13 H locs hw hP hD hS => ?_)
  obtain ⟨hn13, hw⟩ := hw
  try dsimp only at hw
  refine lv_if_eq (tgt := 29) hx hb dX8_row_16 (by decide) (fun c16 => ?_) (fun c16 => ?_)
  · have hw := hw.1 c16
    refine lv_bipush (v := (-2 : Int32)) hx hb dX8_row_29 (by decide) ?_
    exact z_iret hx hb hr hlocks () hw hP hS dX8_row_31
  have hw := hw.2 c16
  refine lv_iload_n hx hb dX8_row_19 rfl (lv_at hl 3 rfl) ?_
  refine lv_iconst (v := (0 : Int32)) hx hb dX8_row_20 (by decide) ?_
  refine lv_ldc (v := (99999 : Int32)) hx hb hown (hz _ z3_16) dX8_row_21 ?_
  refine z_ri (z_runS (As := [.int p3, .int (0 : Int32), .int (99999 : Int32)]) (rest := []) hF (c_X8_within l D cI cC cZ p3 (0 : Int32) (99999 : Int32) _ _ hw) (va_cwS 3 hz (z_gS z1_212 z1_213 z1_1 z1_214) rfl rfl rfl hd_X8_within ⟨Nat.le_of_ble_eq_true rfl, Nat.le_of_ble_eq_true rfl⟩) hK hP hD [] rfl rfl rfl hl.1 rfl (Nat.le_of_ble_eq_true rfl) dX8_row_23 ⟨Nat.zero_le _, Nat.zero_le _⟩) hP hD hS hA [] rfl (fun _ => rfl) (fun _ => cw_X8_row h g_world g_images g_pad g_hearing g_bowls g_guesses) (fun _ => rfl) (fun r23 u23 H locs hw hP hD hS => ?_)
  obtain ⟨hn23, hw⟩ := hw
  try dsimp only at hw
  refine lv_if_ne (tgt := 32) hx hb dX8_row_26 (by decide) (fun c26 => ?_) (fun c26 => ?_)
  · have hw := hw.2 c26
    refine lv_iload_n hx hb dX8_row_32 rfl (lv_at hl 3 rfl) ?_
    refine lv_iload_n hx hb dX8_row_33 rfl (lv_at hl 1 rfl) ?_
    refine lv_iload_n hx hb dX8_row_34 rfl (lv_at hl 2 rfl) ?_
    refine z_ri (z_runS (As := [.int p1, .int p2]) (rest := [.int p3]) hF (c_X8_countRows l D cI cC cZ p1 p2 _ _ hw) (va_cwS 2 hz (z_gS z3_5 z3_6 z1_1 z3_7) rfl rfl rfl hd_X8_countRows ⟨Nat.le_of_ble_eq_true rfl, Nat.le_of_ble_eq_true rfl⟩) hK hP hD [] rfl rfl rfl hl.1 rfl (Nat.le_of_ble_eq_true rfl) dX8_row_35 ⟨Nat.zero_le _, Nat.zero_le _⟩) hP hD hS hA [] rfl (fun _ => rfl) (fun _ => cw_X8_row h g_world g_images g_pad g_hearing g_bowls g_guesses) (fun _ => rfl) (fun r35 u35 H locs hw hP hD hS => ?_)
    try dsimp only at hw
    refine lv_icmp_ge (tgt := 50) hx hb dX8_row_38 (by decide) (fun c38 => ?_) (fun c38 => ?_)
    · have hw := hw.1 c38
      refine lv_bipush (v := (-6 : Int32)) hx hb dX8_row_50 (by decide) ?_
      exact z_iret hx hb hr hlocks () hw hP hS dX8_row_52
    have hw := hw.2 c38
    refine lv_iload_n hx hb dX8_row_41 rfl (lv_at hl 1 rfl) ?_
    refine lv_iload_n hx hb dX8_row_42 rfl (lv_at hl 2 rfl) ?_
    refine lv_iload_n hx hb dX8_row_43 rfl (lv_at hl 3 rfl) ?_
    refine z_ri (z_runS (As := [.int p1, .int p2, .int p3]) (rest := []) hF (c_X8_nthRow l D cI cC cZ p1 p2 p3 _ _ hw) (va_cwS 3 hz (z_gS z3_17 z3_18 z1_1 z3_19) rfl rfl rfl hd_X8_nthRow ⟨Nat.le_of_ble_eq_true rfl, Nat.le_of_ble_eq_true rfl⟩) hK hP hD [] rfl rfl rfl hl.1 rfl (Nat.le_of_ble_eq_true rfl) dX8_row_44 ⟨Nat.zero_le _, Nat.zero_le _⟩) hP hD hS hA [] rfl (fun _ => rfl) (fun _ => cw_X8_row h g_world g_images g_pad g_hearing g_bowls g_guesses) (fun _ => rfl) (fun r44 u44 H locs hw hP hD hS => ?_)
    try dsimp only at hw
    refine lv_goto (tgt := 52) hx hb dX8_row_47 (by decide) ?_
    exact z_iret hx hb hr hlocks () hw hP hS dX8_row_52
  have hw := hw.1 c26
  refine lv_bipush (v := (-2 : Int32)) hx hb dX8_row_29 (by decide) ?_
  exact z_iret hx hb hr hlocks () hw hP hS dX8_row_31
abbrev cw_X5_keep (cI : ClassId) (h h_saucers h_losses : Nat) (f_saucers : Nat → Int32) (f_losses : Nat → Int32) (f_count : Int32) : va_W := [(h, .inr (5, [.ref h_saucers, .ref h_losses, .int f_count])), (h_saucers, .inl (cI, 8, .inl f_saucers)), (h_losses, .inl (cI, 8, .inl f_losses))]
abbrev q_X5_keep (D : va_G) (cI : ClassId) (h h_saucers h_losses : Nat) (post : (Nat → Int32) → (Nat → Int32) → Int32 → Prop) (A : Nat → Prop) : Array Value → State → Outcome → State → Prop := va_Qv (S := (Nat → Int32) × (Nat → Int32) × Int32) (fun u => post u.1 u.2.1 u.2.2) (fun u t => va_P D vwCl (cw_X5_keep cI h h_saucers h_losses u.1 u.2.1 u.2.2) t.heap) A
abbrev v_X5_keep : List Cond := .code yX5_keep cX5_keep 3 none :: zB
theorem hd_X5_keep : yX5_keep.cls = RX5 ∧ yX5_keep.cls ≠ "java/lang/invoke/MethodHandle" ∧ yX5_keep.cls ≠ "java/lang/invoke/VarHandle" ∧ (parseMethodDescriptor yX5_keep.desc).map (fun d => d.parameters.length) = some 2 := by decide +kernel
set_option maxHeartbeats 4000000 in
set_option maxRecDepth 100000 in
theorem c_X5_keep (l : Launch) (D : va_G) (cI cC cZ : ClassId) (h h_saucers h_losses : Nat) (f_saucers : Nat → Int32) (f_losses : Nat → Int32) (f_count : Int32) (p1 : Int32) (p2 : Int32) (sz : Nat) (post : (Nat → Int32) → (Nat → Int32) → Int32 → Prop) (hw : w_X5_keep post f_saucers f_losses f_count p1 p2) : Met l yX5_keep v_X5_keep ({ frames := 1, cells := 0, slots := 0, locals := 22 } : Room) (va_Pc [.ref h, .int p1, .int p2] (zPre D (zT cI cC cZ) sz (cw_X5_keep cI h h_saucers h_losses f_saucers f_losses f_count))) (q_X5_keep D cI h h_saucers h_losses post (va_A (cw_X5_keep cI h h_saucers h_losses f_saucers f_losses f_count) sz)) 0 0 (va_A (cw_X5_keep cI h h_saucers h_losses f_saucers f_losses f_count) sz) := by
  refine Met.ofW (cc := cX5_keep) (maxL := 3) (ret := none) (by decide) rfl ?_
  intro p e s m args below meth c s₁ B hml hv
  obtain ⟨rfl, hsz, hP, hK, hD0⟩ := hv
  subst hsz
  have hx := B.exec
  have hb := B.bytes
  have hr := B.returns
  have hz : ∀ w ∈ zB, w.before _ s = true := fun w h => atoms_spec (ws := v_X5_keep) B.pre w (List.mem_cons_of_mem _ h)
  have hown : s.vm.findClass RX5 = some m.cls := findClass_of_methodNamed B.named
  have hlocks := B.notSynchronized
  have hF : CallFix p m c cX5_keep 3 s (([.ref h, .int p1, .int p2] : List Value).toArray) zB RX5 := ⟨hx, hb, hml, hown, hz⟩
  have hD := hD0.self (sz := s.heap.size)
  generalize hAe : va_A (cw_X5_keep cI h h_saucers h_losses f_saucers f_losses f_count) s.heap.size = A at hD ⊢
  have hA : ∀ q : Nat, s.heap.size ≤ q → A q := fun q h => by rw [← hAe]; exact Or.inr h
  have hS : va_S A s.heap s.heap [] := va_S.rf
  have hP : va_P D vwCl (cw_X5_keep cI h h_saucers h_losses f_saucers f_losses f_count) s.heap := hP
  have hl := lv_entry ([.ref h, .int p1, .int p2]) (n := 3) (Nat.le_of_ble_eq_true rfl)
  rw [lg_entry_eq]
  generalize (lg_sl ([.ref h, .int p1, .int p2]) ++ List.replicate (3 - (lg_sl ([.ref h, .int p1, .int p2])).length) Slot.unset).toArray = ls at hl ⊢
  have hl : lv_has ls 3 [(0, .ref h), (1, .int p1), (2, .int p2)] := hl
  unfold w_X5_keep at hw
  refine lv_aload_n hx hb dX5_keep_0 rfl (lv_at hl 0 rfl) ?_
  refine va_get (D := D) (ci := 5) (v := .int f_count) (C := RX5) (T := TX5) (N := 3) hx hb hz hX_X5 hown hK.1 hP 0 rfl rfl 2 (by decide) (hz _ z1_88) (fun _ h9 => h9) rfl dX5_keep_1 ?_
  refine lv_iconst (v := (0 : Int32)) hx hb dX5_keep_4 (by decide) ?_
  refine lv_bipush (v := (7 : Int32)) hx hb dX5_keep_5 (by decide) ?_
  refine z_ri (z_runSN (As := [.int f_count, .int (0 : Int32), .int (7 : Int32)]) (rest := []) hF (c_X8_within l D cI cC cZ f_count (0 : Int32) (7 : Int32) _ _ hw) ⟨va_cnB 3 hz (z_gN z1_214) rfl rfl rfl (hK.2.1 _ (List.mem_of_getElem? (i := 25) rfl)) (hz _ z1_1) hd_X8_within ⟨Nat.le_of_ble_eq_true rfl, Nat.le_of_ble_eq_true rfl⟩, (hz _ z1_213), trivial⟩ hK hP hD [] rfl rfl rfl hl.1 rfl (Nat.le_of_ble_eq_true rfl) dX5_keep_7 ⟨Nat.zero_le _, Nat.zero_le _⟩) hP hD hS hA [] rfl (fun _ => rfl) (fun _ => cw_X5_keep cI h h_saucers h_losses f_saucers f_losses f_count) (fun _ => rfl) (fun r7 u7 H locs hw hP hD hS => ?_)
  obtain ⟨hn7, hw⟩ := hw
  try dsimp only at hw
  refine lv_if_ne (tgt := 14) hx hb dX5_keep_10 (by decide) (fun c10 => ?_) (fun c10 => ?_)
  · have hw := hw.2 c10
    refine lv_aload_n hx hb dX5_keep_14 rfl (lv_at hl 0 rfl) ?_
    refine va_get (D := D) (ci := 5) (v := .ref h_saucers) (C := RX5) (T := TX5) (N := 3) hx hb hz hX_X5 hown hK.1 hP 0 rfl rfl 0 (by decide) (hz _ z1_86) (fun _ h9 => h9) rfl dX5_keep_15 ?_
    refine lv_aload_n hx hb dX5_keep_18 rfl (lv_at hl 0 rfl) ?_
    refine va_get (D := D) (ci := 5) (v := .int f_count) (C := RX5) (T := TX5) (N := 3) hx hb hz hX_X5 hown hK.1 hP 0 rfl rfl 2 (by decide) (hz _ z1_88) (fun _ h9 => h9) rfl dX5_keep_19 ?_
    refine lv_iload_n hx hb dX5_keep_22 rfl (lv_at hl 1 rfl) ?_
    obtain ⟨hi23, hw⟩ := hw
    refine va_iast hx hb hK.1 hP hD hS 1 0 rfl rfl hi23 dX5_keep_23 (fun H locs hP hD hS => ?_)
    have hP : va_P D vwCl (cw_X5_keep cI h h_saucers h_losses (upd f_saucers f_count.toNatClampNeg p1) f_losses f_count) H := hP
    have hD : va_D A (cw_X5_keep cI h h_saucers h_losses (upd f_saucers f_count.toNatClampNeg p1) f_losses f_count) := hD
    refine lv_aload_n hx hb dX5_keep_24 rfl (lv_at hl 0 rfl) ?_
    refine va_get (D := D) (ci := 5) (v := .ref h_losses) (C := RX5) (T := TX5) (N := 3) hx hb hz hX_X5 hown hK.1 hP 0 rfl rfl 1 (by decide) (hz _ z1_87) (fun _ h9 => h9) rfl dX5_keep_25 ?_
    refine lv_aload_n hx hb dX5_keep_28 rfl (lv_at hl 0 rfl) ?_
    refine va_get (D := D) (ci := 5) (v := .int f_count) (C := RX5) (T := TX5) (N := 3) hx hb hz hX_X5 hown hK.1 hP 0 rfl rfl 2 (by decide) (hz _ z1_88) (fun _ h9 => h9) rfl dX5_keep_29 ?_
    refine lv_iload_n hx hb dX5_keep_32 rfl (lv_at hl 2 rfl) ?_
    obtain ⟨hi33, hw⟩ := hw
    refine va_iast hx hb hK.1 hP hD hS 2 0 rfl rfl hi33 dX5_keep_33 (fun H locs hP hD hS => ?_)
    have hP : va_P D vwCl (cw_X5_keep cI h h_saucers h_losses (upd f_saucers f_count.toNatClampNeg p1) (upd f_losses f_count.toNatClampNeg p2) f_count) H := hP
    have hD : va_D A (cw_X5_keep cI h h_saucers h_losses (upd f_saucers f_count.toNatClampNeg p1) (upd f_losses f_count.toNatClampNeg p2) f_count) := hD
    refine lv_aload_n hx hb dX5_keep_34 rfl (lv_at hl 0 rfl) ?_
    refine lv_dup hx hb dX5_keep_35 rfl ?_
    refine va_get (D := D) (ci := 5) (v := .int f_count) (C := RX5) (T := TX5) (N := 3) hx hb hz hX_X5 hown hK.1 hP 0 rfl rfl 2 (by decide) (hz _ z1_88) (fun _ h9 => h9) rfl dX5_keep_36 ?_
    refine lv_iconst (v := (1 : Int32)) hx hb dX5_keep_39 (by decide) ?_
    refine lv_iadd hx hb dX5_keep_40 ?_
    refine va_put (D := D) (ci := 5) (v := .int (f_count + (1 : Int32))) (ty := .int) (C := RX5) (T := TX5) (N := 3) hx hb hz hX_X5 tyX5 tyX5_ok nmX5 hown hK.1 hP hD hS 0 rfl rfl 2 (by decide) (hz _ z1_88) (fun _ h9 => h9) rfl (tyX5_ok 2 (by decide)) rfl rfl (Nat.le_of_ble_eq_true rfl) dX5_keep_41 (fun H locs hP hD hS => ?_)
    have hP : va_P D vwCl (cw_X5_keep cI h h_saucers h_losses (upd f_saucers f_count.toNatClampNeg p1) (upd f_losses f_count.toNatClampNeg p2) (f_count + (1 : Int32))) H := hP
    have hD : va_D A (cw_X5_keep cI h h_saucers h_losses (upd f_saucers f_count.toNatClampNeg p1) (upd f_losses f_count.toNatClampNeg p2) (f_count + (1 : Int32))) := hD
    exact z_vret hx hb hr hlocks ((upd f_saucers f_count.toNatClampNeg p1), (upd f_losses f_count.toNatClampNeg p2), (f_count + (1 : Int32))) hw hP hS dX5_keep_44
  have hw := hw.1 c10
  exact z_vret hx hb hr hlocks (f_saucers, f_losses, f_count) hw hP hS dX5_keep_13
abbrev cw_X8_seen (cI : ClassId) (h h_world h_world_sights h_world_sights_saucers h_world_sights_losses : Nat) (g_images g_pad g_hearing g_bowls g_guesses g_world_court g_world_town : Value) (f_world_sights_saucers : Nat → Int32) (f_world_sights_losses : Nat → Int32) (f_world_sights_count : Int32) : va_W := [(h, .inr (8, [.ref h_world, g_images, g_pad, g_hearing, g_bowls, g_guesses])), (h_world, .inr (7, [g_world_court, g_world_town, .ref h_world_sights])), (h_world_sights, .inr (5, [.ref h_world_sights_saucers, .ref h_world_sights_losses, .int f_world_sights_count])), (h_world_sights_saucers, .inl (cI, 8, .inl f_world_sights_saucers)), (h_world_sights_losses, .inl (cI, 8, .inl f_world_sights_losses))]
abbrev q_X8_seen (D : va_G) (cI : ClassId) (h h_world h_world_sights h_world_sights_saucers h_world_sights_losses : Nat) (g_images g_pad g_hearing g_bowls g_guesses g_world_court g_world_town : Value) (post : Int32 → (Nat → Int32) → (Nat → Int32) → Int32 → Prop) (A : Nat → Prop) : Array Value → State → Outcome → State → Prop := va_Qi (S := (Nat → Int32) × (Nat → Int32) × Int32) (fun r u => post r u.1 u.2.1 u.2.2) (fun u t => va_P D vwCl (cw_X8_seen cI h h_world h_world_sights h_world_sights_saucers h_world_sights_losses g_images g_pad g_hearing g_bowls g_guesses g_world_court g_world_town u.1 u.2.1 u.2.2) t.heap) A
abbrev v_X8_seen : List Cond := .code yX8_seen cX8_seen 4 (some .int) :: zB
theorem hd_X8_seen : yX8_seen.cls = RX8 ∧ yX8_seen.cls ≠ "java/lang/invoke/MethodHandle" ∧ yX8_seen.cls ≠ "java/lang/invoke/VarHandle" ∧ (parseMethodDescriptor yX8_seen.desc).map (fun d => d.parameters.length) = some 3 := by decide +kernel
set_option maxHeartbeats 4000000 in
set_option maxRecDepth 100000 in
theorem c_X8_seen (l : Launch) (D : va_G) (cI cC cZ : ClassId) (h h_world h_world_sights h_world_sights_saucers h_world_sights_losses : Nat) (g_images g_pad g_hearing g_bowls g_guesses g_world_court g_world_town : Value) (f_world_sights_saucers : Nat → Int32) (f_world_sights_losses : Nat → Int32) (f_world_sights_count : Int32) (p1 : Int32) (p2 : Int32) (p3 : Int32) (sz : Nat) (post : Int32 → (Nat → Int32) → (Nat → Int32) → Int32 → Prop) (hw : w_X8_seen post f_world_sights_saucers f_world_sights_losses f_world_sights_count p1 p2 p3) : Met l yX8_seen v_X8_seen ({ frames := 2, cells := 0, slots := 0, locals := 44 } : Room) (va_Pc [.ref h, .int p1, .int p2, .int p3] (zPre D (zT cI cC cZ) sz (cw_X8_seen cI h h_world h_world_sights h_world_sights_saucers h_world_sights_losses g_images g_pad g_hearing g_bowls g_guesses g_world_court g_world_town f_world_sights_saucers f_world_sights_losses f_world_sights_count))) (q_X8_seen D cI h h_world h_world_sights h_world_sights_saucers h_world_sights_losses g_images g_pad g_hearing g_bowls g_guesses g_world_court g_world_town post (va_A (cw_X8_seen cI h h_world h_world_sights h_world_sights_saucers h_world_sights_losses g_images g_pad g_hearing g_bowls g_guesses g_world_court g_world_town f_world_sights_saucers f_world_sights_losses f_world_sights_count) sz)) 0 0 (va_A (cw_X8_seen cI h h_world h_world_sights h_world_sights_saucers h_world_sights_losses g_images g_pad g_hearing g_bowls g_guesses g_world_court g_world_town f_world_sights_saucers f_world_sights_losses f_world_sights_count) sz) := by
  refine Met.ofW (cc := cX8_seen) (maxL := 4) (ret := (some .int)) (by decide) rfl ?_
  intro p e s m args below meth c s₁ B hml hv
  obtain ⟨rfl, hsz, hP, hK, hD0⟩ := hv
  subst hsz
  have hx := B.exec
  have hb := B.bytes
  have hr := B.returns
  have hz : ∀ w ∈ zB, w.before _ s = true := fun w h => atoms_spec (ws := v_X8_seen) B.pre w (List.mem_cons_of_mem _ h)
  have hown : s.vm.findClass RX8 = some m.cls := findClass_of_methodNamed B.named
  have hlocks := B.notSynchronized
  have hF : CallFix p m c cX8_seen 4 s (([.ref h, .int p1, .int p2, .int p3] : List Value).toArray) zB RX8 := ⟨hx, hb, hml, hown, hz⟩
  have hD := hD0.self (sz := s.heap.size)
  generalize hAe : va_A (cw_X8_seen cI h h_world h_world_sights h_world_sights_saucers h_world_sights_losses g_images g_pad g_hearing g_bowls g_guesses g_world_court g_world_town f_world_sights_saucers f_world_sights_losses f_world_sights_count) s.heap.size = A at hD ⊢
  have hA : ∀ q : Nat, s.heap.size ≤ q → A q := fun q h => by rw [← hAe]; exact Or.inr h
  have hS : va_S A s.heap s.heap [] := va_S.rf
  have hP : va_P D vwCl (cw_X8_seen cI h h_world h_world_sights h_world_sights_saucers h_world_sights_losses g_images g_pad g_hearing g_bowls g_guesses g_world_court g_world_town f_world_sights_saucers f_world_sights_losses f_world_sights_count) s.heap := hP
  have hl := lv_entry ([.ref h, .int p1, .int p2, .int p3]) (n := 4) (Nat.le_of_ble_eq_true rfl)
  rw [lg_entry_eq]
  generalize (lg_sl ([.ref h, .int p1, .int p2, .int p3]) ++ List.replicate (4 - (lg_sl ([.ref h, .int p1, .int p2, .int p3])).length) Slot.unset).toArray = ls at hl ⊢
  have hl : lv_has ls 4 [(0, .ref h), (1, .int p1), (2, .int p2), (3, .int p3)] := hl
  unfold w_X8_seen at hw
  refine lv_iload_n hx hb dX8_seen_0 rfl (lv_at hl 1 rfl) ?_
  refine lv_iconst (v := (0 : Int32)) hx hb dX8_seen_1 (by decide) ?_
  refine lv_iconst (v := (3 : Int32)) hx hb dX8_seen_2 (by decide) ?_
  refine z_ri (z_runS (As := [.int p1, .int (0 : Int32), .int (3 : Int32)]) (rest := []) hF (c_X8_within l D cI cC cZ p1 (0 : Int32) (3 : Int32) _ _ hw) (va_cwS 3 hz (z_gS z1_212 z1_213 z1_1 z1_214) rfl rfl rfl hd_X8_within ⟨Nat.le_of_ble_eq_true rfl, Nat.le_of_ble_eq_true rfl⟩) hK hP hD [] rfl rfl rfl hl.1 rfl (Nat.le_of_ble_eq_true rfl) dX8_seen_3 ⟨Nat.zero_le _, Nat.zero_le _⟩) hP hD hS hA [] rfl (fun _ => rfl) (fun _ => cw_X8_seen cI h h_world h_world_sights h_world_sights_saucers h_world_sights_losses g_images g_pad g_hearing g_bowls g_guesses g_world_court g_world_town f_world_sights_saucers f_world_sights_losses f_world_sights_count) (fun _ => rfl) (fun r3 u3 H locs hw hP hD hS => ?_)
  obtain ⟨hn3, hw⟩ := hw
  try dsimp only at hw
  refine lv_if_eq (tgt := 19) hx hb dX8_seen_6 (by decide) (fun c6 => ?_) (fun c6 => ?_)
  · have hw := hw.1 c6
    refine lv_bipush (v := (-2 : Int32)) hx hb dX8_seen_19 (by decide) ?_
    exact z_iret hx hb hr hlocks (f_world_sights_saucers, f_world_sights_losses, f_world_sights_count) hw hP hS dX8_seen_21
  have hw := hw.2 c6
  refine lv_iload_n hx hb dX8_seen_9 rfl (lv_at hl 3 rfl) ?_
  refine lv_iconst (v := (0 : Int32)) hx hb dX8_seen_10 (by decide) ?_
  refine lv_bipush (v := (99 : Int32)) hx hb dX8_seen_11 (by decide) ?_
  refine z_ri (z_runS (As := [.int p3, .int (0 : Int32), .int (99 : Int32)]) (rest := []) hF (c_X8_within l D cI cC cZ p3 (0 : Int32) (99 : Int32) _ _ hw) (va_cwS 3 hz (z_gS z1_212 z1_213 z1_1 z1_214) rfl rfl rfl hd_X8_within ⟨Nat.le_of_ble_eq_true rfl, Nat.le_of_ble_eq_true rfl⟩) hK hP hD [] rfl rfl rfl hl.1 rfl (Nat.le_of_ble_eq_true rfl) dX8_seen_13 ⟨Nat.zero_le _, Nat.zero_le _⟩) hP hD hS hA [] rfl (fun _ => rfl) (fun _ => cw_X8_seen cI h h_world h_world_sights h_world_sights_saucers h_world_sights_losses g_images g_pad g_hearing g_bowls g_guesses g_world_court g_world_town f_world_sights_saucers f_world_sights_losses f_world_sights_count) (fun _ => rfl) (fun r13 u13 H locs hw hP hD hS => ?_)
  obtain ⟨hn13, hw⟩ := hw
  try dsimp only at hw
  refine lv_if_ne (tgt := 22) hx hb dX8_seen_16 (by decide) (fun c16 => ?_) (fun c16 => ?_)
  · have hw := hw.2 c16
    refine lv_aload_n hx hb dX8_seen_22 rfl (lv_at hl 0 rfl) ?_
    refine va_get (D := D) (ci := 8) (v := .ref h_world) (C := RX8) (T := TX8) (N := 6) hx hb hz hX_X8 hown hK.1 hP 0 rfl rfl 0 (by decide) (hz _ z1_183) (fun _ h9 => h9) rfl dX8_seen_23 ?_
    refine va_getN (D := D) (ci := 7) (v := .ref h_world_sights) (C := RX7) (T := TX7) (N := 3) hx hb hz hX_X7 hown hK.1 hP 1 rfl rfl 2 (by decide) (va_Nw.use rfl (hK.2.1 _ (List.mem_of_getElem? (i := 9) rfl))) (fun _ h9 => h9) rfl dX8_seen_26 ?_
    refine va_getN (D := D) (ci := 5) (v := .int f_world_sights_count) (C := RX5) (T := TX5) (N := 3) hx hb hz hX_X5 hown hK.1 hP 2 rfl rfl 2 (by decide) (va_Nw.use rfl (hK.2.1 _ (List.mem_of_getElem? (i := 6) rfl))) (fun _ h9 => h9) rfl dX8_seen_29 ?_
    refine lv_bipush (v := (8 : Int32)) hx hb dX8_seen_32 (by decide) ?_
    refine lv_icmp_lt (tgt := 40) hx hb dX8_seen_34 (by decide) (fun c34 => ?_) (fun c34 => ?_)
    · have hw := hw.1 c34
      refine lv_aload_n hx hb dX8_seen_40 rfl (lv_at hl 0 rfl) ?_
      refine va_get (D := D) (ci := 8) (v := .ref h_world) (C := RX8) (T := TX8) (N := 6) hx hb hz hX_X8 hown hK.1 hP 0 rfl rfl 0 (by decide) (hz _ z1_183) (fun _ h9 => h9) rfl dX8_seen_41 ?_
      refine va_getN (D := D) (ci := 7) (v := .ref h_world_sights) (C := RX7) (T := TX7) (N := 3) hx hb hz hX_X7 hown hK.1 hP 1 rfl rfl 2 (by decide) (va_Nw.use rfl (hK.2.1 _ (List.mem_of_getElem? (i := 9) rfl))) (fun _ h9 => h9) rfl dX8_seen_44 ?_
      refine lv_bipush (v := (10 : Int32)) hx hb dX8_seen_47 (by decide) ?_
      refine lv_iload_n hx hb dX8_seen_49 rfl (lv_at hl 1 rfl) ?_
      refine lv_imul hx hb dX8_seen_50 ?_
      refine lv_iload_n hx hb dX8_seen_51 rfl (lv_at hl 2 rfl) ?_
      refine z_ri (z_runS (As := [.int p2]) (rest := [.int ((10 : Int32) * p1), .ref h_world_sights]) hF (c_X8_asNumber l D cI cC cZ p2 _ _ hw) (va_cwS 1 hz (z_gS z2_164 z2_165 z1_1 z2_166) rfl rfl rfl hd_X8_asNumber ⟨Nat.le_of_ble_eq_true rfl, Nat.le_of_ble_eq_true rfl⟩) hK hP hD [] rfl rfl rfl hl.1 rfl (Nat.le_of_ble_eq_true rfl) dX8_seen_52 ⟨Nat.zero_le _, Nat.zero_le _⟩) hP hD hS hA [] rfl (fun _ => rfl) (fun _ => cw_X8_seen cI h h_world h_world_sights h_world_sights_saucers h_world_sights_losses g_images g_pad g_hearing g_bowls g_guesses g_world_court g_world_town f_world_sights_saucers f_world_sights_losses f_world_sights_count) (fun _ => rfl) (fun r52 u52 H locs hw hP hD hS => ?_)
      try dsimp only at hw
      refine lv_iadd hx hb dX8_seen_55 ?_
      refine lv_iload_n hx hb dX8_seen_56 rfl (lv_at hl 3 rfl) ?_
      refine z_rv (z_runV (As := [.int (((10 : Int32) * p1) + r52), .int p3]) (rest := []) hF (c_X5_keep l D cI cC cZ h_world_sights h_world_sights_saucers h_world_sights_losses f_world_sights_saucers f_world_sights_losses f_world_sights_count (((10 : Int32) * p1) + r52) p3 _ _ hw) (cwV 2 hz (z_gV z3_24 z3_25 z3_26 z1_5 z3_27) rfl rfl rfl hd_X5_keep ⟨Nat.le_of_ble_eq_true rfl, Nat.le_of_ble_eq_true rfl⟩) hK hP hD [2, 3, 4] rfl rfl 2 5 rfl rfl rfl rfl hl.1 rfl (Nat.le_of_ble_eq_true rfl) dX8_seen_57 ⟨Nat.zero_le _, Nat.zero_le _⟩) hP hD hS hA [2, 3, 4] rfl (fun _ => rfl) (fun u => cw_X8_seen cI h h_world h_world_sights h_world_sights_saucers h_world_sights_losses g_images g_pad g_hearing g_bowls g_guesses g_world_court g_world_town u.1 u.2.1 u.2.2) (fun _ => rfl) (fun u57 H locs hw hP hD hS => ?_)
      obtain ⟨u57_0, u57_1, u57_2⟩ := u57
      try dsimp only at hw
      have hP : va_P D vwCl (cw_X8_seen cI h h_world h_world_sights h_world_sights_saucers h_world_sights_losses g_images g_pad g_hearing g_bowls g_guesses g_world_court g_world_town u57_0 u57_1 u57_2) H := hP
      have hD : va_D A (cw_X8_seen cI h h_world h_world_sights h_world_sights_saucers h_world_sights_losses g_images g_pad g_hearing g_bowls g_guesses g_world_court g_world_town u57_0 u57_1 u57_2) := hD
      refine lv_aload_n hx hb dX8_seen_60 rfl (lv_at hl 0 rfl) ?_
      refine va_get (D := D) (ci := 8) (v := .ref h_world) (C := RX8) (T := TX8) (N := 6) hx hb hz hX_X8 hown hK.1 hP 0 rfl rfl 0 (by decide) (hz _ z1_183) (fun _ h9 => h9) rfl dX8_seen_61 ?_
      refine va_getN (D := D) (ci := 7) (v := .ref h_world_sights) (C := RX7) (T := TX7) (N := 3) hx hb hz hX_X7 hown hK.1 hP 1 rfl rfl 2 (by decide) (va_Nw.use rfl (hK.2.1 _ (List.mem_of_getElem? (i := 9) rfl))) (fun _ h9 => h9) rfl dX8_seen_64 ?_
      refine va_getN (D := D) (ci := 5) (v := .int u57_2) (C := RX5) (T := TX5) (N := 3) hx hb hz hX_X5 hown hK.1 hP 2 rfl rfl 2 (by decide) (va_Nw.use rfl (hK.2.1 _ (List.mem_of_getElem? (i := 6) rfl))) (fun _ h9 => h9) rfl dX8_seen_67 ?_
      exact z_iret hx hb hr hlocks (u57_0, u57_1, u57_2) hw hP hS dX8_seen_70
    have hw := hw.2 c34
    refine lv_bipush (v := (-4 : Int32)) hx hb dX8_seen_37 (by decide) ?_
    exact z_iret hx hb hr hlocks (f_world_sights_saucers, f_world_sights_losses, f_world_sights_count) hw hP hS dX8_seen_39
  have hw := hw.1 c16
  refine lv_bipush (v := (-2 : Int32)) hx hb dX8_seen_19 (by decide) ?_
  exact z_iret hx hb hr hlocks (f_world_sights_saucers, f_world_sights_losses, f_world_sights_count) hw hP hS dX8_seen_21
abbrev cw_X8_forget (h h_world h_world_sights : Nat) (g_images g_pad g_hearing g_bowls g_guesses g_world_court g_world_town g_world_sights_saucers g_world_sights_losses : Value) (f_world_sights_count : Int32) : va_W := [(h, .inr (8, [.ref h_world, g_images, g_pad, g_hearing, g_bowls, g_guesses])), (h_world, .inr (7, [g_world_court, g_world_town, .ref h_world_sights])), (h_world_sights, .inr (5, [g_world_sights_saucers, g_world_sights_losses, .int f_world_sights_count]))]
abbrev q_X8_forget (D : va_G) (h h_world h_world_sights : Nat) (g_images g_pad g_hearing g_bowls g_guesses g_world_court g_world_town g_world_sights_saucers g_world_sights_losses : Value) (post : Int32 → Int32 → Prop) (A : Nat → Prop) : Array Value → State → Outcome → State → Prop := va_Qi (S := Int32) (fun r u => post r u) (fun u t => va_P D vwCl (cw_X8_forget h h_world h_world_sights g_images g_pad g_hearing g_bowls g_guesses g_world_court g_world_town g_world_sights_saucers g_world_sights_losses u) t.heap) A
abbrev v_X8_forget : List Cond := .code yX8_forget cX8_forget 2 (some .int) :: zB
theorem hd_X8_forget : yX8_forget.cls = RX8 ∧ yX8_forget.cls ≠ "java/lang/invoke/MethodHandle" ∧ yX8_forget.cls ≠ "java/lang/invoke/VarHandle" ∧ (parseMethodDescriptor yX8_forget.desc).map (fun d => d.parameters.length) = some 0 := by decide +kernel
set_option maxHeartbeats 4000000 in
set_option maxRecDepth 100000 in
theorem c_X8_forget (l : Launch) (D : va_G) (cI cC cZ : ClassId) (h h_world h_world_sights : Nat) (g_images g_pad g_hearing g_bowls g_guesses g_world_court g_world_town g_world_sights_saucers g_world_sights_losses : Value) (f_world_sights_count : Int32) (sz : Nat) (post : Int32 → Int32 → Prop) (hw : w_X8_forget post f_world_sights_count) : Met l yX8_forget v_X8_forget ({ frames := 0, cells := 0, slots := 0, locals := 0 } : Room) (va_Pc [.ref h] (zPre D (zT cI cC cZ) sz (cw_X8_forget h h_world h_world_sights g_images g_pad g_hearing g_bowls g_guesses g_world_court g_world_town g_world_sights_saucers g_world_sights_losses f_world_sights_count))) (q_X8_forget D h h_world h_world_sights g_images g_pad g_hearing g_bowls g_guesses g_world_court g_world_town g_world_sights_saucers g_world_sights_losses post (va_A (cw_X8_forget h h_world h_world_sights g_images g_pad g_hearing g_bowls g_guesses g_world_court g_world_town g_world_sights_saucers g_world_sights_losses f_world_sights_count) sz)) 0 0 (va_A (cw_X8_forget h h_world h_world_sights g_images g_pad g_hearing g_bowls g_guesses g_world_court g_world_town g_world_sights_saucers g_world_sights_losses f_world_sights_count) sz) := by
  refine Met.ofW (cc := cX8_forget) (maxL := 2) (ret := (some .int)) (by decide) rfl ?_
  intro p e s m args below meth c s₁ B hml hv
  obtain ⟨rfl, hsz, hP, hK, hD0⟩ := hv
  subst hsz
  have hx := B.exec
  have hb := B.bytes
  have hr := B.returns
  have hz : ∀ w ∈ zB, w.before _ s = true := fun w h => atoms_spec (ws := v_X8_forget) B.pre w (List.mem_cons_of_mem _ h)
  have hown : s.vm.findClass RX8 = some m.cls := findClass_of_methodNamed B.named
  have hlocks := B.notSynchronized
  have hF : CallFix p m c cX8_forget 2 s (([.ref h] : List Value).toArray) zB RX8 := ⟨hx, hb, hml, hown, hz⟩
  have hD := hD0.self (sz := s.heap.size)
  generalize hAe : va_A (cw_X8_forget h h_world h_world_sights g_images g_pad g_hearing g_bowls g_guesses g_world_court g_world_town g_world_sights_saucers g_world_sights_losses f_world_sights_count) s.heap.size = A at hD ⊢
  have hA : ∀ q : Nat, s.heap.size ≤ q → A q := fun q h => by rw [← hAe]; exact Or.inr h
  have hS : va_S A s.heap s.heap [] := va_S.rf
  have hP : va_P D vwCl (cw_X8_forget h h_world h_world_sights g_images g_pad g_hearing g_bowls g_guesses g_world_court g_world_town g_world_sights_saucers g_world_sights_losses f_world_sights_count) s.heap := hP
  have hl := lv_entry ([.ref h]) (n := 2) (Nat.le_of_ble_eq_true rfl)
  rw [lg_entry_eq]
  generalize (lg_sl ([.ref h]) ++ List.replicate (2 - (lg_sl ([.ref h])).length) Slot.unset).toArray = ls at hl ⊢
  have hl : lv_has ls 2 [(0, .ref h)] := hl
  unfold w_X8_forget at hw
  refine lv_aload_n hx hb dX8_forget_0 rfl (lv_at hl 0 rfl) ?_
  refine va_get (D := D) (ci := 8) (v := .ref h_world) (C := RX8) (T := TX8) (N := 6) hx hb hz hX_X8 hown hK.1 hP 0 rfl rfl 0 (by decide) (hz _ z1_183) (fun _ h9 => h9) rfl dX8_forget_1 ?_
  refine va_getN (D := D) (ci := 7) (v := .ref h_world_sights) (C := RX7) (T := TX7) (N := 3) hx hb hz hX_X7 hown hK.1 hP 1 rfl rfl 2 (by decide) (va_Nw.use rfl (hK.2.1 _ (List.mem_of_getElem? (i := 9) rfl))) (fun _ h9 => h9) rfl dX8_forget_4 ?_
  refine va_getN (D := D) (ci := 5) (v := .int f_world_sights_count) (C := RX5) (T := TX5) (N := 3) hx hb hz hX_X5 hown hK.1 hP 2 rfl rfl 2 (by decide) (va_Nw.use rfl (hK.2.1 _ (List.mem_of_getElem? (i := 6) rfl))) (fun _ h9 => h9) rfl dX8_forget_7 ?_
  refine lv_istore_n (lv' := [(1, .int f_world_sights_count), (0, .ref h)]) hx hb dX8_forget_10 rfl hl (by decide) rfl (fun ls hl => ?_)
  refine lv_aload_n hx hb dX8_forget_11 rfl (lv_at hl 1 rfl) ?_
  refine va_get (D := D) (ci := 8) (v := .ref h_world) (C := RX8) (T := TX8) (N := 6) hx hb hz hX_X8 hown hK.1 hP 0 rfl rfl 0 (by decide) (hz _ z1_183) (fun _ h9 => h9) rfl dX8_forget_12 ?_
  refine va_getN (D := D) (ci := 7) (v := .ref h_world_sights) (C := RX7) (T := TX7) (N := 3) hx hb hz hX_X7 hown hK.1 hP 1 rfl rfl 2 (by decide) (va_Nw.use rfl (hK.2.1 _ (List.mem_of_getElem? (i := 9) rfl))) (fun _ h9 => h9) rfl dX8_forget_15 ?_
  refine lv_iconst (v := (0 : Int32)) hx hb dX8_forget_18 (by decide) ?_
  refine va_putN (D := D) (ci := 5) (v := .int (0 : Int32)) (ty := .int) (C := RX5) (T := TX5) (N := 3) hx hb hz hX_X5 tyX5 tyX5_ok nmX5 hown hK.1 hP hD hS 2 rfl rfl 2 (by decide) (va_Nw.use rfl (hK.2.1 _ (List.mem_of_getElem? (i := 6) rfl))) (fun _ h9 => h9) rfl (tyX5_ok 2 (by decide)) rfl rfl (Nat.le_of_ble_eq_true rfl) dX8_forget_19 (fun H locs hP hD hS => ?_)
  have hP : va_P D vwCl (cw_X8_forget h h_world h_world_sights g_images g_pad g_hearing g_bowls g_guesses g_world_court g_world_town g_world_sights_saucers g_world_sights_losses (0 : Int32)) H := hP
  have hD : va_D A (cw_X8_forget h h_world h_world_sights g_images g_pad g_hearing g_bowls g_guesses g_world_court g_world_town g_world_sights_saucers g_world_sights_losses (0 : Int32)) := hD
  refine lv_iload_n hx hb dX8_forget_22 rfl (lv_at hl 0 rfl) ?_
  exact z_iret hx hb hr hlocks (0 : Int32) hw hP hS dX8_forget_23
abbrev cw_X5_lossIf : va_W := []
abbrev q_X5_lossIf (D : va_G) (post : Int32 → Prop) (A : Nat → Prop) : Array Value → State → Outcome → State → Prop := va_Qi (S := Unit) (fun r _ => post r ) (fun _ t => va_P D vwCl (cw_X5_lossIf) t.heap) A
abbrev v_X5_lossIf : List Cond := .code yX5_lossIf cX5_lossIf 2 (some .int) :: zB
theorem hd_X5_lossIf : yX5_lossIf.cls ≠ "java/lang/invoke/MethodHandle" ∧ yX5_lossIf.cls ≠ "java/lang/invoke/VarHandle" ∧ (parseMethodDescriptor yX5_lossIf.desc).map (fun d => d.parameters.length) = some 2 := by decide +kernel
set_option maxHeartbeats 4000000 in
set_option maxRecDepth 100000 in
theorem c_X5_lossIf (l : Launch) (D : va_G) (cI cC cZ : ClassId) (p0 : Int32) (p1 : Int32) (sz : Nat) (post : Int32 → Prop) (hw : w_X5_lossIf post p0 p1) : Met l yX5_lossIf v_X5_lossIf ({ frames := 1, cells := 0, slots := 0, locals := 23 } : Room) (va_Pc [.int p0, .int p1] (zPre D (zT cI cC cZ) sz (cw_X5_lossIf))) (q_X5_lossIf D post (va_A (cw_X5_lossIf) sz)) 0 0 (va_A (cw_X5_lossIf) sz) := by
  refine Met.ofW (cc := cX5_lossIf) (maxL := 2) (ret := (some .int)) (by decide) rfl ?_
  intro p e s m args below meth c s₁ B hml hv
  obtain ⟨rfl, hsz, hP, hK, hD0⟩ := hv
  subst hsz
  have hx := B.exec
  have hb := B.bytes
  have hr := B.returns
  have hz : ∀ w ∈ zB, w.before _ s = true := fun w h => atoms_spec (ws := v_X5_lossIf) B.pre w (List.mem_cons_of_mem _ h)
  have hown : s.vm.findClass RX5 = some m.cls := findClass_of_methodNamed B.named
  have hlocks := B.notSynchronized
  have hF : CallFix p m c cX5_lossIf 2 s (([.int p0, .int p1] : List Value).toArray) zB RX5 := ⟨hx, hb, hml, hown, hz⟩
  have hD := hD0.self (sz := s.heap.size)
  generalize hAe : va_A (cw_X5_lossIf) s.heap.size = A at hD ⊢
  have hA : ∀ q : Nat, s.heap.size ≤ q → A q := fun q h => by rw [← hAe]; exact Or.inr h
  have hS : va_S A s.heap s.heap [] := va_S.rf
  have hP : va_P D vwCl (cw_X5_lossIf) s.heap := hP
  have hl := lv_entry ([.int p0, .int p1]) (n := 2) (Nat.le_of_ble_eq_true rfl)
  rw [lg_entry_eq]
  generalize (lg_sl ([.int p0, .int p1]) ++ List.replicate (2 - (lg_sl ([.int p0, .int p1])).length) Slot.unset).toArray = ls at hl ⊢
  have hl : lv_has ls 2 [(0, .int p0), (1, .int p1)] := hl
  have J17 : ∀ (s0 : Int32) (s1 : Int32) (H : Heap) (locs : List Loc) (ls : Array Slot) (hw : w_X5_lossIf_B17 post p0 p1 s0 s1) (hP : va_P D vwCl (cw_X5_lossIf) H) (hD : va_D A (cw_X5_lossIf)) (hS : va_S A s.heap H locs) (hl : lv_has ls 2 [(0, .int p0)]), W p l e (headSpec v_X5_lossIf ({ frames := 1, cells := 0, slots := 0, locals := 23 } : Room)).room s m (([.int p0, .int p1] : List Value).toArray) below meth c H locs 0 0 (MQ below (q_X5_lossIf D post A) (([.int p0, .int p1] : List Value).toArray) s 0 0 A) (F0 m 17 ls [.int s1, .int s0]) := by
    intro s0 s1 H locs ls hw hP hD hS hl
    unfold w_X5_lossIf_B17 at hw
    refine lv_iload_n hx hb dX5_lossIf_17 rfl (lv_at hl 0 rfl) ?_
    refine lv_bipush (v := (10 : Int32)) hx hb dX5_lossIf_18 (by decide) ?_
    refine lv_idiv hx hb dX5_lossIf_20 (by decide) ?_
    refine lv_iload_n hx hb dX5_lossIf_21 rfl (lv_at hl 0 rfl) ?_
    refine lv_bipush (v := (10 : Int32)) hx hb dX5_lossIf_22 (by decide) ?_
    refine lv_irem hx hb dX5_lossIf_24 (by decide) ?_
    refine z_ri (z_runSN (As := [.int s0, .int s1, .int (p0 / (10 : Int32)), .int (p0 - p0 / (10 : Int32) * (10 : Int32))]) (rest := []) hF (c_X8_lossAt l D cI cC cZ s0 s1 (p0 / (10 : Int32)) (p0 - p0 / (10 : Int32) * (10 : Int32)) _ _ hw) ⟨va_cnB 4 hz (z_gN z2_131) rfl rfl rfl (hK.2.1 _ (List.mem_of_getElem? (i := 26) rfl)) (hz _ z1_1) hd_X8_lossAt ⟨Nat.le_of_ble_eq_true rfl, Nat.le_of_ble_eq_true rfl⟩, (hz _ z2_130), trivial⟩ hK hP hD [] rfl rfl rfl hl.1 rfl (Nat.le_of_ble_eq_true rfl) dX5_lossIf_25 ⟨Nat.zero_le _, Nat.zero_le _⟩) hP hD hS hA [] rfl (fun _ => rfl) (fun _ => cw_X5_lossIf) (fun _ => rfl) (fun r25 u25 H locs hw hP hD hS => ?_)
    try dsimp only at hw
    exact z_iret hx hb hr hlocks () hw hP hS dX5_lossIf_28
  unfold w_X5_lossIf at hw
  refine lv_iload_n hx hb dX5_lossIf_0 rfl (lv_at hl 1 rfl) ?_
  refine lv_bipush (v := (10 : Int32)) hx hb dX5_lossIf_1 (by decide) ?_
  refine lv_idiv hx hb dX5_lossIf_3 (by decide) ?_
  refine lv_iload_n hx hb dX5_lossIf_4 rfl (lv_at hl 1 rfl) ?_
  refine lv_bipush (v := (10 : Int32)) hx hb dX5_lossIf_5 (by decide) ?_
  refine lv_irem hx hb dX5_lossIf_7 (by decide) ?_
  refine lv_iconst (v := (1 : Int32)) hx hb dX5_lossIf_8 (by decide) ?_
  refine lv_icmp_ne (tgt := 16) hx hb dX5_lossIf_9 (by decide) (fun c9 => ?_) (fun c9 => ?_)
  · have hw := hw.2 c9
    refine lv_iconst (v := (0 : Int32)) hx hb dX5_lossIf_16 (by decide) ?_
    exact J17 (p1 / (10 : Int32)) (0 : Int32) _ _ _ hw hP hD hS (lv_sub hl [0] rfl)
  have hw := hw.1 c9
  refine lv_iconst (v := (1 : Int32)) hx hb dX5_lossIf_12 (by decide) ?_
  refine lv_goto (tgt := 17) hx hb dX5_lossIf_13 (by decide) ?_
  exact J17 (p1 / (10 : Int32)) (1 : Int32) _ _ _ hw hP hD hS (lv_sub hl [0] rfl)
