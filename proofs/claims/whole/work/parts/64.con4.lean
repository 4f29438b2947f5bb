abbrev cw_X8_told (cI : ClassId) (h h_world h_world_court h_world_court_places h_world_court_creams h_world_town h_world_town_ways h_world_sights h_pad : Nat) (g_images g_hearing g_bowls g_guesses g_world_sights_saucers g_world_sights_losses g_pad_signs : Value) (f_world_court_places : Nat → Int32) (f_world_court_creams : Nat → Int32) (f_world_court_present : Int32) (f_world_court_lying : Int32) (f_world_court_his : Int32) (f_world_court_power : Int32) (f_world_court_spite : Int32) (f_world_court_hour : Int32) (f_world_town_ways : Nat → Int32) (f_world_town_milky : Int32) (f_world_sights_count : Int32) (f_pad_count : Int32) : va_W := [(h, .inr (8, [.ref h_world, g_images, .ref h_pad, g_hearing, g_bowls, g_guesses])), (h_world, .inr (7, [.ref h_world_court, .ref h_world_town, .ref h_world_sights])), (h_world_court, .inr (1, [.ref h_world_court_places, .ref h_world_court_creams, .int f_world_court_present, .int f_world_court_lying, .int f_world_court_his, .int f_world_court_power, .int f_world_court_spite, .int f_world_court_hour])), (h_world_court_places, .inl (cI, 8, .inl f_world_court_places)), (h_world_court_creams, .inl (cI, 8, .inl f_world_court_creams)), (h_world_town, .inr (6, [.ref h_world_town_ways, .int f_world_town_milky])), (h_world_town_ways, .inl (cI, 12, .inl f_world_town_ways)), (h_world_sights, .inr (5, [g_world_sights_saucers, g_world_sights_losses, .int f_world_sights_count])), (h_pad, .inr (4, [g_pad_signs, .int f_pad_count]))]
abbrev q_X8_told (D : va_G) (cI : ClassId) (h h_world h_world_court h_world_court_places h_world_court_creams h_world_town h_world_town_ways h_world_sights h_pad : Nat) (g_images g_hearing g_bowls g_guesses g_world_sights_saucers g_world_sights_losses g_pad_signs : Value) (post : Int32 → Prop) (f_world_court_places : Nat → Int32) (f_world_court_creams : Nat → Int32) (f_world_court_present : Int32) (f_world_court_lying : Int32) (f_world_court_his : Int32) (f_world_court_power : Int32) (f_world_court_spite : Int32) (f_world_court_hour : Int32) (f_world_town_ways : Nat → Int32) (f_world_town_milky : Int32) (f_world_sights_count : Int32) (f_pad_count : Int32) (A : Nat → Prop) : Array Value → State → Outcome → State → Prop := va_Qi (S := Unit) (fun r _ => post r ) (fun _ t => va_P D vwCl (cw_X8_told cI h h_world h_world_court h_world_court_places h_world_court_creams h_world_town h_world_town_ways h_world_sights h_pad g_images g_hearing g_bowls g_guesses g_world_sights_saucers g_world_sights_losses g_pad_signs f_world_court_places f_world_court_creams f_world_court_present f_world_court_lying f_world_court_his f_world_court_power f_world_court_spite f_world_court_hour f_world_town_ways f_world_town_milky f_world_sights_count f_pad_count) t.heap) A
abbrev v_X8_told : List Cond := .code yX8_told cX8_told 2 (some .int) :: zB
theorem hd_X8_told : yX8_told.cls = RX8 ∧ yX8_told.cls ≠ "java/lang/invoke/MethodHandle" ∧ yX8_told.cls ≠ "java/lang/invoke/VarHandle" ∧ (parseMethodDescriptor yX8_told.desc).map (fun d => d.parameters.length) = some 1 := by decide +kernel
set_option maxHeartbeats 4000000 in
set_option maxRecDepth 100000 in
theorem c_X8_told (l : Launch) (D : va_G) (cI cC cZ : ClassId) (h h_world h_world_court h_world_court_places h_world_court_creams h_world_town h_world_town_ways h_world_sights h_pad : Nat) (g_images g_hearing g_bowls g_guesses g_world_sights_saucers g_world_sights_losses g_pad_signs : Value) (f_world_court_places : Nat → Int32) (f_world_court_creams : Nat → Int32) (f_world_court_present : Int32) (f_world_court_lying : Int32) (f_world_court_his : Int32) (f_world_court_power : Int32) (f_world_court_spite : Int32) (f_world_court_hour : Int32) (f_world_town_ways : Nat → Int32) (f_world_town_milky : Int32) (f_world_sights_count : Int32) (f_pad_count : Int32) (p1 : Int32) (sz : Nat) (post : Int32 → Prop) (hw : w_X8_told post f_world_court_places f_world_court_creams f_world_court_present f_world_court_lying f_world_court_his f_world_court_power f_world_court_spite f_world_court_hour f_world_town_ways f_world_town_milky f_world_sights_count f_pad_count p1) : Met l yX8_told v_X8_told ({ frames := 3, cells := 0, slots := 0, locals := 64 } : Room) (va_Pc [.ref h, .int p1] (zPre D (zT cI cC cZ) sz (cw_X8_told cI h h_world h_world_court h_world_court_places h_world_court_creams h_world_town h_world_town_ways h_world_sights h_pad g_images g_hearing g_bowls g_guesses g_world_sights_saucers g_world_sights_losses g_pad_signs f_world_court_places f_world_court_creams f_world_court_present f_world_court_lying f_world_court_his f_world_court_power f_world_court_spite f_world_court_hour f_world_town_ways f_world_town_milky f_world_sights_count f_pad_count))) (q_X8_told D cI h h_world h_world_court h_world_court_places h_world_court_creams h_world_town h_world_town_ways h_world_sights h_pad g_images g_hearing g_bowls g_guesses g_world_sights_saucers g_world_sights_losses g_pad_signs post f_world_court_places f_world_court_creams f_world_court_present f_world_court_lying f_world_court_his f_world_court_power f_world_court_spite f_world_court_hour f_world_town_ways f_world_town_milky f_world_sights_count f_pad_count (va_A (cw_X8_told cI h h_world h_world_court h_world_court_places h_world_court_creams h_world_town h_world_town_ways h_world_sights h_pad g_images g_hearing g_bowls g_guesses g_world_sights_saucers g_world_sights_losses g_pad_signs f_world_court_places f_world_court_creams f_world_court_present f_world_court_lying f_world_court_his f_world_court_power f_world_court_spite f_world_court_hour f_world_town_ways f_world_town_milky f_world_sights_count f_pad_count) sz)) 0 0 (va_A (cw_X8_told cI h h_world h_world_court h_world_court_places h_world_court_creams h_world_town h_world_town_ways h_world_sights h_pad g_images g_hearing g_bowls g_guesses g_world_sights_saucers g_world_sights_losses g_pad_signs f_world_court_places f_world_court_creams f_world_court_present f_world_court_lying f_world_court_his f_world_court_power f_world_court_spite f_world_court_hour f_world_town_ways f_world_town_milky f_world_sights_count f_pad_count) sz) := by
  refine Met.ofW (cc := cX8_told) (maxL := 2) (ret := (some .int)) (by decide) rfl ?_
  intro p e s m args below meth c s₁ B hml hv
  obtain ⟨rfl, hsz, hP, hK, hD0⟩ := hv
  subst hsz
  have hx := B.exec
  have hb := B.bytes
  have hr := B.returns
  have hz : ∀ w ∈ zB, w.before _ s = true := fun w h => atoms_spec (ws := v_X8_told) B.pre w (List.mem_cons_of_mem _ h)
  have hown : s.vm.findClass RX8 = some m.cls := findClass_of_methodNamed B.named
  have hlocks := B.notSynchronized
  have hF : CallFix p m c cX8_told 2 s (([.ref h, .int p1] : List Value).toArray) zB RX8 := ⟨hx, hb, hml, hown, hz⟩
  have hD := hD0.self (sz := s.heap.size)
  generalize hAe : va_A (cw_X8_told cI h h_world h_world_court h_world_court_places h_world_court_creams h_world_town h_world_town_ways h_world_sights h_pad g_images g_hearing g_bowls g_guesses g_world_sights_saucers g_world_sights_losses g_pad_signs f_world_court_places f_world_court_creams f_world_court_present f_world_court_lying f_world_court_his f_world_court_power f_world_court_spite f_world_court_hour f_world_town_ways f_world_town_milky f_world_sights_count f_pad_count) s.heap.size = A at hD ⊢
  have hA : ∀ q : Nat, s.heap.size ≤ q → A q := fun q h => by rw [← hAe]; exact Or.inr h
  have hS : va_S A s.heap s.heap [] := va_S.rf
  have hP : va_P D vwCl (cw_X8_told cI h h_world h_world_court h_world_court_places h_world_court_creams h_world_town h_world_town_ways h_world_sights h_pad g_images g_hearing g_bowls g_guesses g_world_sights_saucers g_world_sights_losses g_pad_signs f_world_court_places f_world_court_creams f_world_court_present f_world_court_lying f_world_court_his f_world_court_power f_world_court_spite f_world_court_hour f_world_town_ways f_world_town_milky f_world_sights_count f_pad_count) s.heap := hP
  have hl := lv_entry ([.ref h, .int p1]) (n := 2) (Nat.le_of_ble_eq_true rfl)
  rw [lg_entry_eq]
  generalize (lg_sl ([.ref h, .int p1]) ++ List.replicate (2 - (lg_sl ([.ref h, .int p1])).length) Slot.unset).toArray = ls at hl ⊢
  have hl : lv_has ls 2 [(0, .ref h), (1, .int p1)] := hl
  unfold w_X8_told at hw
  refine lv_iload_n hx hb dX8_told_0 rfl (lv_at hl 1 rfl) ?_
  refine lv_bipush (v := (10 : Int32)) hx hb dX8_told_1 (by decide) ?_
  refine lv_bipush (v := (21 : Int32)) hx hb dX8_told_3 (by decide) ?_
  refine z_ri (z_runS (As := [.int p1, .int (10 : Int32), .int (21 : Int32)]) (rest := []) hF (c_X8_within l D cI cC cZ p1 (10 : Int32) (21 : Int32) _ _ hw) (va_cwS 3 hz (z_gS z1_212 z1_213 z1_1 z1_214) rfl rfl rfl hd_X8_within ⟨Nat.le_of_ble_eq_true rfl, Nat.le_of_ble_eq_true rfl⟩) hK hP hD [] rfl rfl rfl hl.1 rfl (Nat.le_of_ble_eq_true rfl) dX8_told_5 ⟨Nat.zero_le _, Nat.zero_le _⟩) hP hD hS hA [] rfl (fun _ => rfl) (fun _ => cw_X8_told cI h h_world h_world_court h_world_court_places h_world_court_creams h_world_town h_world_town_ways h_world_sights h_pad g_images g_hearing g_bowls g_guesses g_world_sights_saucers g_world_sights_losses g_pad_signs f_world_court_places f_world_court_creams f_world_court_present f_world_court_lying f_world_court_his f_world_court_power f_world_court_spite f_world_court_hour f_world_town_ways f_world_town_milky f_world_sights_count f_pad_count) (fun _ => rfl) (fun r5 u5 H locs hw hP hD hS => ?_)
  obtain ⟨hn5, hw⟩ := hw
  try dsimp only at hw
  refine lv_if_eq (tgt := 26) hx hb dX8_told_8 (by decide) (fun c8 => ?_) (fun c8 => ?_)
  · have hw := hw.1 c8
    refine lv_iload_n hx hb dX8_told_26 rfl (lv_at hl 1 rfl) ?_
    refine lv_bipush (v := (100 : Int32)) hx hb dX8_told_27 (by decide) ?_
    refine lv_icmp_lt (tgt := 48) hx hb dX8_told_29 (by decide) (fun c29 => ?_) (fun c29 => ?_)
    · have hw := hw.1 c29
      refine lv_iload_n hx hb dX8_told_48 rfl (lv_at hl 1 rfl) ?_
      by_cases c49_0 : p1 = (0 : Int32)
      · have hw := hw.1 c49_0
        refine lv_tableIn (off := 51) (tgt := 100) hx hb dX8_told_49 (by rw [c49_0]; decide) (by rw [c49_0]; decide) (by rw [c49_0]; rfl) (by decide) ?_
        refine lv_aload_n hx hb dX8_told_100 rfl (lv_at hl 0 rfl) ?_
        refine va_get (D := D) (ci := 8) (v := .ref h_pad) (C := RX8) (T := TX8) (N := 6) hx hb hz hX_X8 hown hK.1 hP 0 rfl rfl 2 (by decide) (hz _ z1_185) (fun _ h9 => h9) rfl dX8_told_101 ?_
        refine va_getN (D := D) (ci := 4) (v := .int f_pad_count) (C := RX4) (T := TX4) (N := 2) hx hb hz hX_X4 hown hK.1 hP 8 rfl rfl 1 (by decide) (va_Nw.use rfl (hK.2.1 _ (List.mem_of_getElem? (i := 11) rfl))) (fun _ h9 => h9) rfl dX8_told_104 ?_
        exact z_iret hx hb hr hlocks () hw hP hS dX8_told_107
      have hw := hw.2 c49_0
      have i49_0 : p1.toInt ≠ 0 := fun h => c49_0 (Int32.toInt_inj.mp (h.trans (by decide)))
      by_cases c49_1 : p1 = (1 : Int32)
      · have hw := hw.1 c49_1
        refine lv_tableIn (off := 59) (tgt := 108) hx hb dX8_told_49 (by rw [c49_1]; decide) (by rw [c49_1]; decide) (by rw [c49_1]; rfl) (by decide) ?_
        refine lv_aload_n hx hb dX8_told_108 rfl (lv_at hl 0 rfl) ?_
        refine va_get (D := D) (ci := 8) (v := .ref h_world) (C := RX8) (T := TX8) (N := 6) hx hb hz hX_X8 hown hK.1 hP 0 rfl rfl 0 (by decide) (hz _ z1_183) (fun _ h9 => h9) rfl dX8_told_109 ?_
        refine va_getN (D := D) (ci := 7) (v := .ref h_world_court) (C := RX7) (T := TX7) (N := 3) hx hb hz hX_X7 hown hK.1 hP 1 rfl rfl 0 (by decide) (va_Nw.use rfl (hK.2.1 _ (List.mem_of_getElem? (i := 7) rfl))) (fun _ h9 => h9) rfl dX8_told_112 ?_
        refine va_getN (D := D) (ci := 1) (v := .int f_world_court_present) (C := RX1) (T := TX1) (N := 8) hx hb hz hX_X1 hown hK.1 hP 2 rfl rfl 2 (by decide) (va_Nw.use rfl (hK.2.1 _ (List.mem_of_getElem? (i := 0) rfl))) (fun _ h9 => h9) rfl dX8_told_115 ?_
        exact z_iret hx hb hr hlocks () hw hP hS dX8_told_118
      have hw := hw.2 c49_1
      have i49_1 : p1.toInt ≠ 1 := fun h => c49_1 (Int32.toInt_inj.mp (h.trans (by decide)))
      by_cases c49_2 : p1 = (2 : Int32)
      · have hw := hw.1 c49_2
        refine lv_tableIn (off := 70) (tgt := 119) hx hb dX8_told_49 (by rw [c49_2]; decide) (by rw [c49_2]; decide) (by rw [c49_2]; rfl) (by decide) ?_
        refine lv_aload_n hx hb dX8_told_119 rfl (lv_at hl 0 rfl) ?_
        refine va_get (D := D) (ci := 8) (v := .ref h_world) (C := RX8) (T := TX8) (N := 6) hx hb hz hX_X8 hown hK.1 hP 0 rfl rfl 0 (by decide) (hz _ z1_183) (fun _ h9 => h9) rfl dX8_told_120 ?_
        refine va_getN (D := D) (ci := 7) (v := .ref h_world_court) (C := RX7) (T := TX7) (N := 3) hx hb hz hX_X7 hown hK.1 hP 1 rfl rfl 0 (by decide) (va_Nw.use rfl (hK.2.1 _ (List.mem_of_getElem? (i := 7) rfl))) (fun _ h9 => h9) rfl dX8_told_123 ?_
        refine z_ri (z_runV (As := []) (rest := []) hF (c_X1_offOnes l D cI cC cZ h_world_court h_world_court_creams (.ref h_world_court_places) (.int f_world_court_lying) (.int f_world_court_his) (.int f_world_court_power) (.int f_world_court_spite) (.int f_world_court_hour) f_world_court_creams f_world_court_present _ _ hw) (cwV 0 hz (z_gV z2_171 z2_110 z2_111 z1_3 z2_112) rfl rfl rfl hd_X1_offOnes ⟨Nat.le_of_ble_eq_true rfl, Nat.le_of_ble_eq_true rfl⟩) hK hP hD [2, 4] rfl rfl 2 1 rfl rfl rfl rfl hl.1 rfl (Nat.le_of_ble_eq_true rfl) dX8_told_126 ⟨Nat.zero_le _, Nat.zero_le _⟩) hP hD hS hA [2, 4] rfl (fun _ => rfl) (fun _ => cw_X8_told cI h h_world h_world_court h_world_court_places h_world_court_creams h_world_town h_world_town_ways h_world_sights h_pad g_images g_hearing g_bowls g_guesses g_world_sights_saucers g_world_sights_losses g_pad_signs f_world_court_places f_world_court_creams f_world_court_present f_world_court_lying f_world_court_his f_world_court_power f_world_court_spite f_world_court_hour f_world_town_ways f_world_town_milky f_world_sights_count f_pad_count) (fun _ => rfl) (fun r126 u126 H locs hw hP hD hS => ?_)
        try dsimp only at hw
        exact z_iret hx hb hr hlocks () hw hP hS dX8_told_129
      have hw := hw.2 c49_2
      have i49_2 : p1.toInt ≠ 2 := fun h => c49_2 (Int32.toInt_inj.mp (h.trans (by decide)))
      by_cases c49_3 : p1 = (3 : Int32)
      · have hw := hw.1 c49_3
        refine lv_tableIn (off := 81) (tgt := 130) hx hb dX8_told_49 (by rw [c49_3]; decide) (by rw [c49_3]; decide) (by rw [c49_3]; rfl) (by decide) ?_
        refine lv_aload_n hx hb dX8_told_130 rfl (lv_at hl 0 rfl) ?_
        refine va_get (D := D) (ci := 8) (v := .ref h_world) (C := RX8) (T := TX8) (N := 6) hx hb hz hX_X8 hown hK.1 hP 0 rfl rfl 0 (by decide) (hz _ z1_183) (fun _ h9 => h9) rfl dX8_told_131 ?_
        refine va_getN (D := D) (ci := 7) (v := .ref h_world_court) (C := RX7) (T := TX7) (N := 3) hx hb hz hX_X7 hown hK.1 hP 1 rfl rfl 0 (by decide) (va_Nw.use rfl (hK.2.1 _ (List.mem_of_getElem? (i := 7) rfl))) (fun _ h9 => h9) rfl dX8_told_134 ?_
        refine va_getN (D := D) (ci := 1) (v := .int f_world_court_his) (C := RX1) (T := TX1) (N := 8) hx hb hz hX_X1 hown hK.1 hP 2 rfl rfl 4 (by decide) (va_Nw.use rfl (hK.2.1 _ (List.mem_of_getElem? (i := 1) rfl))) (fun _ h9 => h9) rfl dX8_told_137 ?_
        exact z_iret hx hb hr hlocks () hw hP hS dX8_told_140
      have hw := hw.2 c49_3
      have i49_3 : p1.toInt ≠ 3 := fun h => c49_3 (Int32.toInt_inj.mp (h.trans (by decide)))
      by_cases c49_4 : p1 = (4 : Int32)
      · have hw := hw.1 c49_4
        refine lv_tableIn (off := 92) (tgt := 141) hx hb dX8_told_49 (by rw [c49_4]; decide) (by rw [c49_4]; decide) (by rw [c49_4]; rfl) (by decide) ?_
        refine lv_aload_n hx hb dX8_told_141 rfl (lv_at hl 0 rfl) ?_
        refine va_get (D := D) (ci := 8) (v := .ref h_world) (C := RX8) (T := TX8) (N := 6) hx hb hz hX_X8 hown hK.1 hP 0 rfl rfl 0 (by decide) (hz _ z1_183) (fun _ h9 => h9) rfl dX8_told_142 ?_
        refine va_getN (D := D) (ci := 7) (v := .ref h_world_court) (C := RX7) (T := TX7) (N := 3) hx hb hz hX_X7 hown hK.1 hP 1 rfl rfl 0 (by decide) (va_Nw.use rfl (hK.2.1 _ (List.mem_of_getElem? (i := 7) rfl))) (fun _ h9 => h9) rfl dX8_told_145 ?_
        refine va_getN (D := D) (ci := 1) (v := .int f_world_court_power) (C := RX1) (T := TX1) (N := 8) hx hb hz hX_X1 hown hK.1 hP 2 rfl rfl 5 (by decide) (va_Nw.use rfl (hK.2.1 _ (List.mem_of_getElem? (i := 2) rfl))) (fun _ h9 => h9) rfl dX8_told_148 ?_
        exact z_iret hx hb hr hlocks () hw hP hS dX8_told_151
      have hw := hw.2 c49_4
      have i49_4 : p1.toInt ≠ 4 := fun h => c49_4 (Int32.toInt_inj.mp (h.trans (by decide)))
      by_cases c49_5 : p1 = (5 : Int32)
      · have hw := hw.1 c49_5
        refine lv_tableIn (off := 103) (tgt := 152) hx hb dX8_told_49 (by rw [c49_5]; decide) (by rw [c49_5]; decide) (by rw [c49_5]; rfl) (by decide) ?_
        refine lv_aload_n hx hb dX8_told_152 rfl (lv_at hl 0 rfl) ?_
        refine va_get (D := D) (ci := 8) (v := .ref h_world) (C := RX8) (T := TX8) (N := 6) hx hb hz hX_X8 hown hK.1 hP 0 rfl rfl 0 (by decide) (hz _ z1_183) (fun _ h9 => h9) rfl dX8_told_153 ?_
        refine va_getN (D := D) (ci := 7) (v := .ref h_world_court) (C := RX7) (T := TX7) (N := 3) hx hb hz hX_X7 hown hK.1 hP 1 rfl rfl 0 (by decide) (va_Nw.use rfl (hK.2.1 _ (List.mem_of_getElem? (i := 7) rfl))) (fun _ h9 => h9) rfl dX8_told_156 ?_
        refine va_getN (D := D) (ci := 1) (v := .int f_world_court_spite) (C := RX1) (T := TX1) (N := 8) hx hb hz hX_X1 hown hK.1 hP 2 rfl rfl 6 (by decide) (va_Nw.use rfl (hK.2.1 _ (List.mem_of_getElem? (i := 3) rfl))) (fun _ h9 => h9) rfl dX8_told_159 ?_
        exact z_iret hx hb hr hlocks () hw hP hS dX8_told_162
      have hw := hw.2 c49_5
      have i49_5 : p1.toInt ≠ 5 := fun h => c49_5 (Int32.toInt_inj.mp (h.trans (by decide)))
      by_cases c49_6 : p1 = (6 : Int32)
      · have hw := hw.1 c49_6
        refine lv_tableIn (off := 114) (tgt := 163) hx hb dX8_told_49 (by rw [c49_6]; decide) (by rw [c49_6]; decide) (by rw [c49_6]; rfl) (by decide) ?_
        refine lv_aload_n hx hb dX8_told_163 rfl (lv_at hl 0 rfl) ?_
        refine va_get (D := D) (ci := 8) (v := .ref h_world) (C := RX8) (T := TX8) (N := 6) hx hb hz hX_X8 hown hK.1 hP 0 rfl rfl 0 (by decide) (hz _ z1_183) (fun _ h9 => h9) rfl dX8_told_164 ?_
        refine va_getN (D := D) (ci := 7) (v := .ref h_world_court) (C := RX7) (T := TX7) (N := 3) hx hb hz hX_X7 hown hK.1 hP 1 rfl rfl 0 (by decide) (va_Nw.use rfl (hK.2.1 _ (List.mem_of_getElem? (i := 7) rfl))) (fun _ h9 => h9) rfl dX8_told_167 ?_
        refine va_getN (D := D) (ci := 1) (v := .int f_world_court_hour) (C := RX1) (T := TX1) (N := 8) hx hb hz hX_X1 hown hK.1 hP 2 rfl rfl 7 (by decide) (va_Nw.use rfl (hK.2.1 _ (List.mem_of_getElem? (i := 4) rfl))) (fun _ h9 => h9) rfl dX8_told_170 ?_
        exact z_iret hx hb hr hlocks () hw hP hS dX8_told_173
      have hw := hw.2 c49_6
      have i49_6 : p1.toInt ≠ 6 := fun h => c49_6 (Int32.toInt_inj.mp (h.trans (by decide)))
      by_cases c49_7 : p1 = (7 : Int32)
      · have hw := hw.1 c49_7
        refine lv_tableIn (off := 125) (tgt := 174) hx hb dX8_told_49 (by rw [c49_7]; decide) (by rw [c49_7]; decide) (by rw [c49_7]; rfl) (by decide) ?_
        refine lv_aload_n hx hb dX8_told_174 rfl (lv_at hl 0 rfl) ?_
        refine va_get (D := D) (ci := 8) (v := .ref h_world) (C := RX8) (T := TX8) (N := 6) hx hb hz hX_X8 hown hK.1 hP 0 rfl rfl 0 (by decide) (hz _ z1_183) (fun _ h9 => h9) rfl dX8_told_175 ?_
        refine va_getN (D := D) (ci := 7) (v := .ref h_world_town) (C := RX7) (T := TX7) (N := 3) hx hb hz hX_X7 hown hK.1 hP 1 rfl rfl 1 (by decide) (va_Nw.use rfl (hK.2.1 _ (List.mem_of_getElem? (i := 8) rfl))) (fun _ h9 => h9) rfl dX8_told_178 ?_
        refine va_getN (D := D) (ci := 6) (v := .int f_world_town_milky) (C := RX6) (T := TX6) (N := 2) hx hb hz hX_X6 hown hK.1 hP 5 rfl rfl 1 (by decide) (va_Nw.use rfl (hK.2.1 _ (List.mem_of_getElem? (i := 5) rfl))) (fun _ h9 => h9) rfl dX8_told_181 ?_
        exact z_iret hx hb hr hlocks () hw hP hS dX8_told_184
      have hw := hw.2 c49_7
      have i49_7 : p1.toInt ≠ 7 := fun h => c49_7 (Int32.toInt_inj.mp (h.trans (by decide)))
      by_cases c49_8 : p1 = (8 : Int32)
      · have hw := hw.1 c49_8
        refine lv_tableIn (off := 136) (tgt := 185) hx hb dX8_told_49 (by rw [c49_8]; decide) (by rw [c49_8]; decide) (by rw [c49_8]; rfl) (by decide) ?_
        refine lv_aload_n hx hb dX8_told_185 rfl (lv_at hl 0 rfl) ?_
        refine va_get (D := D) (ci := 8) (v := .ref h_world) (C := RX8) (T := TX8) (N := 6) hx hb hz hX_X8 hown hK.1 hP 0 rfl rfl 0 (by decide) (hz _ z1_183) (fun _ h9 => h9) rfl dX8_told_186 ?_
        refine va_getN (D := D) (ci := 7) (v := .ref h_world_sights) (C := RX7) (T := TX7) (N := 3) hx hb hz hX_X7 hown hK.1 hP 1 rfl rfl 2 (by decide) (va_Nw.use rfl (hK.2.1 _ (List.mem_of_getElem? (i := 9) rfl))) (fun _ h9 => h9) rfl dX8_told_189 ?_
        refine va_getN (D := D) (ci := 5) (v := .int f_world_sights_count) (C := RX5) (T := TX5) (N := 3) hx hb hz hX_X5 hown hK.1 hP 7 rfl rfl 2 (by decide) (va_Nw.use rfl (hK.2.1 _ (List.mem_of_getElem? (i := 6) rfl))) (fun _ h9 => h9) rfl dX8_told_192 ?_
        exact z_iret hx hb hr hlocks () hw hP hS dX8_told_195
      have hw := hw.2 c49_8
      have i49_8 : p1.toInt ≠ 8 := fun h => c49_8 (Int32.toInt_inj.mp (h.trans (by decide)))
      refine lv_tableOut (tgt := 196) hx hb dX8_told_49 (by omega) (by decide) ?_
      refine lv_bipush (v := (-2 : Int32)) hx hb dX8_told_196 (by decide) ?_
      exact z_iret hx hb hr hlocks () hw hP hS dX8_told_198
    have hw := hw.2 c29
    refine lv_aload_n hx hb dX8_told_32 rfl (lv_at hl 0 rfl) ?_
    refine lv_iload_n hx hb dX8_told_33 rfl (lv_at hl 1 rfl) ?_
    refine lv_bipush (v := (100 : Int32)) hx hb dX8_told_34 (by decide) ?_
    refine lv_isub hx hb dX8_told_36 ?_
    refine lv_bipush (v := (10 : Int32)) hx hb dX8_told_37 (by decide) ?_
    refine lv_idiv hx hb dX8_told_39 (by decide) ?_
    refine lv_iload_n hx hb dX8_told_40 rfl (lv_at hl 1 rfl) ?_
    refine lv_bipush (v := (10 : Int32)) hx hb dX8_told_41 (by decide) ?_
    refine lv_irem hx hb dX8_told_43 (by decide) ?_
    refine z_ri (z_runV (As := [.int ((p1 - (100 : Int32)) / (10 : Int32)), .int (p1 - p1 / (10 : Int32) * (10 : Int32))]) (rest := []) hF (c_X8_toldOfWitness l D cI cC cZ h h_world h_world_court h_world_court_places h_world_court_creams g_images (.ref h_pad) g_hearing g_bowls g_guesses (.ref h_world_town) (.ref h_world_sights) (.int f_world_court_his) (.int f_world_court_power) (.int f_world_court_spite) (.int f_world_court_hour) f_world_court_places f_world_court_creams f_world_court_present f_world_court_lying ((p1 - (100 : Int32)) / (10 : Int32)) (p1 - p1 / (10 : Int32) * (10 : Int32)) _ _ hw) (cwV 2 hz (z_gV z3_142 z3_144 zp_14 z1_1 z3_145) rfl rfl rfl hd_X8_toldOfWitness ⟨Nat.le_of_ble_eq_true rfl, Nat.le_of_ble_eq_true rfl⟩) hK hP hD [0, 1, 2, 3, 4] rfl rfl 0 8 rfl rfl rfl rfl hl.1 rfl (Nat.le_of_ble_eq_true rfl) dX8_told_44 ⟨Nat.zero_le _, Nat.zero_le _⟩) hP hD hS hA [0, 1, 2, 3, 4] rfl (fun _ => rfl) (fun _ => cw_X8_told cI h h_world h_world_court h_world_court_places h_world_court_creams h_world_town h_world_town_ways h_world_sights h_pad g_images g_hearing g_bowls g_guesses g_world_sights_saucers g_world_sights_losses g_pad_signs f_world_court_places f_world_court_creams f_world_court_present f_world_court_lying f_world_court_his f_world_court_power f_world_court_spite f_world_court_hour f_world_town_ways f_world_town_milky f_world_sights_count f_pad_count) (fun _ => rfl) (fun r44 u44 H locs hw hP hD hS => ?_)
    try dsimp only at hw
    exact z_iret hx hb hr hlocks () hw hP hS dX8_told_47
  have hw := hw.2 c8
  refine lv_aload_n hx hb dX8_told_11 rfl (lv_at hl 0 rfl) ?_
  refine va_get (D := D) (ci := 8) (v := .ref h_world) (C := RX8) (T := TX8) (N := 6) hx hb hz hX_X8 hown hK.1 hP 0 rfl rfl 0 (by decide) (hz _ z1_183) (fun _ h9 => h9) rfl dX8_told_12 ?_
  refine va_getN (D := D) (ci := 7) (v := .ref h_world_town) (C := RX7) (T := TX7) (N := 3) hx hb hz hX_X7 hown hK.1 hP 1 rfl rfl 1 (by decide) (va_Nw.use rfl (hK.2.1 _ (List.mem_of_getElem? (i := 8) rfl))) (fun _ h9 => h9) rfl dX8_told_15 ?_
  refine lv_iload_n hx hb dX8_told_18 rfl (lv_at hl 1 rfl) ?_
  refine lv_bipush (v := (10 : Int32)) hx hb dX8_told_19 (by decide) ?_
  refine lv_isub hx hb dX8_told_21 ?_
  refine z_ri (z_runV (As := [.int (p1 - (10 : Int32))]) (rest := []) hF (c_X6_waysFrom l D cI cC cZ h_world_town h_world_town_ways (.int f_world_town_milky) f_world_town_ways (p1 - (10 : Int32)) _ _ hw) (cwV 1 hz (z_gV z3_141 z2_229 z2_230 z1_4 z2_231) rfl rfl rfl hd_X6_waysFrom ⟨Nat.le_of_ble_eq_true rfl, Nat.le_of_ble_eq_true rfl⟩) hK hP hD [5, 6] rfl rfl 5 6 rfl rfl rfl rfl hl.1 rfl (Nat.le_of_ble_eq_true rfl) dX8_told_22 ⟨Nat.zero_le _, Nat.zero_le _⟩) hP hD hS hA [5, 6] rfl (fun _ => rfl) (fun _ => cw_X8_told cI h h_world h_world_court h_world_court_places h_world_court_creams h_world_town h_world_town_ways h_world_sights h_pad g_images g_hearing g_bowls g_guesses g_world_sights_saucers g_world_sights_losses g_pad_signs f_world_court_places f_world_court_creams f_world_court_present f_world_court_lying f_world_court_his f_world_court_power f_world_court_spite f_world_court_hour f_world_town_ways f_world_town_milky f_world_sights_count f_pad_count) (fun _ => rfl) (fun r22 u22 H locs hw hP hD hS => ?_)
  try dsimp only at hw
  exact z_iret hx hb hr hlocks () hw hP hS dX8_told_25
abbrev cw_X9_in : va_W := []
abbrev q_X9_in (D : va_G) (post : Int32 → Prop) (A : Nat → Prop) : Array Value → State → Outcome → State → Prop := va_Qi (S := Unit) (fun r _ => narrow .boolean (.int r) = .int r ∧ post r ) (fun _ t => va_P D vwCl (cw_X9_in) t.heap) A
abbrev v_X9_in : List Cond := .code yX9_in cX9_in 3 (some .boolean) :: zB
theorem hd_X9_in : yX9_in.cls ≠ "java/lang/invoke/MethodHandle" ∧ yX9_in.cls ≠ "java/lang/invoke/VarHandle" ∧ (parseMethodDescriptor yX9_in.desc).map (fun d => d.parameters.length) = some 3 := by decide +kernel
set_option maxHeartbeats 4000000 in
set_option maxRecDepth 100000 in
theorem c_X9_in (l : Launch) (D : va_G) (cI cC cZ : ClassId) (p0 : Int32) (p1 : Int32) (p2 : Int32) (sz : Nat) (post : Int32 → Prop) (hw : w_X9_in post p0 p1 p2) : Met l yX9_in v_X9_in ({ frames := 0, cells := 0, slots := 0, locals := 0 } : Room) (va_Pc [.int p0, .int p1, .int p2] (zPre D (zT cI cC cZ) sz (cw_X9_in))) (q_X9_in D post (va_A (cw_X9_in) sz)) 0 0 (va_A (cw_X9_in) sz) := by
  refine Met.ofW (cc := cX9_in) (maxL := 3) (ret := (some .boolean)) (by decide) rfl ?_
  intro p e s m args below meth c s₁ B hml hv
  obtain ⟨rfl, hsz, hP, hK, hD0⟩ := hv
  subst hsz
  have hx := B.exec
  have hb := B.bytes
  have hr := B.returns
  have hz : ∀ w ∈ zB, w.before _ s = true := fun w h => atoms_spec (ws := v_X9_in) B.pre w (List.mem_cons_of_mem _ h)
  have hown : s.vm.findClass RX9 = some m.cls := findClass_of_methodNamed B.named
  have hlocks := B.notSynchronized
  have hF : CallFix p m c cX9_in 3 s (([.int p0, .int p1, .int p2] : List Value).toArray) zB RX9 := ⟨hx, hb, hml, hown, hz⟩
  have hD := hD0.self (sz := s.heap.size)
  generalize hAe : va_A (cw_X9_in) s.heap.size = A at hD ⊢
  have hA : ∀ q : Nat, s.heap.size ≤ q → A q := fun q h => by rw [← hAe]; exact Or.inr h
  have hS : va_S A s.heap s.heap [] := va_S.rf
  have hP : va_P D vwCl (cw_X9_in) s.heap := hP
  have hl := lv_entry ([.int p0, .int p1, .int p2]) (n := 3) (Nat.le_of_ble_eq_true rfl)
  rw [lg_entry_eq]
  generalize (lg_sl ([.int p0, .int p1, .int p2]) ++ List.replicate (3 - (lg_sl ([.int p0, .int p1, .int p2])).length) Slot.unset).toArray = ls at hl ⊢
  have hl : lv_has ls 3 [(0, .int p0), (1, .int p1), (2, .int p2)] := hl
  have J14 : ∀ (H : Heap) (locs : List Loc) (ls : Array Slot) (hw : w_X9_in_B14 post p0 p1 p2) (hP : va_P D vwCl (cw_X9_in) H) (hD : va_D A (cw_X9_in)) (hS : va_S A s.heap H locs) (hl : lv_has ls 3 []), W p l e (headSpec v_X9_in ({ frames := 0, cells := 0, slots := 0, locals := 0 } : Room)).room s m (([.int p0, .int p1, .int p2] : List Value).toArray) below meth c H locs 0 0 (MQ below (q_X9_in D post A) (([.int p0, .int p1, .int p2] : List Value).toArray) s 0 0 A) (F0 m 14 ls []) := by
    intro H locs ls hw hP hD hS hl
    unfold w_X9_in_B14 at hw
    refine lv_iconst (v := (0 : Int32)) hx hb dX9_in_14 (by decide) ?_
    exact z_zret hx hb hr hlocks rfl () hw hP hS dX9_in_15
  unfold w_X9_in at hw
  refine lv_iload_n hx hb dX9_in_0 rfl (lv_at hl 0 rfl) ?_
  refine lv_iload_n hx hb dX9_in_1 rfl (lv_at hl 1 rfl) ?_
  refine lv_icmp_lt (tgt := 14) hx hb dX9_in_2 (by decide) (fun c2 => ?_) (fun c2 => ?_)
  · have hw := hw.1 c2
    exact J14 _ _ _ hw hP hD hS (lv_sub hl [] rfl)
  have hw := hw.2 c2
  refine lv_iload_n hx hb dX9_in_5 rfl (lv_at hl 0 rfl) ?_
  refine lv_iload_n hx hb dX9_in_6 rfl (lv_at hl 2 rfl) ?_
  refine lv_icmp_gt (tgt := 14) hx hb dX9_in_7 (by decide) (fun c7 => ?_) (fun c7 => ?_)
  · have hw := hw.1 c7
    exact J14 _ _ _ hw hP hD hS (lv_sub hl [] rfl)
  have hw := hw.2 c7
  refine lv_iconst (v := (1 : Int32)) hx hb dX9_in_10 (by decide) ?_
  refine lv_goto (tgt := 15) hx hb dX9_in_11 (by decide) ?_
  exact z_zret hx hb hr hlocks rfl () hw hP hS dX9_in_15
abbrev cw_X9_has : va_W := []
abbrev q_X9_has (D : va_G) (post : Int32 → Prop) (A : Nat → Prop) : Array Value → State → Outcome → State → Prop := va_Qi (S := Unit) (fun r _ => narrow .boolean (.int r) = .int r ∧ post r ) (fun _ t => va_P D vwCl (cw_X9_has) t.heap) A
abbrev v_X9_has : List Cond := .code yX9_has cX9_has 2 (some .boolean) :: zB
theorem hd_X9_has : yX9_has.cls ≠ "java/lang/invoke/MethodHandle" ∧ yX9_has.cls ≠ "java/lang/invoke/VarHandle" ∧ (parseMethodDescriptor yX9_has.desc).map (fun d => d.parameters.length) = some 2 := by decide +kernel
set_option maxHeartbeats 4000000 in
set_option maxRecDepth 100000 in
theorem c_X9_has (l : Launch) (D : va_G) (cI cC cZ : ClassId) (p0 : Int32) (p1 : Int32) (sz : Nat) (post : Int32 → Prop) (hw : w_X9_has post p0 p1) : Met l yX9_has v_X9_has ({ frames := 0, cells := 0, slots := 0, locals := 0 } : Room) (va_Pc [.int p0, .int p1] (zPre D (zT cI cC cZ) sz (cw_X9_has))) (q_X9_has D post (va_A (cw_X9_has) sz)) 0 0 (va_A (cw_X9_has) sz) := by
  refine Met.ofW (cc := cX9_has) (maxL := 2) (ret := (some .boolean)) (by decide) rfl ?_
  intro p e s m args below meth c s₁ B hml hv
  obtain ⟨rfl, hsz, hP, hK, hD0⟩ := hv
  subst hsz
  have hx := B.exec
  have hb := B.bytes
  have hr := B.returns
  have hz : ∀ w ∈ zB, w.before _ s = true := fun w h => atoms_spec (ws := v_X9_has) B.pre w (List.mem_cons_of_mem _ h)
  have hown : s.vm.findClass RX9 = some m.cls := findClass_of_methodNamed B.named
  have hlocks := B.notSynchronized
  have hF : CallFix p m c cX9_has 2 s (([.int p0, .int p1] : List Value).toArray) zB RX9 := ⟨hx, hb, hml, hown, hz⟩
  have hD := hD0.self (sz := s.heap.size)
  generalize hAe : va_A (cw_X9_has) s.heap.size = A at hD ⊢
  have hA : ∀ q : Nat, s.heap.size ≤ q → A q := fun q h => by rw [← hAe]; exact Or.inr h
  have hS : va_S A s.heap s.heap [] := va_S.rf
  have hP : va_P D vwCl (cw_X9_has) s.heap := hP
  have hl := lv_entry ([.int p0, .int p1]) (n := 2) (Nat.le_of_ble_eq_true rfl)
  rw [lg_entry_eq]
  generalize (lg_sl ([.int p0, .int p1]) ++ List.replicate (2 - (lg_sl ([.int p0, .int p1])).length) Slot.unset).toArray = ls at hl ⊢
  have hl : lv_has ls 2 [(0, .int p0), (1, .int p1)] := hl
  unfold w_X9_has at hw
  refine lv_iload_n hx hb dX9_has_0 rfl (lv_at hl 0 rfl) ?_
  refine lv_iload_n hx hb dX9_has_1 rfl (lv_at hl 1 rfl) ?_
  refine lv_ishr hx hb dX9_has_2 ?_
  refine lv_iconst (v := (1 : Int32)) hx hb dX9_has_3 (by decide) ?_
  refine lv_iand hx hb dX9_has_4 ?_
  refine lv_iconst (v := (1 : Int32)) hx hb dX9_has_5 (by decide) ?_
  refine lv_icmp_ne (tgt := 13) hx hb dX9_has_6 (by decide) (fun c6 => ?_) (fun c6 => ?_)
  · have hw := hw.2 c6
    refine lv_iconst (v := (0 : Int32)) hx hb dX9_has_13 (by decide) ?_
    exact z_zret hx hb hr hlocks rfl () hw hP hS dX9_has_14
  have hw := hw.1 c6
  refine lv_iconst (v := (1 : Int32)) hx hb dX9_has_9 (by decide) ?_
  refine lv_goto (tgt := 14) hx hb dX9_has_10 (by decide) ?_
  exact z_zret hx hb hr hlocks rfl () hw hP hS dX9_has_14
abbrev cw_X9_bits : va_W := []
abbrev q_X9_bits (D : va_G) (post : Int32 → Prop) (A : Nat → Prop) : Array Value → State → Outcome → State → Prop := va_Qi (S := Unit) (fun r _ => post r ) (fun _ t => va_P D vwCl (cw_X9_bits) t.heap) A
abbrev v_X9_bits : List Cond := .code yX9_bits cX9_bits 3 (some .int) :: zB
theorem hd_X9_bits : yX9_bits.cls ≠ "java/lang/invoke/MethodHandle" ∧ yX9_bits.cls ≠ "java/lang/invoke/VarHandle" ∧ (parseMethodDescriptor yX9_bits.desc).map (fun d => d.parameters.length) = some 1 := by decide +kernel
set_option maxHeartbeats 4000000 in
set_option maxRecDepth 100000 in
theorem c_X9_bits (l : Launch) (D : va_G) (cI cC cZ : ClassId) (p0 : Int32) (sz : Nat) (post : Int32 → Prop) (hw : w_X9_bits post p0) : Met l yX9_bits v_X9_bits ({ frames := 0, cells := 0, slots := 0, locals := 0 } : Room) (va_Pc [.int p0] (zPre D (zT cI cC cZ) sz (cw_X9_bits))) (q_X9_bits D post (va_A (cw_X9_bits) sz)) 0 0 (va_A (cw_X9_bits) sz) := by
  refine Met.ofW (cc := cX9_bits) (maxL := 3) (ret := (some .int)) (by decide) rfl ?_
  intro p e s m args below meth c s₁ B hml hv
  obtain ⟨rfl, hsz, hP, hK, hD0⟩ := hv
  subst hsz
  have hx := B.exec
  have hb := B.bytes
  have hr := B.returns
  have hz : ∀ w ∈ zB, w.before _ s = true := fun w h => atoms_spec (ws := v_X9_bits) B.pre w (List.mem_cons_of_mem _ h)
  have hown : s.vm.findClass RX9 = some m.cls := findClass_of_methodNamed B.named
  have hlocks := B.notSynchronized
  have hF : CallFix p m c cX9_bits 3 s (([.int p0] : List Value).toArray) zB RX9 := ⟨hx, hb, hml, hown, hz⟩
  have hD := hD0.self (sz := s.heap.size)
  generalize hAe : va_A (cw_X9_bits) s.heap.size = A at hD ⊢
  have hA : ∀ q : Nat, s.heap.size ≤ q → A q := fun q h => by rw [← hAe]; exact Or.inr h
  have hS : va_S A s.heap s.heap [] := va_S.rf
  have hP : va_P D vwCl (cw_X9_bits) s.heap := hP
  have hl := lv_entry ([.int p0]) (n := 3) (Nat.le_of_ble_eq_true rfl)
  rw [lg_entry_eq]
  generalize (lg_sl ([.int p0]) ++ List.replicate (3 - (lg_sl ([.int p0])).length) Slot.unset).toArray = ls at hl ⊢
  have hl : lv_has ls 3 [(0, .int p0)] := hl
  have L4 : ∀ (n4 : Nat) (x1 : Int32) (x2 : Int32) (H : Heap) (locs : List Loc) (ls : Array Slot) (hw : w_X9_bits_B4 post p0 n4 x1 x2) (hP : va_P D vwCl (cw_X9_bits) H) (hD : va_D A (cw_X9_bits)) (hS : va_S A s.heap H locs) (hl : lv_has ls 3 [(0, .int p0), (1, .int x1), (2, .int x2)]), W p l e (headSpec v_X9_bits ({ frames := 0, cells := 0, slots := 0, locals := 0 } : Room)).room s m (([.int p0] : List Value).toArray) below meth c H locs 0 0 (MQ below (q_X9_bits D post A) (([.int p0] : List Value).toArray) s 0 0 A) (F0 m 4 ls []) := by
    intro n4
    induction n4 with
    | zero => intro x1 x2 H locs ls hw; exact False.elim hw
    | succ n4 ih4 =>
      intro x1 x2 H locs ls hw hP hD hS hl
      unfold w_X9_bits_B4 at hw
      refine lv_iload_n hx hb dX9_bits_4 rfl (lv_at hl 2 rfl) ?_
      refine lv_bipush (v := (12 : Int32)) hx hb dX9_bits_5 (by decide) ?_
      refine lv_icmp_ge (tgt := 24) hx hb dX9_bits_7 (by decide) (fun c7 => ?_) (fun c7 => ?_)
      · have hw := hw.1 c7
        refine lv_iload_n hx hb dX9_bits_24 rfl (lv_at hl 1 rfl) ?_
        exact z_iret hx hb hr hlocks () hw hP hS dX9_bits_25
      have hw := hw.2 c7
      refine lv_iload_n hx hb dX9_bits_10 rfl (lv_at hl 1 rfl) ?_
      refine lv_iload_n hx hb dX9_bits_11 rfl (lv_at hl 0 rfl) ?_
      refine lv_iload_n hx hb dX9_bits_12 rfl (lv_at hl 2 rfl) ?_
      refine lv_ishr hx hb dX9_bits_13 ?_
      refine lv_iconst (v := (1 : Int32)) hx hb dX9_bits_14 (by decide) ?_
      refine lv_iand hx hb dX9_bits_15 ?_
      refine lv_iadd hx hb dX9_bits_16 ?_
      refine lv_topi (fun y17 ey17 => ?_)
      have hw := hw y17 ey17
      refine lv_istore_n (lv' := [(1, .int y17), (0, .int p0), (2, .int x2)]) hx hb dX9_bits_17 rfl hl (by decide) rfl (fun ls hl => ?_)
      refine lv_iinc (k := 2) (v := (x2 + 1)) (lv' := [(2, .int (x2 + 1)), (1, .int y17), (0, .int p0)]) hx hb dX9_bits_18 hl rfl rfl (by decide) rfl (fun ls hl => ?_)
      refine lv_goto (tgt := 4) hx hb dX9_bits_21 (by decide) ?_
      exact ih4 y17 (x2 + 1) _ _ _ hw hP hD hS (lv_sub hl [2, 1, 0] rfl)
  unfold w_X9_bits at hw
  refine lv_iconst (v := (0 : Int32)) hx hb dX9_bits_0 (by decide) ?_
  refine lv_istore_n (lv' := [(1, .int (0 : Int32)), (0, .int p0)]) hx hb dX9_bits_1 rfl hl (by decide) rfl (fun ls hl => ?_)
  refine lv_iconst (v := (0 : Int32)) hx hb dX9_bits_2 (by decide) ?_
  refine lv_istore_n (lv' := [(2, .int (0 : Int32)), (1, .int (0 : Int32)), (0, .int p0)]) hx hb dX9_bits_3 rfl hl (by decide) rfl (fun ls hl => ?_)
  obtain ⟨n4, hw⟩ := hw
  exact L4 n4 (0 : Int32) (0 : Int32) _ _ _ hw hP hD hS (lv_sub hl [2, 1, 0] rfl)
abbrev cw_X9_isCell : va_W := []
abbrev q_X9_isCell (D : va_G) (post : Int32 → Prop) (A : Nat → Prop) : Array Value → State → Outcome → State → Prop := va_Qi (S := Unit) (fun r _ => narrow .boolean (.int r) = .int r ∧ post r ) (fun _ t => va_P D vwCl (cw_X9_isCell) t.heap) A
abbrev v_X9_isCell : List Cond := .code yX9_isCell cX9_isCell 1 (some .boolean) :: zB
theorem hd_X9_isCell : yX9_isCell.cls ≠ "java/lang/invoke/MethodHandle" ∧ yX9_isCell.cls ≠ "java/lang/invoke/VarHandle" ∧ (parseMethodDescriptor yX9_isCell.desc).map (fun d => d.parameters.length) = some 1 := by decide +kernel
set_option maxHeartbeats 4000000 in
set_option maxRecDepth 100000 in
theorem c_X9_isCell (l : Launch) (D : va_G) (cI cC cZ : ClassId) (p0 : Int32) (sz : Nat) (post : Int32 → Prop) (hw : w_X9_isCell post p0) : Met l yX9_isCell v_X9_isCell ({ frames := 1, cells := 0, slots := 0, locals := 22 } : Room) (va_Pc [.int p0] (zPre D (zT cI cC cZ) sz (cw_X9_isCell))) (q_X9_isCell D post (va_A (cw_X9_isCell) sz)) 0 0 (va_A (cw_X9_isCell) sz) := by
  refine Met.ofW (cc := cX9_isCell) (maxL := 1) (ret := (some .boolean)) (by decide) rfl ?_
  intro p e s m args below meth c s₁ B hml hv
  obtain ⟨rfl, hsz, hP, hK, hD0⟩ := hv
  subst hsz
  have hx := B.exec
  have hb := B.bytes
  have hr := B.returns
  have hz : ∀ w ∈ zB, w.before _ s = true := fun w h => atoms_spec (ws := v_X9_isCell) B.pre w (List.mem_cons_of_mem _ h)
  have hown : s.vm.findClass RX9 = some m.cls := findClass_of_methodNamed B.named
  have hlocks := B.notSynchronized
  have hF : CallFix p m c cX9_isCell 1 s (([.int p0] : List Value).toArray) zB RX9 := ⟨hx, hb, hml, hown, hz⟩
  have hD := hD0.self (sz := s.heap.size)
  generalize hAe : va_A (cw_X9_isCell) s.heap.size = A at hD ⊢
  have hA : ∀ q : Nat, s.heap.size ≤ q → A q := fun q h => by rw [← hAe]; exact Or.inr h
  have hS : va_S A s.heap s.heap [] := va_S.rf
  have hP : va_P D vwCl (cw_X9_isCell) s.heap := hP
  have hl := lv_entry ([.int p0]) (n := 1) (Nat.le_of_ble_eq_true rfl)
  rw [lg_entry_eq]
  generalize (lg_sl ([.int p0]) ++ List.replicate (1 - (lg_sl ([.int p0])).length) Slot.unset).toArray = ls at hl ⊢
  have hl : lv_has ls 1 [(0, .int p0)] := hl
  unfold w_X9_isCell at hw
  refine lv_iload_n hx hb dX9_isCell_0 rfl (lv_at hl 0 rfl) ?_
  refine lv_iconst (v := (0 : Int32)) hx hb dX9_isCell_1 (by decide) ?_
  refine lv_bipush (v := (11 : Int32)) hx hb dX9_isCell_2 (by decide) ?_
  refine z_ri (z_runS (As := [.int p0, .int (0 : Int32), .int (11 : Int32)]) (rest := []) hF (c_X9_in l D cI cC cZ p0 (0 : Int32) (11 : Int32) _ _ hw) (va_cwS 3 hz (z_gS z3_225 z3_226 z1_10 z3_227) rfl rfl rfl hd_X9_in ⟨Nat.le_of_ble_eq_true rfl, Nat.le_of_ble_eq_true rfl⟩) hK hP hD [] rfl rfl rfl hl.1 rfl (Nat.le_of_ble_eq_true rfl) dX9_isCell_4 ⟨Nat.zero_le _, Nat.zero_le _⟩) hP hD hS hA [] rfl (fun _ => rfl) (fun _ => cw_X9_isCell) (fun _ => rfl) (fun r4 u4 H locs hw hP hD hS => ?_)
  obtain ⟨hn4, hw⟩ := hw
  try dsimp only at hw
  exact z_zret hx hb hr hlocks hn4 () hw hP hS dX9_isCell_7
abbrev cw_X9_isThere (cI : ClassId) (h h_book : Nat) (g_now g_places g_power g_spite g_ways g_milky g_sights g_sight g_signs g_pad g_offAt g_offWho g_reason g_acts g_enough g_rows g_counts g_pours g_image g_isKept : Value) (f_book : Nat → Int32) : va_W := [(h, .inr (9, [.ref h_book, g_now, g_places, g_power, g_spite, g_ways, g_milky, g_sights, g_sight, g_signs, g_pad, g_offAt, g_offWho, g_reason, g_acts, g_enough, g_rows, g_counts, g_pours, g_image, g_isKept])), (h_book, .inl (cI, 12, .inl f_book))]
abbrev q_X9_isThere (D : va_G) (cI : ClassId) (h h_book : Nat) (g_now g_places g_power g_spite g_ways g_milky g_sights g_sight g_signs g_pad g_offAt g_offWho g_reason g_acts g_enough g_rows g_counts g_pours g_image g_isKept : Value) (post : Int32 → Prop) (f_book : Nat → Int32) (A : Nat → Prop) : Array Value → State → Outcome → State → Prop := va_Qi (S := Unit) (fun r _ => narrow .boolean (.int r) = .int r ∧ post r ) (fun _ t => va_P D vwCl (cw_X9_isThere cI h h_book g_now g_places g_power g_spite g_ways g_milky g_sights g_sight g_signs g_pad g_offAt g_offWho g_reason g_acts g_enough g_rows g_counts g_pours g_image g_isKept f_book) t.heap) A
abbrev v_X9_isThere : List Cond := .code yX9_isThere cX9_isThere 2 (some .boolean) :: zB
theorem hd_X9_isThere : yX9_isThere.cls = RX9 ∧ yX9_isThere.cls ≠ "java/lang/invoke/MethodHandle" ∧ yX9_isThere.cls ≠ "java/lang/invoke/VarHandle" ∧ (parseMethodDescriptor yX9_isThere.desc).map (fun d => d.parameters.length) = some 1 := by decide +kernel
set_option maxHeartbeats 4000000 in
set_option maxRecDepth 100000 in
theorem c_X9_isThere (l : Launch) (D : va_G) (cI cC cZ : ClassId) (h h_book : Nat) (g_now g_places g_power g_spite g_ways g_milky g_sights g_sight g_signs g_pad g_offAt g_offWho g_reason g_acts g_enough g_rows g_counts g_pours g_image g_isKept : Value) (f_book : Nat → Int32) (p1 : Int32) (sz : Nat) (post : Int32 → Prop) (hw : w_X9_isThere post f_book p1) : Met l yX9_isThere v_X9_isThere ({ frames := 1, cells := 0, slots := 0, locals := 22 } : Room) (va_Pc [.ref h, .int p1] (zPre D (zT cI cC cZ) sz (cw_X9_isThere cI h h_book g_now g_places g_power g_spite g_ways g_milky g_sights g_sight g_signs g_pad g_offAt g_offWho g_reason g_acts g_enough g_rows g_counts g_pours g_image g_isKept f_book))) (q_X9_isThere D cI h h_book g_now g_places g_power g_spite g_ways g_milky g_sights g_sight g_signs g_pad g_offAt g_offWho g_reason g_acts g_enough g_rows g_counts g_pours g_image g_isKept post f_book (va_A (cw_X9_isThere cI h h_book g_now g_places g_power g_spite g_ways g_milky g_sights g_sight g_signs g_pad g_offAt g_offWho g_reason g_acts g_enough g_rows g_counts g_pours g_image g_isKept f_book) sz)) 0 0 (va_A (cw_X9_isThere cI h h_book g_now g_places g_power g_spite g_ways g_milky g_sights g_sight g_signs g_pad g_offAt g_offWho g_reason g_acts g_enough g_rows g_counts g_pours g_image g_isKept f_book) sz) := by
  refine Met.ofW (cc := cX9_isThere) (maxL := 2) (ret := (some .boolean)) (by decide) rfl ?_
  intro p e s m args below meth c s₁ B hml hv
  obtain ⟨rfl, hsz, hP, hK, hD0⟩ := hv
  subst hsz
  have hx := B.exec
  have hb := B.bytes
  have hr := B.returns
  have hz : ∀ w ∈ zB, w.before _ s = true := fun w h => atoms_spec (ws := v_X9_isThere) B.pre w (List.mem_cons_of_mem _ h)
  have hown : s.vm.findClass RX9 = some m.cls := findClass_of_methodNamed B.named
  have hlocks := B.notSynchronized
  have hF : CallFix p m c cX9_isThere 2 s (([.ref h, .int p1] : List Value).toArray) zB RX9 := ⟨hx, hb, hml, hown, hz⟩
  have hD := hD0.self (sz := s.heap.size)
  generalize hAe : va_A (cw_X9_isThere cI h h_book g_now g_places g_power g_spite g_ways g_milky g_sights g_sight g_signs g_pad g_offAt g_offWho g_reason g_acts g_enough g_rows g_counts g_pours g_image g_isKept f_book) s.heap.size = A at hD ⊢
  have hA : ∀ q : Nat, s.heap.size ≤ q → A q := fun q h => by rw [← hAe]; exact Or.inr h
  have hS : va_S A s.heap s.heap [] := va_S.rf
  have hP : va_P D vwCl (cw_X9_isThere cI h h_book g_now g_places g_power g_spite g_ways g_milky g_sights g_sight g_signs g_pad g_offAt g_offWho g_reason g_acts g_enough g_rows g_counts g_pours g_image g_isKept f_book) s.heap := hP
  have hl := lv_entry ([.ref h, .int p1]) (n := 2) (Nat.le_of_ble_eq_true rfl)
  rw [lg_entry_eq]
  generalize (lg_sl ([.ref h, .int p1]) ++ List.replicate (2 - (lg_sl ([.ref h, .int p1])).length) Slot.unset).toArray = ls at hl ⊢
  have hl : lv_has ls 2 [(0, .ref h), (1, .int p1)] := hl
  have J28 : ∀ (H : Heap) (locs : List Loc) (ls : Array Slot) (hw : w_X9_isThere_B28 post f_book p1) (hP : va_P D vwCl (cw_X9_isThere cI h h_book g_now g_places g_power g_spite g_ways g_milky g_sights g_sight g_signs g_pad g_offAt g_offWho g_reason g_acts g_enough g_rows g_counts g_pours g_image g_isKept f_book) H) (hD : va_D A (cw_X9_isThere cI h h_book g_now g_places g_power g_spite g_ways g_milky g_sights g_sight g_signs g_pad g_offAt g_offWho g_reason g_acts g_enough g_rows g_counts g_pours g_image g_isKept f_book)) (hS : va_S A s.heap H locs) (hl : lv_has ls 2 []), W p l e (headSpec v_X9_isThere ({ frames := 1, cells := 0, slots := 0, locals := 22 } : Room)).room s m (([.ref h, .int p1] : List Value).toArray) below meth c H locs 0 0 (MQ below (q_X9_isThere D cI h h_book g_now g_places g_power g_spite g_ways g_milky g_sights g_sight g_signs g_pad g_offAt g_offWho g_reason g_acts g_enough g_rows g_counts g_pours g_image g_isKept post f_book A) (([.ref h, .int p1] : List Value).toArray) s 0 0 A) (F0 m 28 ls []) := by
    intro H locs ls hw hP hD hS hl
    unfold w_X9_isThere_B28 at hw
    refine lv_iconst (v := (0 : Int32)) hx hb dX9_isThere_28 (by decide) ?_
    exact z_zret hx hb hr hlocks rfl () hw hP hS dX9_isThere_29
  unfold w_X9_isThere at hw
  refine lv_iload_n hx hb dX9_isThere_0 rfl (lv_at hl 1 rfl) ?_
  refine lv_iconst (v := (0 : Int32)) hx hb dX9_isThere_1 (by decide) ?_
  refine lv_bipush (v := (7 : Int32)) hx hb dX9_isThere_2 (by decide) ?_
  refine z_ri (z_runS (As := [.int p1, .int (0 : Int32), .int (7 : Int32)]) (rest := []) hF (c_X9_in l D cI cC cZ p1 (0 : Int32) (7 : Int32) _ _ hw) (va_cwS 3 hz (z_gS z3_225 z3_226 z1_10 z3_227) rfl rfl rfl hd_X9_in ⟨Nat.le_of_ble_eq_true rfl, Nat.le_of_ble_eq_true rfl⟩) hK hP hD [] rfl rfl rfl hl.1 rfl (Nat.le_of_ble_eq_true rfl) dX9_isThere_4 ⟨Nat.zero_le _, Nat.zero_le _⟩) hP hD hS hA [] rfl (fun _ => rfl) (fun _ => cw_X9_isThere cI h h_book g_now g_places g_power g_spite g_ways g_milky g_sights g_sight g_signs g_pad g_offAt g_offWho g_reason g_acts g_enough g_rows g_counts g_pours g_image g_isKept f_book) (fun _ => rfl) (fun r4 u4 H locs hw hP hD hS => ?_)
  obtain ⟨hn4, hw⟩ := hw
  try dsimp only at hw
  refine lv_if_eq (tgt := 28) hx hb dX9_isThere_7 (by decide) (fun c7 => ?_) (fun c7 => ?_)
  · have hw := hw.1 c7
    exact J28 _ _ _ hw hP hD hS (lv_sub hl [] rfl)
  have hw := hw.2 c7
  refine lv_aload_n hx hb dX9_isThere_10 rfl (lv_at hl 0 rfl) ?_
  refine va_get (D := D) (ci := 9) (v := .ref h_book) (C := RX9) (T := TX9) (N := 21) hx hb hz hX_X9 hown hK.1 hP 0 rfl rfl 0 (by decide) (hz _ z3_156) (fun _ h9 => h9) rfl dX9_isThere_11 ?_
  refine lv_bipush (v := (8 : Int32)) hx hb dX9_isThere_14 (by decide) ?_
  refine va_iald hx hb hK.1 hP 1 0 rfl rfl (z_in rfl) dX9_isThere_16 ?_
  refine lv_iload_n hx hb dX9_isThere_17 rfl (lv_at hl 1 rfl) ?_
  refine z_ri (z_runS (As := [.int (f_book (8 : Int32).toNatClampNeg), .int p1]) (rest := []) hF (c_X9_has l D cI cC cZ (f_book (8 : Int32).toNatClampNeg) p1 _ _ hw) (va_cwS 2 hz (z_gS z4_42 z4_43 z1_10 z4_44) rfl rfl rfl hd_X9_has ⟨Nat.le_of_ble_eq_true rfl, Nat.le_of_ble_eq_true rfl⟩) hK hP hD [] rfl rfl rfl hl.1 rfl (Nat.le_of_ble_eq_true rfl) dX9_isThere_18 ⟨Nat.zero_le _, Nat.zero_le _⟩) hP hD hS hA [] rfl (fun _ => rfl) (fun _ => cw_X9_isThere cI h h_book g_now g_places g_power g_spite g_ways g_milky g_sights g_sight g_signs g_pad g_offAt g_offWho g_reason g_acts g_enough g_rows g_counts g_pours g_image g_isKept f_book) (fun _ => rfl) (fun r18 u18 H locs hw hP hD hS => ?_)
  obtain ⟨hn18, hw⟩ := hw
  try dsimp only at hw
  refine lv_if_eq (tgt := 28) hx hb dX9_isThere_21 (by decide) (fun c21 => ?_) (fun c21 => ?_)
  · have hw := hw.1 c21
    exact J28 _ _ _ hw hP hD hS (lv_sub hl [] rfl)
  have hw := hw.2 c21
  refine lv_iconst (v := (1 : Int32)) hx hb dX9_isThere_24 (by decide) ?_
  refine lv_goto (tgt := 29) hx hb dX9_isThere_25 (by decide) ?_
  exact z_zret hx hb hr hlocks rfl () hw hP hS dX9_isThere_29
abbrev cw_X9_witness (cI : ClassId) (h h_book h_places : Nat) (g_now g_power g_spite g_ways g_milky g_sights g_sight g_signs g_pad g_offAt g_offWho g_reason g_acts g_enough g_rows g_counts g_pours g_image g_isKept : Value) (f_book : Nat → Int32) (f_places : Nat → Int32) : va_W := [(h, .inr (9, [.ref h_book, g_now, .ref h_places, g_power, g_spite, g_ways, g_milky, g_sights, g_sight, g_signs, g_pad, g_offAt, g_offWho, g_reason, g_acts, g_enough, g_rows, g_counts, g_pours, g_image, g_isKept])), (h_book, .inl (cI, 12, .inl f_book)), (h_places, .inl (cI, 8, .inl f_places))]
abbrev q_X9_witness (D : va_G) (cI : ClassId) (h h_book h_places : Nat) (g_now g_power g_spite g_ways g_milky g_sights g_sight g_signs g_pad g_offAt g_offWho g_reason g_acts g_enough g_rows g_counts g_pours g_image g_isKept : Value) (post : Int32 → (Nat → Int32) → (Nat → Int32) → Prop) (A : Nat → Prop) : Array Value → State → Outcome → State → Prop := va_Qi (S := (Nat → Int32) × (Nat → Int32)) (fun r u => post r u.1 u.2) (fun u t => va_P D vwCl (cw_X9_witness cI h h_book h_places g_now g_power g_spite g_ways g_milky g_sights g_sight g_signs g_pad g_offAt g_offWho g_reason g_acts g_enough g_rows g_counts g_pours g_image g_isKept u.1 u.2) t.heap) A
abbrev v_X9_witness : List Cond := .code yX9_witness cX9_witness 5 (some .int) :: zB
theorem hd_X9_witness : yX9_witness.cls = RX9 ∧ yX9_witness.cls ≠ "java/lang/invoke/MethodHandle" ∧ yX9_witness.cls ≠ "java/lang/invoke/VarHandle" ∧ (parseMethodDescriptor yX9_witness.desc).map (fun d => d.parameters.length) = some 4 := by decide +kernel
set_option maxHeartbeats 4000000 in
set_option maxRecDepth 100000 in
theorem c_X9_witness (l : Launch) (D : va_G) (cI cC cZ : ClassId) (h h_book h_places : Nat) (g_now g_power g_spite g_ways g_milky g_sights g_sight g_signs g_pad g_offAt g_offWho g_reason g_acts g_enough g_rows g_counts g_pours g_image g_isKept : Value) (f_book : Nat → Int32) (f_places : Nat → Int32) (p1 : Int32) (p2 : Int32) (p3 : Int32) (p4 : Int32) (sz : Nat) (post : Int32 → (Nat → Int32) → (Nat → Int32) → Prop) (hw : w_X9_witness post f_book f_places p1 p2 p3 p4) : Met l yX9_witness v_X9_witness ({ frames := 1, cells := 0, slots := 0, locals := 22 } : Room) (va_Pc [.ref h, .int p1, .int p2, .int p3, .int p4] (zPre D (zT cI cC cZ) sz (cw_X9_witness cI h h_book h_places g_now g_power g_spite g_ways g_milky g_sights g_sight g_signs g_pad g_offAt g_offWho g_reason g_acts g_enough g_rows g_counts g_pours g_image g_isKept f_book f_places))) (q_X9_witness D cI h h_book h_places g_now g_power g_spite g_ways g_milky g_sights g_sight g_signs g_pad g_offAt g_offWho g_reason g_acts g_enough g_rows g_counts g_pours g_image g_isKept post (va_A (cw_X9_witness cI h h_book h_places g_now g_power g_spite g_ways g_milky g_sights g_sight g_signs g_pad g_offAt g_offWho g_reason g_acts g_enough g_rows g_counts g_pours g_image g_isKept f_book f_places) sz)) 0 0 (va_A (cw_X9_witness cI h h_book h_places g_now g_power g_spite g_ways g_milky g_sights g_sight g_signs g_pad g_offAt g_offWho g_reason g_acts g_enough g_rows g_counts g_pours g_image g_isKept f_book f_places) sz) := by
  refine Met.ofW (cc := cX9_witness) (maxL := 5) (ret := (some .int)) (by decide) rfl ?_
  intro p e s m args below meth c s₁ B hml hv
  obtain ⟨rfl, hsz, hP, hK, hD0⟩ := hv
  subst hsz
  have hx := B.exec
  have hb := B.bytes
  have hr := B.returns
  have hz : ∀ w ∈ zB, w.before _ s = true := fun w h => atoms_spec (ws := v_X9_witness) B.pre w (List.mem_cons_of_mem _ h)
  have hown : s.vm.findClass RX9 = some m.cls := findClass_of_methodNamed B.named
  have hlocks := B.notSynchronized
  have hF : CallFix p m c cX9_witness 5 s (([.ref h, .int p1, .int p2, .int p3, .int p4] : List Value).toArray) zB RX9 := ⟨hx, hb, hml, hown, hz⟩
  have hD := hD0.self (sz := s.heap.size)
  generalize hAe : va_A (cw_X9_witness cI h h_book h_places g_now g_power g_spite g_ways g_milky g_sights g_sight g_signs g_pad g_offAt g_offWho g_reason g_acts g_enough g_rows g_counts g_pours g_image g_isKept f_book f_places) s.heap.size = A at hD ⊢
  have hA : ∀ q : Nat, s.heap.size ≤ q → A q := fun q h => by rw [← hAe]; exact Or.inr h
  have hS : va_S A s.heap s.heap [] := va_S.rf
  have hP : va_P D vwCl (cw_X9_witness cI h h_book h_places g_now g_power g_spite g_ways g_milky g_sights g_sight g_signs g_pad g_offAt g_offWho g_reason g_acts g_enough g_rows g_counts g_pours g_image g_isKept f_book f_places) s.heap := hP
  have hl := lv_entry ([.ref h, .int p1, .int p2, .int p3, .int p4]) (n := 5) (Nat.le_of_ble_eq_true rfl)
  rw [lg_entry_eq]
  generalize (lg_sl ([.ref h, .int p1, .int p2, .int p3, .int p4]) ++ List.replicate (5 - (lg_sl ([.ref h, .int p1, .int p2, .int p3, .int p4])).length) Slot.unset).toArray = ls at hl ⊢
  have hl : lv_has ls 5 [(0, .ref h), (1, .int p1), (2, .int p2), (3, .int p3), (4, .int p4)] := hl
  have J98 : ∀ (f_book : Nat → Int32) (f_places : Nat → Int32) (s1 : Int32) (s2 : Int32) (s3 : Int32) (H : Heap) (locs : List Loc) (ls : Array Slot) (hw : w_X9_witness_B98 post p1 p2 p3 p4 f_book f_places s1 s2 s3) (hP : va_P D vwCl (cw_X9_witness cI h h_book h_places g_now g_power g_spite g_ways g_milky g_sights g_sight g_signs g_pad g_offAt g_offWho g_reason g_acts g_enough g_rows g_counts g_pours g_image g_isKept f_book f_places) H) (hD : va_D A (cw_X9_witness cI h h_book h_places g_now g_power g_spite g_ways g_milky g_sights g_sight g_signs g_pad g_offAt g_offWho g_reason g_acts g_enough g_rows g_counts g_pours g_image g_isKept f_book f_places)) (hS : va_S A s.heap H locs) (hl : lv_has ls 5 [(0, .ref h)]), W p l e (headSpec v_X9_witness ({ frames := 1, cells := 0, slots := 0, locals := 22 } : Room)).room s m (([.ref h, .int p1, .int p2, .int p3, .int p4] : List Value).toArray) below meth c H locs 0 0 (MQ below (q_X9_witness D cI h h_book h_places g_now g_power g_spite g_ways g_milky g_sights g_sight g_signs g_pad g_offAt g_offWho g_reason g_acts g_enough g_rows g_counts g_pours g_image g_isKept post A) (([.ref h, .int p1, .int p2, .int p3, .int p4] : List Value).toArray) s 0 0 A) (F0 m 98 ls [.int s3, .int s2, .int s1, .ref h_book]) := by
    intro f_book f_places s1 s2 s3 H locs ls hw hP hD hS hl
    unfold w_X9_witness_B98 at hw
    refine lv_ior hx hb dX9_witness_98 ?_
    obtain ⟨hi99, hw⟩ := hw
    refine va_iast hx hb hK.1 hP hD hS 1 0 rfl rfl hi99 dX9_witness_99 (fun H locs hP hD hS => ?_)
    have hP : va_P D vwCl (cw_X9_witness cI h h_book h_places g_now g_power g_spite g_ways g_milky g_sights g_sight g_signs g_pad g_offAt g_offWho g_reason g_acts g_enough g_rows g_counts g_pours g_image g_isKept (upd f_book s1.toNatClampNeg (s2 ||| s3)) f_places) H := hP
    have hD : va_D A (cw_X9_witness cI h h_book h_places g_now g_power g_spite g_ways g_milky g_sights g_sight g_signs g_pad g_offAt g_offWho g_reason g_acts g_enough g_rows g_counts g_pours g_image g_isKept (upd f_book s1.toNatClampNeg (s2 ||| s3)) f_places) := hD
    refine lv_aload_n hx hb dX9_witness_100 rfl (lv_at hl 0 rfl) ?_
    refine va_get (D := D) (ci := 9) (v := .ref h_book) (C := RX9) (T := TX9) (N := 21) hx hb hz hX_X9 hown hK.1 hP 0 rfl rfl 0 (by decide) (hz _ z3_156) (fun _ h9 => h9) rfl dX9_witness_101 ?_
    refine lv_bipush (v := (8 : Int32)) hx hb dX9_witness_104 (by decide) ?_
    refine va_iald hx hb hK.1 hP 1 0 rfl rfl (z_in rfl) dX9_witness_106 ?_
    refine z_ri (z_runS (As := [.int ((upd f_book s1.toNatClampNeg (s2 ||| s3)) (8 : Int32).toNatClampNeg)]) (rest := []) hF (c_X9_bits l D cI cC cZ ((upd f_book s1.toNatClampNeg (s2 ||| s3)) (8 : Int32).toNatClampNeg) _ _ hw) (va_cwS 1 hz (z_gS z3_228 z3_229 z1_10 z3_230) rfl rfl rfl hd_X9_bits ⟨Nat.le_of_ble_eq_true rfl, Nat.le_of_ble_eq_true rfl⟩) hK hP hD [] rfl rfl rfl hl.1 rfl (Nat.le_of_ble_eq_true rfl) dX9_witness_107 ⟨Nat.zero_le _, Nat.zero_le _⟩) hP hD hS hA [] rfl (fun _ => rfl) (fun _ => cw_X9_witness cI h h_book h_places g_now g_power g_spite g_ways g_milky g_sights g_sight g_signs g_pad g_offAt g_offWho g_reason g_acts g_enough g_rows g_counts g_pours g_image g_isKept (upd f_book s1.toNatClampNeg (s2 ||| s3)) f_places) (fun _ => rfl) (fun r107 u107 H locs hw hP hD hS => ?_)
    try dsimp only at hw
    exact z_iret hx hb hr hlocks ((upd f_book s1.toNatClampNeg (s2 ||| s3)), f_places) hw hP hS dX9_witness_110
  unfold w_X9_witness at hw
  refine lv_iload_n hx hb dX9_witness_0 rfl (lv_at hl 1 rfl) ?_
  refine lv_iconst (v := (0 : Int32)) hx hb dX9_witness_1 (by decide) ?_
  refine lv_bipush (v := (7 : Int32)) hx hb dX9_witness_2 (by decide) ?_
  refine z_ri (z_runS (As := [.int p1, .int (0 : Int32), .int (7 : Int32)]) (rest := []) hF (c_X9_in l D cI cC cZ p1 (0 : Int32) (7 : Int32) _ _ hw) (va_cwS 3 hz (z_gS z3_225 z3_226 z1_10 z3_227) rfl rfl rfl hd_X9_in ⟨Nat.le_of_ble_eq_true rfl, Nat.le_of_ble_eq_true rfl⟩) hK hP hD [] rfl rfl rfl hl.1 rfl (Nat.le_of_ble_eq_true rfl) dX9_witness_4 ⟨Nat.zero_le _, Nat.zero_le _⟩) hP hD hS hA [] rfl (fun _ => rfl) (fun _ => cw_X9_witness cI h h_book h_places g_now g_power g_spite g_ways g_milky g_sights g_sight g_signs g_pad g_offAt g_offWho g_reason g_acts g_enough g_rows g_counts g_pours g_image g_isKept f_book f_places) (fun _ => rfl) (fun r4 u4 H locs hw hP hD hS => ?_)
  obtain ⟨hn4, hw⟩ := hw
  try dsimp only at hw
  refine lv_if_ne (tgt := 12) hx hb dX9_witness_7 (by decide) (fun c7 => ?_) (fun c7 => ?_)
  · have hw := hw.2 c7
    refine lv_iload_n hx hb dX9_witness_12 rfl (lv_at hl 2 rfl) ?_
    refine lv_iconst (v := (0 : Int32)) hx hb dX9_witness_13 (by decide) ?_
    refine lv_bipush (v := (15 : Int32)) hx hb dX9_witness_14 (by decide) ?_
    refine z_ri (z_runS (As := [.int p2, .int (0 : Int32), .int (15 : Int32)]) (rest := []) hF (c_X9_in l D cI cC cZ p2 (0 : Int32) (15 : Int32) _ _ hw) (va_cwS 3 hz (z_gS z3_225 z3_226 z1_10 z3_227) rfl rfl rfl hd_X9_in ⟨Nat.le_of_ble_eq_true rfl, Nat.le_of_ble_eq_true rfl⟩) hK hP hD [] rfl rfl rfl hl.1 rfl (Nat.le_of_ble_eq_true rfl) dX9_witness_16 ⟨Nat.zero_le _, Nat.zero_le _⟩) hP hD hS hA [] rfl (fun _ => rfl) (fun _ => cw_X9_witness cI h h_book h_places g_now g_power g_spite g_ways g_milky g_sights g_sight g_signs g_pad g_offAt g_offWho g_reason g_acts g_enough g_rows g_counts g_pours g_image g_isKept f_book f_places) (fun _ => rfl) (fun r16 u16 H locs hw hP hD hS => ?_)
    obtain ⟨hn16, hw⟩ := hw
    try dsimp only at hw
    refine lv_if_eq (tgt := 33) hx hb dX9_witness_19 (by decide) (fun c19 => ?_) (fun c19 => ?_)
    · have hw := hw.1 c19
      refine lv_bipush (v := (-2 : Int32)) hx hb dX9_witness_33 (by decide) ?_
      exact z_iret hx hb hr hlocks (f_book, f_places) hw hP hS dX9_witness_35
    have hw := hw.2 c19
    refine lv_iload hx hb dX9_witness_22 (lv_at hl 4 rfl) ?_
    refine lv_iconst (v := (0 : Int32)) hx hb dX9_witness_24 (by decide) ?_
    refine lv_bipush (v := (99 : Int32)) hx hb dX9_witness_25 (by decide) ?_
    refine z_ri (z_runS (As := [.int p4, .int (0 : Int32), .int (99 : Int32)]) (rest := []) hF (c_X9_in l D cI cC cZ p4 (0 : Int32) (99 : Int32) _ _ hw) (va_cwS 3 hz (z_gS z3_225 z3_226 z1_10 z3_227) rfl rfl rfl hd_X9_in ⟨Nat.le_of_ble_eq_true rfl, Nat.le_of_ble_eq_true rfl⟩) hK hP hD [] rfl rfl rfl hl.1 rfl (Nat.le_of_ble_eq_true rfl) dX9_witness_27 ⟨Nat.zero_le _, Nat.zero_le _⟩) hP hD hS hA [] rfl (fun _ => rfl) (fun _ => cw_X9_witness cI h h_book h_places g_now g_power g_spite g_ways g_milky g_sights g_sight g_signs g_pad g_offAt g_offWho g_reason g_acts g_enough g_rows g_counts g_pours g_image g_isKept f_book f_places) (fun _ => rfl) (fun r27 u27 H locs hw hP hD hS => ?_)
    obtain ⟨hn27, hw⟩ := hw
    try dsimp only at hw
    refine lv_if_ne (tgt := 36) hx hb dX9_witness_30 (by decide) (fun c30 => ?_) (fun c30 => ?_)
    · have hw := hw.2 c30
      refine lv_aload_n hx hb dX9_witness_36 rfl (lv_at hl 0 rfl) ?_
      refine va_get (D := D) (ci := 9) (v := .ref h_places) (C := RX9) (T := TX9) (N := 21) hx hb hz hX_X9 hown hK.1 hP 0 rfl rfl 2 (by decide) (hz _ z3_158) (fun _ h9 => h9) rfl dX9_witness_37 ?_
      refine lv_iload_n hx hb dX9_witness_40 rfl (lv_at hl 1 rfl) ?_
      refine lv_iload_n hx hb dX9_witness_41 rfl (lv_at hl 2 rfl) ?_
      obtain ⟨hi42, hw⟩ := hw
      refine va_iast hx hb hK.1 hP hD hS 2 0 rfl rfl hi42 dX9_witness_42 (fun H locs hP hD hS => ?_)
      have hP : va_P D vwCl (cw_X9_witness cI h h_book h_places g_now g_power g_spite g_ways g_milky g_sights g_sight g_signs g_pad g_offAt g_offWho g_reason g_acts g_enough g_rows g_counts g_pours g_image g_isKept f_book (upd f_places p1.toNatClampNeg p2)) H := hP
      have hD : va_D A (cw_X9_witness cI h h_book h_places g_now g_power g_spite g_ways g_milky g_sights g_sight g_signs g_pad g_offAt g_offWho g_reason g_acts g_enough g_rows g_counts g_pours g_image g_isKept f_book (upd f_places p1.toNatClampNeg p2)) := hD
      refine lv_aload_n hx hb dX9_witness_43 rfl (lv_at hl 0 rfl) ?_
      refine va_get (D := D) (ci := 9) (v := .ref h_book) (C := RX9) (T := TX9) (N := 21) hx hb hz hX_X9 hown hK.1 hP 0 rfl rfl 0 (by decide) (hz _ z3_156) (fun _ h9 => h9) rfl dX9_witness_44 ?_
      refine lv_iload_n hx hb dX9_witness_47 rfl (lv_at hl 1 rfl) ?_
      refine lv_iload hx hb dX9_witness_48 (lv_at hl 4 rfl) ?_
      obtain ⟨hi50, hw⟩ := hw
      refine va_iast hx hb hK.1 hP hD hS 1 0 rfl rfl hi50 dX9_witness_50 (fun H locs hP hD hS => ?_)
      have hP : va_P D vwCl (cw_X9_witness cI h h_book h_places g_now g_power g_spite g_ways g_milky g_sights g_sight g_signs g_pad g_offAt g_offWho g_reason g_acts g_enough g_rows g_counts g_pours g_image g_isKept (upd f_book p1.toNatClampNeg p4) (upd f_places p1.toNatClampNeg p2)) H := hP
      have hD : va_D A (cw_X9_witness cI h h_book h_places g_now g_power g_spite g_ways g_milky g_sights g_sight g_signs g_pad g_offAt g_offWho g_reason g_acts g_enough g_rows g_counts g_pours g_image g_isKept (upd f_book p1.toNatClampNeg p4) (upd f_places p1.toNatClampNeg p2)) := hD
      refine lv_aload_n hx hb dX9_witness_51 rfl (lv_at hl 0 rfl) ?_
      refine va_get (D := D) (ci := 9) (v := .ref h_book) (C := RX9) (T := TX9) (N := 21) hx hb hz hX_X9 hown hK.1 hP 0 rfl rfl 0 (by decide) (hz _ z3_156) (fun _ h9 => h9) rfl dX9_witness_52 ?_
      refine lv_bipush (v := (8 : Int32)) hx hb dX9_witness_55 (by decide) ?_
      refine lv_dup2_11 hx hb dX9_witness_57 rfl rfl ?_
      refine va_iald hx hb hK.1 hP 1 0 rfl rfl (z_in rfl) dX9_witness_58 ?_
      refine lv_iconst (v := (1 : Int32)) hx hb dX9_witness_59 (by decide) ?_
      refine lv_iload_n hx hb dX9_witness_60 rfl (lv_at hl 1 rfl) ?_
      refine lv_ishl hx hb dX9_witness_61 ?_
      refine lv_ior hx hb dX9_witness_62 ?_
      refine va_iast hx hb hK.1 hP hD hS 1 0 rfl rfl (z_in rfl) dX9_witness_63 (fun H locs hP hD hS => ?_)
      have hP : va_P D vwCl (cw_X9_witness cI h h_book h_places g_now g_power g_spite g_ways g_milky g_sights g_sight g_signs g_pad g_offAt g_offWho g_reason g_acts g_enough g_rows g_counts g_pours g_image g_isKept (upd (upd f_book p1.toNatClampNeg p4) (8 : Int32).toNatClampNeg (((upd f_book p1.toNatClampNeg p4) (8 : Int32).toNatClampNeg) ||| ((1 : Int32) <<< (p1 &&& 31)))) (upd f_places p1.toNatClampNeg p2)) H := hP
      have hD : va_D A (cw_X9_witness cI h h_book h_places g_now g_power g_spite g_ways g_milky g_sights g_sight g_signs g_pad g_offAt g_offWho g_reason g_acts g_enough g_rows g_counts g_pours g_image g_isKept (upd (upd f_book p1.toNatClampNeg p4) (8 : Int32).toNatClampNeg (((upd f_book p1.toNatClampNeg p4) (8 : Int32).toNatClampNeg) ||| ((1 : Int32) <<< (p1 &&& 31)))) (upd f_places p1.toNatClampNeg p2)) := hD
      refine lv_aload_n hx hb dX9_witness_64 rfl (lv_at hl 0 rfl) ?_
      refine va_get (D := D) (ci := 9) (v := .ref h_book) (C := RX9) (T := TX9) (N := 21) hx hb hz hX_X9 hown hK.1 hP 0 rfl rfl 0 (by decide) (hz _ z3_156) (fun _ h9 => h9) rfl dX9_witness_65 ?_
      refine lv_bipush (v := (9 : Int32)) hx hb dX9_witness_68 (by decide) ?_
      refine lv_dup2_11 hx hb dX9_witness_70 rfl rfl ?_
      refine va_iald hx hb hK.1 hP 1 0 rfl rfl (z_in rfl) dX9_witness_71 ?_
      refine lv_iconst (v := (1 : Int32)) hx hb dX9_witness_72 (by decide) ?_
      refine lv_iload_n hx hb dX9_witness_73 rfl (lv_at hl 1 rfl) ?_
      refine lv_ishl hx hb dX9_witness_74 ?_
      refine lv_iconst (v := (-1 : Int32)) hx hb dX9_witness_75 (by decide) ?_
      refine lv_ixor hx hb dX9_witness_76 ?_
      refine lv_iand hx hb dX9_witness_77 ?_
      refine va_iast hx hb hK.1 hP hD hS 1 0 rfl rfl (z_in rfl) dX9_witness_78 (fun H locs hP hD hS => ?_)
      have hP : va_P D vwCl (cw_X9_witness cI h h_book h_places g_now g_power g_spite g_ways g_milky g_sights g_sight g_signs g_pad g_offAt g_offWho g_reason g_acts g_enough g_rows g_counts g_pours g_image g_isKept (upd (upd (upd f_book p1.toNatClampNeg p4) (8 : Int32).toNatClampNeg (((upd f_book p1.toNatClampNeg p4) (8 : Int32).toNatClampNeg) ||| ((1 : Int32) <<< (p1 &&& 31)))) (9 : Int32).toNatClampNeg (((upd (upd f_book p1.toNatClampNeg p4) (8 : Int32).toNatClampNeg (((upd f_book p1.toNatClampNeg p4) (8 : Int32).toNatClampNeg) ||| ((1 : Int32) <<< (p1 &&& 31)))) (9 : Int32).toNatClampNeg) &&& (((1 : Int32) <<< (p1 &&& 31)) ^^^ (-1 : Int32)))) (upd f_places p1.toNatClampNeg p2)) H := hP
      have hD : va_D A (cw_X9_witness cI h h_book h_places g_now g_power g_spite g_ways g_milky g_sights g_sight g_signs g_pad g_offAt g_offWho g_reason g_acts g_enough g_rows g_counts g_pours g_image g_isKept (upd (upd (upd f_book p1.toNatClampNeg p4) (8 : Int32).toNatClampNeg (((upd f_book p1.toNatClampNeg p4) (8 : Int32).toNatClampNeg) ||| ((1 : Int32) <<< (p1 &&& 31)))) (9 : Int32).toNatClampNeg (((upd (upd f_book p1.toNatClampNeg p4) (8 : Int32).toNatClampNeg (((upd f_book p1.toNatClampNeg p4) (8 : Int32).toNatClampNeg) ||| ((1 : Int32) <<< (p1 &&& 31)))) (9 : Int32).toNatClampNeg) &&& (((1 : Int32) <<< (p1 &&& 31)) ^^^ (-1 : Int32)))) (upd f_places p1.toNatClampNeg p2)) := hD
      refine lv_aload_n hx hb dX9_witness_79 rfl (lv_at hl 0 rfl) ?_
      refine va_get (D := D) (ci := 9) (v := .ref h_book) (C := RX9) (T := TX9) (N := 21) hx hb hz hX_X9 hown hK.1 hP 0 rfl rfl 0 (by decide) (hz _ z3_156) (fun _ h9 => h9) rfl dX9_witness_80 ?_
      refine lv_bipush (v := (9 : Int32)) hx hb dX9_witness_83 (by decide) ?_
      refine lv_dup2_11 hx hb dX9_witness_85 rfl rfl ?_
      refine va_iald hx hb hK.1 hP 1 0 rfl rfl (z_in rfl) dX9_witness_86 ?_
      refine lv_iload_n hx hb dX9_witness_87 rfl (lv_at hl 3 rfl) ?_
      refine lv_if_eq (tgt := 97) hx hb dX9_witness_88 (by decide) (fun c88 => ?_) (fun c88 => ?_)
      · have hw := hw.1 c88
        refine lv_iconst (v := (0 : Int32)) hx hb dX9_witness_97 (by decide) ?_
        exact J98 (upd (upd (upd f_book p1.toNatClampNeg p4) (8 : Int32).toNatClampNeg (((upd f_book p1.toNatClampNeg p4) (8 : Int32).toNatClampNeg) ||| ((1 : Int32) <<< (p1 &&& 31)))) (9 : Int32).toNatClampNeg (((upd (upd f_book p1.toNatClampNeg p4) (8 : Int32).toNatClampNeg (((upd f_book p1.toNatClampNeg p4) (8 : Int32).toNatClampNeg) ||| ((1 : Int32) <<< (p1 &&& 31)))) (9 : Int32).toNatClampNeg) &&& (((1 : Int32) <<< (p1 &&& 31)) ^^^ (-1 : Int32)))) (upd f_places p1.toNatClampNeg p2) (9 : Int32) ((upd (upd (upd f_book p1.toNatClampNeg p4) (8 : Int32).toNatClampNeg (((upd f_book p1.toNatClampNeg p4) (8 : Int32).toNatClampNeg) ||| ((1 : Int32) <<< (p1 &&& 31)))) (9 : Int32).toNatClampNeg (((upd (upd f_book p1.toNatClampNeg p4) (8 : Int32).toNatClampNeg (((upd f_book p1.toNatClampNeg p4) (8 : Int32).toNatClampNeg) ||| ((1 : Int32) <<< (p1 &&& 31)))) (9 : Int32).toNatClampNeg) &&& (((1 : Int32) <<< (p1 &&& 31)) ^^^ (-1 : Int32)))) (9 : Int32).toNatClampNeg) (0 : Int32) _ _ _ hw hP hD hS (lv_sub hl [0] rfl)
      have hw := hw.2 c88
      refine lv_iconst (v := (1 : Int32)) hx hb dX9_witness_91 (by decide) ?_
      refine lv_iload_n hx hb dX9_witness_92 rfl (lv_at hl 1 rfl) ?_
      refine lv_ishl hx hb dX9_witness_93 ?_
      refine lv_goto (tgt := 98) hx hb dX9_witness_94 (by decide) ?_
      exact J98 (upd (upd (upd f_book p1.toNatClampNeg p4) (8 : Int32).toNatClampNeg (((upd f_book p1.toNatClampNeg p4) (8 : Int32).toNatClampNeg) ||| ((1 : Int32) <<< (p1 &&& 31)))) (9 : Int32).toNatClampNeg (((upd (upd f_book p1.toNatClampNeg p4) (8 : Int32).toNatClampNeg (((upd f_book p1.toNatClampNeg p4) (8 : Int32).toNatClampNeg) ||| ((1 : Int32) <<< (p1 &&& 31)))) (9 : Int32).toNatClampNeg) &&& (((1 : Int32) <<< (p1 &&& 31)) ^^^ (-1 : Int32)))) (upd f_places p1.toNatClampNeg p2) (9 : Int32) ((upd (upd (upd f_book p1.toNatClampNeg p4) (8 : Int32).toNatClampNeg (((upd f_book p1.toNatClampNeg p4) (8 : Int32).toNatClampNeg) ||| ((1 : Int32) <<< (p1 &&& 31)))) (9 : Int32).toNatClampNeg (((upd (upd f_book p1.toNatClampNeg p4) (8 : Int32).toNatClampNeg (((upd f_book p1.toNatClampNeg p4) (8 : Int32).toNatClampNeg) ||| ((1 : Int32) <<< (p1 &&& 31)))) (9 : Int32).toNatClampNeg) &&& (((1 : Int32) <<< (p1 &&& 31)) ^^^ (-1 : Int32)))) (9 : Int32).toNatClampNeg) ((1 : Int32) <<< (p1 &&& 31)) _ _ _ hw hP hD hS (lv_sub hl [0] rfl)
    have hw := hw.1 c30
    refine lv_bipush (v := (-2 : Int32)) hx hb dX9_witness_33 (by decide) ?_
    exact z_iret hx hb hr hlocks (f_book, f_places) hw hP hS dX9_witness_35
  have hw := hw.1 c7
  refine lv_iconst (v := (-1 : Int32)) hx hb dX9_witness_10 (by decide) ?_
  exact z_iret hx hb hr hlocks (f_book, f_places) hw hP hS dX9_witness_11
abbrev cw_X9_he (cI : ClassId) (h h_book : Nat) (g_now g_places g_ways g_milky g_sights g_sight g_signs g_pad g_offAt g_offWho g_reason g_acts g_enough g_rows g_counts g_pours g_image g_isKept : Value) (f_book : Nat → Int32) (f_power : Int32) (f_spite : Int32) : va_W := [(h, .inr (9, [.ref h_book, g_now, g_places, .int f_power, .int f_spite, g_ways, g_milky, g_sights, g_sight, g_signs, g_pad, g_offAt, g_offWho, g_reason, g_acts, g_enough, g_rows, g_counts, g_pours, g_image, g_isKept])), (h_book, .inl (cI, 12, .inl f_book))]
abbrev q_X9_he (D : va_G) (cI : ClassId) (h h_book : Nat) (g_now g_places g_ways g_milky g_sights g_sight g_signs g_pad g_offAt g_offWho g_reason g_acts g_enough g_rows g_counts g_pours g_image g_isKept : Value) (post : Int32 → (Nat → Int32) → Int32 → Int32 → Prop) (A : Nat → Prop) : Array Value → State → Outcome → State → Prop := va_Qi (S := (Nat → Int32) × Int32 × Int32) (fun r u => post r u.1 u.2.1 u.2.2) (fun u t => va_P D vwCl (cw_X9_he cI h h_book g_now g_places g_ways g_milky g_sights g_sight g_signs g_pad g_offAt g_offWho g_reason g_acts g_enough g_rows g_counts g_pours g_image g_isKept u.1 u.2.1 u.2.2) t.heap) A
abbrev v_X9_he : List Cond := .code yX9_he cX9_he 5 (some .int) :: zB
theorem hd_X9_he : yX9_he.cls = RX9 ∧ yX9_he.cls ≠ "java/lang/invoke/MethodHandle" ∧ yX9_he.cls ≠ "java/lang/invoke/VarHandle" ∧ (parseMethodDescriptor yX9_he.desc).map (fun d => d.parameters.length) = some 3 := by decide +kernel
set_option maxHeartbeats 4000000 in
set_option maxRecDepth 100000 in
theorem c_X9_he (l : Launch) (D : va_G) (cI cC cZ : ClassId) (h h_book : Nat) (g_now g_places g_ways g_milky g_sights g_sight g_signs g_pad g_offAt g_offWho g_reason g_acts g_enough g_rows g_counts g_pours g_image g_isKept : Value) (f_book : Nat → Int32) (f_power : Int32) (f_spite : Int32) (p1 : Int32) (p2 : Int32) (p3 : Int32) (sz : Nat) (post : Int32 → (Nat → Int32) → Int32 → Int32 → Prop) (hw : w_X9_he post f_book f_power f_spite p1 p2 p3) : Met l yX9_he v_X9_he ({ frames := 1, cells := 0, slots := 0, locals := 22 } : Room) (va_Pc [.ref h, .int p1, .int p2, .int p3] (zPre D (zT cI cC cZ) sz (cw_X9_he cI h h_book g_now g_places g_ways g_milky g_sights g_sight g_signs g_pad g_offAt g_offWho g_reason g_acts g_enough g_rows g_counts g_pours g_image g_isKept f_book f_power f_spite))) (q_X9_he D cI h h_book g_now g_places g_ways g_milky g_sights g_sight g_signs g_pad g_offAt g_offWho g_reason g_acts g_enough g_rows g_counts g_pours g_image g_isKept post (va_A (cw_X9_he cI h h_book g_now g_places g_ways g_milky g_sights g_sight g_signs g_pad g_offAt g_offWho g_reason g_acts g_enough g_rows g_counts g_pours g_image g_isKept f_book f_power f_spite) sz)) 0 0 (va_A (cw_X9_he cI h h_book g_now g_places g_ways g_milky g_sights g_sight g_signs g_pad g_offAt g_offWho g_reason g_acts g_enough g_rows g_counts g_pours g_image g_isKept f_book f_power f_spite) sz) := by
  refine Met.ofW (cc := cX9_he) (maxL := 5) (ret := (some .int)) (by decide) rfl ?_
  intro p e s m args below meth c s₁ B hml hv
  obtain ⟨rfl, hsz, hP, hK, hD0⟩ := hv
  subst hsz
  have hx := B.exec
  have hb := B.bytes
  have hr := B.returns
  have hz : ∀ w ∈ zB, w.before _ s = true := fun w h => atoms_spec (ws := v_X9_he) B.pre w (List.mem_cons_of_mem _ h)
  have hown : s.vm.findClass RX9 = some m.cls := findClass_of_methodNamed B.named
  have hlocks := B.notSynchronized
  have hF : CallFix p m c cX9_he 5 s (([.ref h, .int p1, .int p2, .int p3] : List Value).toArray) zB RX9 := ⟨hx, hb, hml, hown, hz⟩
  have hD := hD0.self (sz := s.heap.size)
  generalize hAe : va_A (cw_X9_he cI h h_book g_now g_places g_ways g_milky g_sights g_sight g_signs g_pad g_offAt g_offWho g_reason g_acts g_enough g_rows g_counts g_pours g_image g_isKept f_book f_power f_spite) s.heap.size = A at hD ⊢
  have hA : ∀ q : Nat, s.heap.size ≤ q → A q := fun q h => by rw [← hAe]; exact Or.inr h
  have hS : va_S A s.heap s.heap [] := va_S.rf
  have hP : va_P D vwCl (cw_X9_he cI h h_book g_now g_places g_ways g_milky g_sights g_sight g_signs g_pad g_offAt g_offWho g_reason g_acts g_enough g_rows g_counts g_pours g_image g_isKept f_book f_power f_spite) s.heap := hP
  have hl := lv_entry ([.ref h, .int p1, .int p2, .int p3]) (n := 5) (Nat.le_of_ble_eq_true rfl)
  rw [lg_entry_eq]
  generalize (lg_sl ([.ref h, .int p1, .int p2, .int p3]) ++ List.replicate (5 - (lg_sl ([.ref h, .int p1, .int p2, .int p3])).length) Slot.unset).toArray = ls at hl ⊢
  have hl : lv_has ls 5 [(0, .ref h), (1, .int p1), (2, .int p2), (3, .int p3)] := hl
  unfold w_X9_he at hw
  refine lv_iload_n hx hb dX9_he_0 rfl (lv_at hl 1 rfl) ?_
  refine lv_iconst (v := (0 : Int32)) hx hb dX9_he_1 (by decide) ?_
  refine lv_bipush (v := (15 : Int32)) hx hb dX9_he_2 (by decide) ?_
  refine z_ri (z_runS (As := [.int p1, .int (0 : Int32), .int (15 : Int32)]) (rest := []) hF (c_X9_in l D cI cC cZ p1 (0 : Int32) (15 : Int32) _ _ hw) (va_cwS 3 hz (z_gS z3_225 z3_226 z1_10 z3_227) rfl rfl rfl hd_X9_in ⟨Nat.le_of_ble_eq_true rfl, Nat.le_of_ble_eq_true rfl⟩) hK hP hD [] rfl rfl rfl hl.1 rfl (Nat.le_of_ble_eq_true rfl) dX9_he_4 ⟨Nat.zero_le _, Nat.zero_le _⟩) hP hD hS hA [] rfl (fun _ => rfl) (fun _ => cw_X9_he cI h h_book g_now g_places g_ways g_milky g_sights g_sight g_signs g_pad g_offAt g_offWho g_reason g_acts g_enough g_rows g_counts g_pours g_image g_isKept f_book f_power f_spite) (fun _ => rfl) (fun r4 u4 H locs hw hP hD hS => ?_)
  obtain ⟨hn4, hw⟩ := hw
  try dsimp only at hw
  refine lv_if_eq (tgt := 30) hx hb dX9_he_7 (by decide) (fun c7 => ?_) (fun c7 => ?_)
  · have hw := hw.1 c7
    refine lv_bipush (v := (-2 : Int32)) hx hb dX9_he_30 (by decide) ?_
    exact z_iret hx hb hr hlocks (f_book, f_power, f_spite) hw hP hS dX9_he_32
  have hw := hw.2 c7
  refine lv_iload_n hx hb dX9_he_10 rfl (lv_at hl 2 rfl) ?_
  refine lv_iconst (v := (0 : Int32)) hx hb dX9_he_11 (by decide) ?_
  refine lv_bipush (v := (9 : Int32)) hx hb dX9_he_12 (by decide) ?_
  refine z_ri (z_runS (As := [.int p2, .int (0 : Int32), .int (9 : Int32)]) (rest := []) hF (c_X9_in l D cI cC cZ p2 (0 : Int32) (9 : Int32) _ _ hw) (va_cwS 3 hz (z_gS z3_225 z3_226 z1_10 z3_227) rfl rfl rfl hd_X9_in ⟨Nat.le_of_ble_eq_true rfl, Nat.le_of_ble_eq_true rfl⟩) hK hP hD [] rfl rfl rfl hl.1 rfl (Nat.le_of_ble_eq_true rfl) dX9_he_14 ⟨Nat.zero_le _, Nat.zero_le _⟩) hP hD hS hA [] rfl (fun _ => rfl) (fun _ => cw_X9_he cI h h_book g_now g_places g_ways g_milky g_sights g_sight g_signs g_pad g_offAt g_offWho g_reason g_acts g_enough g_rows g_counts g_pours g_image g_isKept f_book f_power f_spite) (fun _ => rfl) (fun r14 u14 H locs hw hP hD hS => ?_)
  obtain ⟨hn14, hw⟩ := hw
  try dsimp only at hw
  refine lv_if_eq (tgt := 30) hx hb dX9_he_17 (by decide) (fun c17 => ?_) (fun c17 => ?_)
  · have hw := hw.1 c17
    refine lv_bipush (v := (-2 : Int32)) hx hb dX9_he_30 (by decide) ?_
    exact z_iret hx hb hr hlocks (f_book, f_power, f_spite) hw hP hS dX9_he_32
  have hw := hw.2 c17
  refine lv_iload_n hx hb dX9_he_20 rfl (lv_at hl 3 rfl) ?_
  refine lv_iconst (v := (0 : Int32)) hx hb dX9_he_21 (by decide) ?_
  refine lv_bipush (v := (9 : Int32)) hx hb dX9_he_22 (by decide) ?_
  refine z_ri (z_runS (As := [.int p3, .int (0 : Int32), .int (9 : Int32)]) (rest := []) hF (c_X9_in l D cI cC cZ p3 (0 : Int32) (9 : Int32) _ _ hw) (va_cwS 3 hz (z_gS z3_225 z3_226 z1_10 z3_227) rfl rfl rfl hd_X9_in ⟨Nat.le_of_ble_eq_true rfl, Nat.le_of_ble_eq_true rfl⟩) hK hP hD [] rfl rfl rfl hl.1 rfl (Nat.le_of_ble_eq_true rfl) dX9_he_24 ⟨Nat.zero_le _, Nat.zero_le _⟩) hP hD hS hA [] rfl (fun _ => rfl) (fun _ => cw_X9_he cI h h_book g_now g_places g_ways g_milky g_sights g_sight g_signs g_pad g_offAt g_offWho g_reason g_acts g_enough g_rows g_counts g_pours g_image g_isKept f_book f_power f_spite) (fun _ => rfl) (fun r24 u24 H locs hw hP hD hS => ?_)
  obtain ⟨hn24, hw⟩ := hw
  try dsimp only at hw
  refine lv_if_ne (tgt := 33) hx hb dX9_he_27 (by decide) (fun c27 => ?_) (fun c27 => ?_)
  · have hw := hw.2 c27
    refine lv_bipush (v := (100 : Int32)) hx hb dX9_he_33 (by decide) ?_
    refine lv_aload_n hx hb dX9_he_35 rfl (lv_at hl 0 rfl) ?_
    refine va_get (D := D) (ci := 9) (v := .ref h_book) (C := RX9) (T := TX9) (N := 21) hx hb hz hX_X9 hown hK.1 hP 0 rfl rfl 0 (by decide) (hz _ z3_156) (fun _ h9 => h9) rfl dX9_he_36 ?_
    refine lv_bipush (v := (10 : Int32)) hx hb dX9_he_39 (by decide) ?_
    refine va_iald hx hb hK.1 hP 1 0 rfl rfl (z_in rfl) dX9_he_41 ?_
    refine lv_imul hx hb dX9_he_42 ?_
    refine lv_bipush (v := (10 : Int32)) hx hb dX9_he_43 (by decide) ?_
    refine lv_aload_n hx hb dX9_he_45 rfl (lv_at hl 0 rfl) ?_
    refine va_get (D := D) (ci := 9) (v := .int f_power) (C := RX9) (T := TX9) (N := 21) hx hb hz hX_X9 hown hK.1 hP 0 rfl rfl 3 (by decide) (hz _ z3_159) (fun _ h9 => h9) rfl dX9_he_46 ?_
    refine lv_imul hx hb dX9_he_49 ?_
    refine lv_iadd hx hb dX9_he_50 ?_
    refine lv_aload_n hx hb dX9_he_51 rfl (lv_at hl 0 rfl) ?_
    refine va_get (D := D) (ci := 9) (v := .int f_spite) (C := RX9) (T := TX9) (N := 21) hx hb hz hX_X9 hown hK.1 hP 0 rfl rfl 4 (by decide) (hz _ z3_160) (fun _ h9 => h9) rfl dX9_he_52 ?_
    refine lv_iadd hx hb dX9_he_55 ?_
    refine lv_topi (fun y56 ey56 => ?_)
    have hw := hw y56 ey56
    refine lv_istore (lv' := [(4, .int y56), (0, .ref h), (1, .int p1), (2, .int p2), (3, .int p3)]) hx hb dX9_he_56 hl (by decide) rfl (fun ls hl => ?_)
    refine lv_aload_n hx hb dX9_he_58 rfl (lv_at hl 1 rfl) ?_
    refine va_get (D := D) (ci := 9) (v := .ref h_book) (C := RX9) (T := TX9) (N := 21) hx hb hz hX_X9 hown hK.1 hP 0 rfl rfl 0 (by decide) (hz _ z3_156) (fun _ h9 => h9) rfl dX9_he_59 ?_
    refine lv_bipush (v := (10 : Int32)) hx hb dX9_he_62 (by decide) ?_
    refine lv_iload_n hx hb dX9_he_64 rfl (lv_at hl 2 rfl) ?_
    refine va_iast hx hb hK.1 hP hD hS 1 0 rfl rfl (z_in rfl) dX9_he_65 (fun H locs hP hD hS => ?_)
    have hP : va_P D vwCl (cw_X9_he cI h h_book g_now g_places g_ways g_milky g_sights g_sight g_signs g_pad g_offAt g_offWho g_reason g_acts g_enough g_rows g_counts g_pours g_image g_isKept (upd f_book (10 : Int32).toNatClampNeg p1) f_power f_spite) H := hP
    have hD : va_D A (cw_X9_he cI h h_book g_now g_places g_ways g_milky g_sights g_sight g_signs g_pad g_offAt g_offWho g_reason g_acts g_enough g_rows g_counts g_pours g_image g_isKept (upd f_book (10 : Int32).toNatClampNeg p1) f_power f_spite) := hD
    refine lv_aload_n hx hb dX9_he_66 rfl (lv_at hl 1 rfl) ?_
    refine lv_iload_n hx hb dX9_he_67 rfl (lv_at hl 3 rfl) ?_
    refine va_put (D := D) (ci := 9) (v := .int p2) (ty := .int) (C := RX9) (T := TX9) (N := 21) hx hb hz hX_X9 tyX9 tyX9_ok nmX9 hown hK.1 hP hD hS 0 rfl rfl 3 (by decide) (hz _ z3_159) (fun _ h9 => h9) rfl (tyX9_ok 3 (by decide)) rfl rfl (Nat.le_of_ble_eq_true rfl) dX9_he_68 (fun H locs hP hD hS => ?_)
    have hP : va_P D vwCl (cw_X9_he cI h h_book g_now g_places g_ways g_milky g_sights g_sight g_signs g_pad g_offAt g_offWho g_reason g_acts g_enough g_rows g_counts g_pours g_image g_isKept (upd f_book (10 : Int32).toNatClampNeg p1) p2 f_spite) H := hP
    have hD : va_D A (cw_X9_he cI h h_book g_now g_places g_ways g_milky g_sights g_sight g_signs g_pad g_offAt g_offWho g_reason g_acts g_enough g_rows g_counts g_pours g_image g_isKept (upd f_book (10 : Int32).toNatClampNeg p1) p2 f_spite) := hD
    refine lv_aload_n hx hb dX9_he_71 rfl (lv_at hl 1 rfl) ?_
    refine lv_iload_n hx hb dX9_he_72 rfl (lv_at hl 4 rfl) ?_
    refine va_put (D := D) (ci := 9) (v := .int p3) (ty := .int) (C := RX9) (T := TX9) (N := 21) hx hb hz hX_X9 tyX9 tyX9_ok nmX9 hown hK.1 hP hD hS 0 rfl rfl 4 (by decide) (hz _ z3_160) (fun _ h9 => h9) rfl (tyX9_ok 4 (by decide)) rfl rfl (Nat.le_of_ble_eq_true rfl) dX9_he_73 (fun H locs hP hD hS => ?_)
    have hP : va_P D vwCl (cw_X9_he cI h h_book g_now g_places g_ways g_milky g_sights g_sight g_signs g_pad g_offAt g_offWho g_reason g_acts g_enough g_rows g_counts g_pours g_image g_isKept (upd f_book (10 : Int32).toNatClampNeg p1) p2 p3) H := hP
    have hD : va_D A (cw_X9_he cI h h_book g_now g_places g_ways g_milky g_sights g_sight g_signs g_pad g_offAt g_offWho g_reason g_acts g_enough g_rows g_counts g_pours g_image g_isKept (upd f_book (10 : Int32).toNatClampNeg p1) p2 p3) := hD
    refine lv_iload hx hb dX9_he_76 (lv_at hl 0 rfl) ?_
    exact z_iret hx hb hr hlocks ((upd f_book (10 : Int32).toNatClampNeg p1), p2, p3) hw hP hS dX9_he_78
  have hw := hw.1 c27
  refine lv_bipush (v := (-2 : Int32)) hx hb dX9_he_30 (by decide) ?_
  exact z_iret hx hb hr hlocks (f_book, f_power, f_spite) hw hP hS dX9_he_32
abbrev cw_X9_way (cI : ClassId) (h h_ways : Nat) (g_book g_now g_places g_power g_spite g_milky g_sights g_sight g_signs g_pad g_offAt g_offWho g_reason g_acts g_enough g_rows g_counts g_pours g_image g_isKept : Value) (f_ways : Nat → Int32) : va_W := [(h, .inr (9, [g_book, g_now, g_places, g_power, g_spite, .ref h_ways, g_milky, g_sights, g_sight, g_signs, g_pad, g_offAt, g_offWho, g_reason, g_acts, g_enough, g_rows, g_counts, g_pours, g_image, g_isKept])), (h_ways, .inl (cI, 12, .inl f_ways))]
abbrev q_X9_way (D : va_G) (cI : ClassId) (h h_ways : Nat) (g_book g_now g_places g_power g_spite g_milky g_sights g_sight g_signs g_pad g_offAt g_offWho g_reason g_acts g_enough g_rows g_counts g_pours g_image g_isKept : Value) (post : Int32 → (Nat → Int32) → Prop) (A : Nat → Prop) : Array Value → State → Outcome → State → Prop := va_Qi (S := (Nat → Int32)) (fun r u => post r u) (fun u t => va_P D vwCl (cw_X9_way cI h h_ways g_book g_now g_places g_power g_spite g_milky g_sights g_sight g_signs g_pad g_offAt g_offWho g_reason g_acts g_enough g_rows g_counts g_pours g_image g_isKept u) t.heap) A
abbrev v_X9_way : List Cond := .code yX9_way cX9_way 6 (some .int) :: zB
theorem hd_X9_way : yX9_way.cls = RX9 ∧ yX9_way.cls ≠ "java/lang/invoke/MethodHandle" ∧ yX9_way.cls ≠ "java/lang/invoke/VarHandle" ∧ (parseMethodDescriptor yX9_way.desc).map (fun d => d.parameters.length) = some 3 := by decide +kernel
set_option maxHeartbeats 4000000 in
set_option maxRecDepth 100000 in
theorem c_X9_way (l : Launch) (D : va_G) (cI cC cZ : ClassId) (h h_ways : Nat) (g_book g_now g_places g_power g_spite g_milky g_sights g_sight g_signs g_pad g_offAt g_offWho g_reason g_acts g_enough g_rows g_counts g_pours g_image g_isKept : Value) (f_ways : Nat → Int32) (p1 : Int32) (p2 : Int32) (p3 : Int32) (sz : Nat) (post : Int32 → (Nat → Int32) → Prop) (hw : w_X9_way post f_ways p1 p2 p3) : Met l yX9_way v_X9_way ({ frames := 2, cells := 0, slots := 0, locals := 42 } : Room) (va_Pc [.ref h, .int p1, .int p2, .int p3] (zPre D (zT cI cC cZ) sz (cw_X9_way cI h h_ways g_book g_now g_places g_power g_spite g_milky g_sights g_sight g_signs g_pad g_offAt g_offWho g_reason g_acts g_enough g_rows g_counts g_pours g_image g_isKept f_ways))) (q_X9_way D cI h h_ways g_book g_now g_places g_power g_spite g_milky g_sights g_sight g_signs g_pad g_offAt g_offWho g_reason g_acts g_enough g_rows g_counts g_pours g_image g_isKept post (va_A (cw_X9_way cI h h_ways g_book g_now g_places g_power g_spite g_milky g_sights g_sight g_signs g_pad g_offAt g_offWho g_reason g_acts g_enough g_rows g_counts g_pours g_image g_isKept f_ways) sz)) 0 0 (va_A (cw_X9_way cI h h_ways g_book g_now g_places g_power g_spite g_milky g_sights g_sight g_signs g_pad g_offAt g_offWho g_reason g_acts g_enough g_rows g_counts g_pours g_image g_isKept f_ways) sz) := by
  refine Met.ofW (cc := cX9_way) (maxL := 6) (ret := (some .int)) (by decide) rfl ?_
  intro p e s m args below meth c s₁ B hml hv
  obtain ⟨rfl, hsz, hP, hK, hD0⟩ := hv
  subst hsz
  have hx := B.exec
  have hb := B.bytes
  have hr := B.returns
  have hz : ∀ w ∈ zB, w.before _ s = true := fun w h => atoms_spec (ws := v_X9_way) B.pre w (List.mem_cons_of_mem _ h)
  have hown : s.vm.findClass RX9 = some m.cls := findClass_of_methodNamed B.named
  have hlocks := B.notSynchronized
  have hF : CallFix p m c cX9_way 6 s (([.ref h, .int p1, .int p2, .int p3] : List Value).toArray) zB RX9 := ⟨hx, hb, hml, hown, hz⟩
  have hD := hD0.self (sz := s.heap.size)
  generalize hAe : va_A (cw_X9_way cI h h_ways g_book g_now g_places g_power g_spite g_milky g_sights g_sight g_signs g_pad g_offAt g_offWho g_reason g_acts g_enough g_rows g_counts g_pours g_image g_isKept f_ways) s.heap.size = A at hD ⊢
  have hA : ∀ q : Nat, s.heap.size ≤ q → A q := fun q h => by rw [← hAe]; exact Or.inr h
  have hS : va_S A s.heap s.heap [] := va_S.rf
  have hP : va_P D vwCl (cw_X9_way cI h h_ways g_book g_now g_places g_power g_spite g_milky g_sights g_sight g_signs g_pad g_offAt g_offWho g_reason g_acts g_enough g_rows g_counts g_pours g_image g_isKept f_ways) s.heap := hP
  have hl := lv_entry ([.ref h, .int p1, .int p2, .int p3]) (n := 6) (Nat.le_of_ble_eq_true rfl)
  rw [lg_entry_eq]
  generalize (lg_sl ([.ref h, .int p1, .int p2, .int p3]) ++ List.replicate (6 - (lg_sl ([.ref h, .int p1, .int p2, .int p3])).length) Slot.unset).toArray = ls at hl ⊢
  have hl : lv_has ls 6 [(0, .ref h), (1, .int p1), (2, .int p2), (3, .int p3)] := hl
  have L95 : ∀ (n95 : Nat) (f_ways : Nat → Int32) (x4 : Int32) (x5 : Int32) (H : Heap) (locs : List Loc) (ls : Array Slot) (hw : w_X9_way_B95 post p1 p2 p3 n95 f_ways x4 x5) (hP : va_P D vwCl (cw_X9_way cI h h_ways g_book g_now g_places g_power g_spite g_milky g_sights g_sight g_signs g_pad g_offAt g_offWho g_reason g_acts g_enough g_rows g_counts g_pours g_image g_isKept f_ways) H) (hD : va_D A (cw_X9_way cI h h_ways g_book g_now g_places g_power g_spite g_milky g_sights g_sight g_signs g_pad g_offAt g_offWho g_reason g_acts g_enough g_rows g_counts g_pours g_image g_isKept f_ways)) (hS : va_S A s.heap H locs) (hl : lv_has ls 6 [(0, .ref h), (4, .int x4), (5, .int x5)]), W p l e (headSpec v_X9_way ({ frames := 2, cells := 0, slots := 0, locals := 42 } : Room)).room s m (([.ref h, .int p1, .int p2, .int p3] : List Value).toArray) below meth c H locs 0 0 (MQ below (q_X9_way D cI h h_ways g_book g_now g_places g_power g_spite g_milky g_sights g_sight g_signs g_pad g_offAt g_offWho g_reason g_acts g_enough g_rows g_counts g_pours g_image g_isKept post A) (([.ref h, .int p1, .int p2, .int p3] : List Value).toArray) s 0 0 A) (F0 m 95 ls []) := by
    intro n95
    induction n95 with
    | zero => intro f_ways x4 x5 H locs ls hw; exact False.elim hw
    | succ n95 ih95 =>
      intro f_ways x4 x5 H locs ls hw hP hD hS hl
      unfold w_X9_way_B95 at hw
      refine lv_iload hx hb dX9_way_95 (lv_at hl 2 rfl) ?_
      refine lv_bipush (v := (12 : Int32)) hx hb dX9_way_97 (by decide) ?_
      refine lv_icmp_ge (tgt := 123) hx hb dX9_way_99 (by decide) (fun c99 => ?_) (fun c99 => ?_)
      · have hw := hw.1 c99
        refine lv_iload hx hb dX9_way_123 (lv_at hl 1 rfl) ?_
        refine lv_iconst (v := (2 : Int32)) hx hb dX9_way_125 (by decide) ?_
        refine lv_idiv hx hb dX9_way_126 (by decide) ?_
        exact z_iret hx hb hr hlocks f_ways hw hP hS dX9_way_127
      have hw := hw.2 c99
      refine lv_iload hx hb dX9_way_102 (lv_at hl 1 rfl) ?_
      refine lv_aload_n hx hb dX9_way_104 rfl (lv_at hl 0 rfl) ?_
      refine va_get (D := D) (ci := 9) (v := .ref h_ways) (C := RX9) (T := TX9) (N := 21) hx hb hz hX_X9 hown hK.1 hP 0 rfl rfl 5 (by decide) (hz _ z3_161) (fun _ h9 => h9) rfl dX9_way_105 ?_
      refine lv_iload hx hb dX9_way_108 (lv_at hl 2 rfl) ?_
      obtain ⟨hi110, hw⟩ := hw
      refine va_iald hx hb hK.1 hP 1 0 rfl rfl hi110 dX9_way_110 ?_
      refine z_ri (z_runS (As := [.int (f_ways x5.toNatClampNeg)]) (rest := [.int x4]) hF (c_X9_bits l D cI cC cZ (f_ways x5.toNatClampNeg) _ _ hw) (va_cwS 1 hz (z_gS z3_228 z3_229 z1_10 z3_230) rfl rfl rfl hd_X9_bits ⟨Nat.le_of_ble_eq_true rfl, Nat.le_of_ble_eq_true rfl⟩) hK hP hD [] rfl rfl rfl hl.1 rfl (Nat.le_of_ble_eq_true rfl) dX9_way_111 ⟨Nat.zero_le _, Nat.zero_le _⟩) hP hD hS hA [] rfl (fun _ => rfl) (fun _ => cw_X9_way cI h h_ways g_book g_now g_places g_power g_spite g_milky g_sights g_sight g_signs g_pad g_offAt g_offWho g_reason g_acts g_enough g_rows g_counts g_pours g_image g_isKept f_ways) (fun _ => rfl) (fun r111 u111 H locs hw hP hD hS => ?_)
      try dsimp only at hw
      refine lv_iadd hx hb dX9_way_114 ?_
      refine lv_istore (lv' := [(4, .int (x4 + r111)), (0, .ref h), (5, .int x5)]) hx hb dX9_way_115 hl (by decide) rfl (fun ls hl => ?_)
      refine lv_iinc (k := 2) (v := (x5 + 1)) (lv' := [(5, .int (x5 + 1)), (4, .int (x4 + r111)), (0, .ref h)]) hx hb dX9_way_117 hl rfl rfl (by decide) rfl (fun ls hl => ?_)
      refine lv_goto (tgt := 95) hx hb dX9_way_120 (by decide) ?_
      exact ih95 f_ways (x4 + r111) (x5 + 1) _ _ _ hw hP hD hS (lv_sub hl [2, 1, 0] rfl)
  have J87 : ∀ (f_ways : Nat → Int32) (s1 : Int32) (s2 : Int32) (s3 : Int32) (H : Heap) (locs : List Loc) (ls : Array Slot) (hw : w_X9_way_B87 post p1 p2 p3 f_ways s1 s2 s3) (hP : va_P D vwCl (cw_X9_way cI h h_ways g_book g_now g_places g_power g_spite g_milky g_sights g_sight g_signs g_pad g_offAt g_offWho g_reason g_acts g_enough g_rows g_counts g_pours g_image g_isKept f_ways) H) (hD : va_D A (cw_X9_way cI h h_ways g_book g_now g_places g_power g_spite g_milky g_sights g_sight g_signs g_pad g_offAt g_offWho g_reason g_acts g_enough g_rows g_counts g_pours g_image g_isKept f_ways)) (hS : va_S A s.heap H locs) (hl : lv_has ls 6 [(0, .ref h)]), W p l e (headSpec v_X9_way ({ frames := 2, cells := 0, slots := 0, locals := 42 } : Room)).room s m (([.ref h, .int p1, .int p2, .int p3] : List Value).toArray) below meth c H locs 0 0 (MQ below (q_X9_way D cI h h_ways g_book g_now g_places g_power g_spite g_milky g_sights g_sight g_signs g_pad g_offAt g_offWho g_reason g_acts g_enough g_rows g_counts g_pours g_image g_isKept post A) (([.ref h, .int p1, .int p2, .int p3] : List Value).toArray) s 0 0 A) (F0 m 87 ls [.int s3, .int s2, .int s1, .ref h_ways]) := by
    intro f_ways s1 s2 s3 H locs ls hw hP hD hS hl
    unfold w_X9_way_B87 at hw
    refine lv_ior hx hb dX9_way_87 ?_
    obtain ⟨hi88, hw⟩ := hw
    refine va_iast hx hb hK.1 hP hD hS 1 0 rfl rfl hi88 dX9_way_88 (fun H locs hP hD hS => ?_)
    have hP : va_P D vwCl (cw_X9_way cI h h_ways g_book g_now g_places g_power g_spite g_milky g_sights g_sight g_signs g_pad g_offAt g_offWho g_reason g_acts g_enough g_rows g_counts g_pours g_image g_isKept (upd f_ways s1.toNatClampNeg (s2 ||| s3))) H := hP
    have hD : va_D A (cw_X9_way cI h h_ways g_book g_now g_places g_power g_spite g_milky g_sights g_sight g_signs g_pad g_offAt g_offWho g_reason g_acts g_enough g_rows g_counts g_pours g_image g_isKept (upd f_ways s1.toNatClampNeg (s2 ||| s3))) := hD
    refine lv_iconst (v := (0 : Int32)) hx hb dX9_way_89 (by decide) ?_
    refine lv_istore (lv' := [(4, .int (0 : Int32)), (0, .ref h)]) hx hb dX9_way_90 hl (by decide) rfl (fun ls hl => ?_)
    refine lv_iconst (v := (0 : Int32)) hx hb dX9_way_92 (by decide) ?_
    refine lv_istore (lv' := [(5, .int (0 : Int32)), (4, .int (0 : Int32)), (0, .ref h)]) hx hb dX9_way_93 hl (by decide) rfl (fun ls hl => ?_)
    obtain ⟨n95, hw⟩ := hw
    exact L95 n95 (upd f_ways s1.toNatClampNeg (s2 ||| s3)) (0 : Int32) (0 : Int32) _ _ _ hw hP hD hS (lv_sub hl [2, 1, 0] rfl)
  have J67 : ∀ (f_ways : Nat → Int32) (s1 : Int32) (s2 : Int32) (s3 : Int32) (H : Heap) (locs : List Loc) (ls : Array Slot) (hw : w_X9_way_B67 post p1 p2 p3 f_ways s1 s2 s3) (hP : va_P D vwCl (cw_X9_way cI h h_ways g_book g_now g_places g_power g_spite g_milky g_sights g_sight g_signs g_pad g_offAt g_offWho g_reason g_acts g_enough g_rows g_counts g_pours g_image g_isKept f_ways) H) (hD : va_D A (cw_X9_way cI h h_ways g_book g_now g_places g_power g_spite g_milky g_sights g_sight g_signs g_pad g_offAt g_offWho g_reason g_acts g_enough g_rows g_counts g_pours g_image g_isKept f_ways)) (hS : va_S A s.heap H locs) (hl : lv_has ls 6 [(0, .ref h), (1, .int p1), (2, .int p2), (3, .int p3)]), W p l e (headSpec v_X9_way ({ frames := 2, cells := 0, slots := 0, locals := 42 } : Room)).room s m (([.ref h, .int p1, .int p2, .int p3] : List Value).toArray) below meth c H locs 0 0 (MQ below (q_X9_way D cI h h_ways g_book g_now g_places g_power g_spite g_milky g_sights g_sight g_signs g_pad g_offAt g_offWho g_reason g_acts g_enough g_rows g_counts g_pours g_image g_isKept post A) (([.ref h, .int p1, .int p2, .int p3] : List Value).toArray) s 0 0 A) (F0 m 67 ls [.int s3, .int s2, .int s1, .ref h_ways]) := by
    intro f_ways s1 s2 s3 H locs ls hw hP hD hS hl
    unfold w_X9_way_B67 at hw
    refine lv_ior hx hb dX9_way_67 ?_
    obtain ⟨hi68, hw⟩ := hw
    refine va_iast hx hb hK.1 hP hD hS 1 0 rfl rfl hi68 dX9_way_68 (fun H locs hP hD hS => ?_)
    have hP : va_P D vwCl (cw_X9_way cI h h_ways g_book g_now g_places g_power g_spite g_milky g_sights g_sight g_signs g_pad g_offAt g_offWho g_reason g_acts g_enough g_rows g_counts g_pours g_image g_isKept (upd f_ways s1.toNatClampNeg (s2 ||| s3))) H := hP
    have hD : va_D A (cw_X9_way cI h h_ways g_book g_now g_places g_power g_spite g_milky g_sights g_sight g_signs g_pad g_offAt g_offWho g_reason g_acts g_enough g_rows g_counts g_pours g_image g_isKept (upd f_ways s1.toNatClampNeg (s2 ||| s3))) := hD
    refine lv_aload_n hx hb dX9_way_69 rfl (lv_at hl 0 rfl) ?_
    refine va_get (D := D) (ci := 9) (v := .ref h_ways) (C := RX9) (T := TX9) (N := 21) hx hb hz hX_X9 hown hK.1 hP 0 rfl rfl 5 (by decide) (hz _ z3_161) (fun _ h9 => h9) rfl dX9_way_70 ?_
    refine lv_iload_n hx hb dX9_way_73 rfl (lv_at hl 2 rfl) ?_
    refine lv_dup2_11 hx hb dX9_way_74 rfl rfl ?_
    obtain ⟨hi75, hw⟩ := hw
    refine va_iald hx hb hK.1 hP 1 0 rfl rfl hi75 dX9_way_75 ?_
    refine lv_iload_n hx hb dX9_way_76 rfl (lv_at hl 3 rfl) ?_
    refine lv_if_eq (tgt := 86) hx hb dX9_way_77 (by decide) (fun c77 => ?_) (fun c77 => ?_)
    · have hw := hw.1 c77
      refine lv_iconst (v := (0 : Int32)) hx hb dX9_way_86 (by decide) ?_
      exact J87 (upd f_ways s1.toNatClampNeg (s2 ||| s3)) p2 ((upd f_ways s1.toNatClampNeg (s2 ||| s3)) p2.toNatClampNeg) (0 : Int32) _ _ _ hw hP hD hS (lv_sub hl [0] rfl)
    have hw := hw.2 c77
    refine lv_iconst (v := (1 : Int32)) hx hb dX9_way_80 (by decide) ?_
    refine lv_iload_n hx hb dX9_way_81 rfl (lv_at hl 1 rfl) ?_
    refine lv_ishl hx hb dX9_way_82 ?_
    refine lv_goto (tgt := 87) hx hb dX9_way_83 (by decide) ?_
    exact J87 (upd f_ways s1.toNatClampNeg (s2 ||| s3)) p2 ((upd f_ways s1.toNatClampNeg (s2 ||| s3)) p2.toNatClampNeg) ((1 : Int32) <<< (p1 &&& 31)) _ _ _ hw hP hD hS (lv_sub hl [0] rfl)
  unfold w_X9_way at hw
  refine lv_iload_n hx hb dX9_way_0 rfl (lv_at hl 1 rfl) ?_
  refine z_ri (z_runS (As := [.int p1]) (rest := []) hF (c_X9_isCell l D cI cC cZ p1 _ _ hw) (va_cwS 1 hz (z_gS z3_239 z4_0 z1_10 z4_1) rfl rfl rfl hd_X9_isCell ⟨Nat.le_of_ble_eq_true rfl, Nat.le_of_ble_eq_true rfl⟩) hK hP hD [] rfl rfl rfl hl.1 rfl (Nat.le_of_ble_eq_true rfl) dX9_way_1 ⟨Nat.zero_le _, Nat.zero_le _⟩) hP hD hS hA [] rfl (fun _ => rfl) (fun _ => cw_X9_way cI h h_ways g_book g_now g_places g_power g_spite g_milky g_sights g_sight g_signs g_pad g_offAt g_offWho g_reason g_acts g_enough g_rows g_counts g_pours g_image g_isKept f_ways) (fun _ => rfl) (fun r1 u1 H locs hw hP hD hS => ?_)
  obtain ⟨hn1, hw⟩ := hw
  try dsimp only at hw
  refine lv_if_eq (tgt := 19) hx hb dX9_way_4 (by decide) (fun c4 => ?_) (fun c4 => ?_)
  · have hw := hw.1 c4
    refine lv_iconst (v := (-1 : Int32)) hx hb dX9_way_19 (by decide) ?_
    exact z_iret hx hb hr hlocks f_ways hw hP hS dX9_way_20
  have hw := hw.2 c4
  refine lv_iload_n hx hb dX9_way_7 rfl (lv_at hl 2 rfl) ?_
  refine z_ri (z_runS (As := [.int p2]) (rest := []) hF (c_X9_isCell l D cI cC cZ p2 _ _ hw) (va_cwS 1 hz (z_gS z3_239 z4_0 z1_10 z4_1) rfl rfl rfl hd_X9_isCell ⟨Nat.le_of_ble_eq_true rfl, Nat.le_of_ble_eq_true rfl⟩) hK hP hD [] rfl rfl rfl hl.1 rfl (Nat.le_of_ble_eq_true rfl) dX9_way_8 ⟨Nat.zero_le _, Nat.zero_le _⟩) hP hD hS hA [] rfl (fun _ => rfl) (fun _ => cw_X9_way cI h h_ways g_book g_now g_places g_power g_spite g_milky g_sights g_sight g_signs g_pad g_offAt g_offWho g_reason g_acts g_enough g_rows g_counts g_pours g_image g_isKept f_ways) (fun _ => rfl) (fun r8 u8 H locs hw hP hD hS => ?_)
  obtain ⟨hn8, hw⟩ := hw
  try dsimp only at hw
  refine lv_if_eq (tgt := 19) hx hb dX9_way_11 (by decide) (fun c11 => ?_) (fun c11 => ?_)
  · have hw := hw.1 c11
    refine lv_iconst (v := (-1 : Int32)) hx hb dX9_way_19 (by decide) ?_
    exact z_iret hx hb hr hlocks f_ways hw hP hS dX9_way_20
  have hw := hw.2 c11
  refine lv_iload_n hx hb dX9_way_14 rfl (lv_at hl 1 rfl) ?_
  refine lv_iload_n hx hb dX9_way_15 rfl (lv_at hl 2 rfl) ?_
  refine lv_icmp_ne (tgt := 21) hx hb dX9_way_16 (by decide) (fun c16 => ?_) (fun c16 => ?_)
  · have hw := hw.2 c16
    refine lv_aload_n hx hb dX9_way_21 rfl (lv_at hl 0 rfl) ?_
    refine va_get (D := D) (ci := 9) (v := .ref h_ways) (C := RX9) (T := TX9) (N := 21) hx hb hz hX_X9 hown hK.1 hP 0 rfl rfl 5 (by decide) (hz _ z3_161) (fun _ h9 => h9) rfl dX9_way_22 ?_
    refine lv_iload_n hx hb dX9_way_25 rfl (lv_at hl 1 rfl) ?_
    refine lv_dup2_11 hx hb dX9_way_26 rfl rfl ?_
    obtain ⟨hi27, hw⟩ := hw
    refine va_iald hx hb hK.1 hP 1 0 rfl rfl hi27 dX9_way_27 ?_
    refine lv_iconst (v := (1 : Int32)) hx hb dX9_way_28 (by decide) ?_
    refine lv_iload_n hx hb dX9_way_29 rfl (lv_at hl 2 rfl) ?_
    refine lv_ishl hx hb dX9_way_30 ?_
    refine lv_iconst (v := (-1 : Int32)) hx hb dX9_way_31 (by decide) ?_
    refine lv_ixor hx hb dX9_way_32 ?_
    refine lv_iand hx hb dX9_way_33 ?_
    obtain ⟨hi34, hw⟩ := hw
    refine va_iast hx hb hK.1 hP hD hS 1 0 rfl rfl hi34 dX9_way_34 (fun H locs hP hD hS => ?_)
    have hP : va_P D vwCl (cw_X9_way cI h h_ways g_book g_now g_places g_power g_spite g_milky g_sights g_sight g_signs g_pad g_offAt g_offWho g_reason g_acts g_enough g_rows g_counts g_pours g_image g_isKept (upd f_ways p1.toNatClampNeg ((f_ways p1.toNatClampNeg) &&& (((1 : Int32) <<< (p2 &&& 31)) ^^^ (-1 : Int32))))) H := hP
    have hD : va_D A (cw_X9_way cI h h_ways g_book g_now g_places g_power g_spite g_milky g_sights g_sight g_signs g_pad g_offAt g_offWho g_reason g_acts g_enough g_rows g_counts g_pours g_image g_isKept (upd f_ways p1.toNatClampNeg ((f_ways p1.toNatClampNeg) &&& (((1 : Int32) <<< (p2 &&& 31)) ^^^ (-1 : Int32))))) := hD
    refine lv_aload_n hx hb dX9_way_35 rfl (lv_at hl 0 rfl) ?_
    refine va_get (D := D) (ci := 9) (v := .ref h_ways) (C := RX9) (T := TX9) (N := 21) hx hb hz hX_X9 hown hK.1 hP 0 rfl rfl 5 (by decide) (hz _ z3_161) (fun _ h9 => h9) rfl dX9_way_36 ?_
    refine lv_iload_n hx hb dX9_way_39 rfl (lv_at hl 2 rfl) ?_
    refine lv_dup2_11 hx hb dX9_way_40 rfl rfl ?_
    obtain ⟨hi41, hw⟩ := hw
    refine va_iald hx hb hK.1 hP 1 0 rfl rfl hi41 dX9_way_41 ?_
    refine lv_iconst (v := (1 : Int32)) hx hb dX9_way_42 (by decide) ?_
    refine lv_iload_n hx hb dX9_way_43 rfl (lv_at hl 1 rfl) ?_
    refine lv_ishl hx hb dX9_way_44 ?_
    refine lv_iconst (v := (-1 : Int32)) hx hb dX9_way_45 (by decide) ?_
    refine lv_ixor hx hb dX9_way_46 ?_
    refine lv_iand hx hb dX9_way_47 ?_
    obtain ⟨hi48, hw⟩ := hw
    refine va_iast hx hb hK.1 hP hD hS 1 0 rfl rfl hi48 dX9_way_48 (fun H locs hP hD hS => ?_)
    have hP : va_P D vwCl (cw_X9_way cI h h_ways g_book g_now g_places g_power g_spite g_milky g_sights g_sight g_signs g_pad g_offAt g_offWho g_reason g_acts g_enough g_rows g_counts g_pours g_image g_isKept (upd (upd f_ways p1.toNatClampNeg ((f_ways p1.toNatClampNeg) &&& (((1 : Int32) <<< (p2 &&& 31)) ^^^ (-1 : Int32)))) p2.toNatClampNeg (((upd f_ways p1.toNatClampNeg ((f_ways p1.toNatClampNeg) &&& (((1 : Int32) <<< (p2 &&& 31)) ^^^ (-1 : Int32)))) p2.toNatClampNeg) &&& (((1 : Int32) <<< (p1 &&& 31)) ^^^ (-1 : Int32))))) H := hP
    have hD : va_D A (cw_X9_way cI h h_ways g_book g_now g_places g_power g_spite g_milky g_sights g_sight g_signs g_pad g_offAt g_offWho g_reason g_acts g_enough g_rows g_counts g_pours g_image g_isKept (upd (upd f_ways p1.toNatClampNeg ((f_ways p1.toNatClampNeg) &&& (((1 : Int32) <<< (p2 &&& 31)) ^^^ (-1 : Int32)))) p2.toNatClampNeg (((upd f_ways p1.toNatClampNeg ((f_ways p1.toNatClampNeg) &&& (((1 : Int32) <<< (p2 &&& 31)) ^^^ (-1 : Int32)))) p2.toNatClampNeg) &&& (((1 : Int32) <<< (p1 &&& 31)) ^^^ (-1 : Int32))))) := hD
    refine lv_aload_n hx hb dX9_way_49 rfl (lv_at hl 0 rfl) ?_
    refine va_get (D := D) (ci := 9) (v := .ref h_ways) (C := RX9) (T := TX9) (N := 21) hx hb hz hX_X9 hown hK.1 hP 0 rfl rfl 5 (by decide) (hz _ z3_161) (fun _ h9 => h9) rfl dX9_way_50 ?_
    refine lv_iload_n hx hb dX9_way_53 rfl (lv_at hl 1 rfl) ?_
    refine lv_dup2_11 hx hb dX9_way_54 rfl rfl ?_
    obtain ⟨hi55, hw⟩ := hw
    refine va_iald hx hb hK.1 hP 1 0 rfl rfl hi55 dX9_way_55 ?_
    refine lv_iload_n hx hb dX9_way_56 rfl (lv_at hl 3 rfl) ?_
    refine lv_if_eq (tgt := 66) hx hb dX9_way_57 (by decide) (fun c57 => ?_) (fun c57 => ?_)
    · have hw := hw.1 c57
      refine lv_iconst (v := (0 : Int32)) hx hb dX9_way_66 (by decide) ?_
      exact J67 (upd (upd f_ways p1.toNatClampNeg ((f_ways p1.toNatClampNeg) &&& (((1 : Int32) <<< (p2 &&& 31)) ^^^ (-1 : Int32)))) p2.toNatClampNeg (((upd f_ways p1.toNatClampNeg ((f_ways p1.toNatClampNeg) &&& (((1 : Int32) <<< (p2 &&& 31)) ^^^ (-1 : Int32)))) p2.toNatClampNeg) &&& (((1 : Int32) <<< (p1 &&& 31)) ^^^ (-1 : Int32)))) p1 ((upd (upd f_ways p1.toNatClampNeg ((f_ways p1.toNatClampNeg) &&& (((1 : Int32) <<< (p2 &&& 31)) ^^^ (-1 : Int32)))) p2.toNatClampNeg (((upd f_ways p1.toNatClampNeg ((f_ways p1.toNatClampNeg) &&& (((1 : Int32) <<< (p2 &&& 31)) ^^^ (-1 : Int32)))) p2.toNatClampNeg) &&& (((1 : Int32) <<< (p1 &&& 31)) ^^^ (-1 : Int32)))) p1.toNatClampNeg) (0 : Int32) _ _ _ hw hP hD hS (lv_sub hl [0, 1, 2, 3] rfl)
    have hw := hw.2 c57
    refine lv_iconst (v := (1 : Int32)) hx hb dX9_way_60 (by decide) ?_
    refine lv_iload_n hx hb dX9_way_61 rfl (lv_at hl 2 rfl) ?_
    refine lv_ishl hx hb dX9_way_62 ?_
    refine lv_goto (tgt := 67) hx hb dX9_way_63 (by decide) ?_
    exact J67 (upd (upd f_ways p1.toNatClampNeg ((f_ways p1.toNatClampNeg) &&& (((1 : Int32) <<< (p2 &&& 31)) ^^^ (-1 : Int32)))) p2.toNatClampNeg (((upd f_ways p1.toNatClampNeg ((f_ways p1.toNatClampNeg) &&& (((1 : Int32) <<< (p2 &&& 31)) ^^^ (-1 : Int32)))) p2.toNatClampNeg) &&& (((1 : Int32) <<< (p1 &&& 31)) ^^^ (-1 : Int32)))) p1 ((upd (upd f_ways p1.toNatClampNeg ((f_ways p1.toNatClampNeg) &&& (((1 : Int32) <<< (p2 &&& 31)) ^^^ (-1 : Int32)))) p2.toNatClampNeg (((upd f_ways p1.toNatClampNeg ((f_ways p1.toNatClampNeg) &&& (((1 : Int32) <<< (p2 &&& 31)) ^^^ (-1 : Int32)))) p2.toNatClampNeg) &&& (((1 : Int32) <<< (p1 &&& 31)) ^^^ (-1 : Int32)))) p1.toNatClampNeg) ((1 : Int32) <<< (p2 &&& 31)) _ _ _ hw hP hD hS (lv_sub hl [0, 1, 2, 3] rfl)
  have hw := hw.1 c16
  refine lv_iconst (v := (-1 : Int32)) hx hb dX9_way_19 (by decide) ?_
  exact z_iret hx hb hr hlocks f_ways hw hP hS dX9_way_20
abbrev cw_X9_milk (h : Nat) (g_book g_now g_places g_power g_spite g_ways g_sights g_sight g_signs g_pad g_offAt g_offWho g_reason g_acts g_enough g_rows g_counts g_pours g_image g_isKept : Value) (f_milky : Int32) : va_W := [(h, .inr (9, [g_book, g_now, g_places, g_power, g_spite, g_ways, .int f_milky, g_sights, g_sight, g_signs, g_pad, g_offAt, g_offWho, g_reason, g_acts, g_enough, g_rows, g_counts, g_pours, g_image, g_isKept]))]
abbrev q_X9_milk (D : va_G) (h : Nat) (g_book g_now g_places g_power g_spite g_ways g_sights g_sight g_signs g_pad g_offAt g_offWho g_reason g_acts g_enough g_rows g_counts g_pours g_image g_isKept : Value) (post : Int32 → Int32 → Prop) (A : Nat → Prop) : Array Value → State → Outcome → State → Prop := va_Qi (S := Int32) (fun r u => post r u) (fun u t => va_P D vwCl (cw_X9_milk h g_book g_now g_places g_power g_spite g_ways g_sights g_sight g_signs g_pad g_offAt g_offWho g_reason g_acts g_enough g_rows g_counts g_pours g_image g_isKept u) t.heap) A
abbrev v_X9_milk : List Cond := .code yX9_milk cX9_milk 3 (some .int) :: zB
theorem hd_X9_milk : yX9_milk.cls = RX9 ∧ yX9_milk.cls ≠ "java/lang/invoke/MethodHandle" ∧ yX9_milk.cls ≠ "java/lang/invoke/VarHandle" ∧ (parseMethodDescriptor yX9_milk.desc).map (fun d => d.parameters.length) = some 1 := by decide +kernel
set_option maxHeartbeats 4000000 in
set_option maxRecDepth 100000 in
theorem c_X9_milk (l : Launch) (D : va_G) (cI cC cZ : ClassId) (h : Nat) (g_book g_now g_places g_power g_spite g_ways g_sights g_sight g_signs g_pad g_offAt g_offWho g_reason g_acts g_enough g_rows g_counts g_pours g_image g_isKept : Value) (f_milky : Int32) (p1 : Int32) (sz : Nat) (post : Int32 → Int32 → Prop) (hw : w_X9_milk post f_milky p1) : Met l yX9_milk v_X9_milk ({ frames := 1, cells := 0, slots := 0, locals := 22 } : Room) (va_Pc [.ref h, .int p1] (zPre D (zT cI cC cZ) sz (cw_X9_milk h g_book g_now g_places g_power g_spite g_ways g_sights g_sight g_signs g_pad g_offAt g_offWho g_reason g_acts g_enough g_rows g_counts g_pours g_image g_isKept f_milky))) (q_X9_milk D h g_book g_now g_places g_power g_spite g_ways g_sights g_sight g_signs g_pad g_offAt g_offWho g_reason g_acts g_enough g_rows g_counts g_pours g_image g_isKept post (va_A (cw_X9_milk h g_book g_now g_places g_power g_spite g_ways g_sights g_sight g_signs g_pad g_offAt g_offWho g_reason g_acts g_enough g_rows g_counts g_pours g_image g_isKept f_milky) sz)) 0 0 (va_A (cw_X9_milk h g_book g_now g_places g_power g_spite g_ways g_sights g_sight g_signs g_pad g_offAt g_offWho g_reason g_acts g_enough g_rows g_counts g_pours g_image g_isKept f_milky) sz) := by
  refine Met.ofW (cc := cX9_milk) (maxL := 3) (ret := (some .int)) (by decide) rfl ?_
  intro p e s m args below meth c s₁ B hml hv
  obtain ⟨rfl, hsz, hP, hK, hD0⟩ := hv
  subst hsz
  have hx := B.exec
  have hb := B.bytes
  have hr := B.returns
  have hz : ∀ w ∈ zB, w.before _ s = true := fun w h => atoms_spec (ws := v_X9_milk) B.pre w (List.mem_cons_of_mem _ h)
  have hown : s.vm.findClass RX9 = some m.cls := findClass_of_methodNamed B.named
  have hlocks := B.notSynchronized
  have hF : CallFix p m c cX9_milk 3 s (([.ref h, .int p1] : List Value).toArray) zB RX9 := ⟨hx, hb, hml, hown, hz⟩
  have hD := hD0.self (sz := s.heap.size)
  generalize hAe : va_A (cw_X9_milk h g_book g_now g_places g_power g_spite g_ways g_sights g_sight g_signs g_pad g_offAt g_offWho g_reason g_acts g_enough g_rows g_counts g_pours g_image g_isKept f_milky) s.heap.size = A at hD ⊢
  have hA : ∀ q : Nat, s.heap.size ≤ q → A q := fun q h => by rw [← hAe]; exact Or.inr h
  have hS : va_S A s.heap s.heap [] := va_S.rf
  have hP : va_P D vwCl (cw_X9_milk h g_book g_now g_places g_power g_spite g_ways g_sights g_sight g_signs g_pad g_offAt g_offWho g_reason g_acts g_enough g_rows g_counts g_pours g_image g_isKept f_milky) s.heap := hP
  have hl := lv_entry ([.ref h, .int p1]) (n := 3) (Nat.le_of_ble_eq_true rfl)
  rw [lg_entry_eq]
  generalize (lg_sl ([.ref h, .int p1]) ++ List.replicate (3 - (lg_sl ([.ref h, .int p1])).length) Slot.unset).toArray = ls at hl ⊢
  have hl : lv_has ls 3 [(0, .ref h), (1, .int p1)] := hl
  unfold w_X9_milk at hw
  refine lv_iload_n hx hb dX9_milk_0 rfl (lv_at hl 1 rfl) ?_
  refine lv_iconst (v := (0 : Int32)) hx hb dX9_milk_1 (by decide) ?_
  refine lv_sipush (v := (4095 : Int32)) hx hb dX9_milk_2 (by decide) ?_
  refine z_ri (z_runS (As := [.int p1, .int (0 : Int32), .int (4095 : Int32)]) (rest := []) hF (c_X9_in l D cI cC cZ p1 (0 : Int32) (4095 : Int32) _ _ hw) (va_cwS 3 hz (z_gS z3_225 z3_226 z1_10 z3_227) rfl rfl rfl hd_X9_in ⟨Nat.le_of_ble_eq_true rfl, Nat.le_of_ble_eq_true rfl⟩) hK hP hD [] rfl rfl rfl hl.1 rfl (Nat.le_of_ble_eq_true rfl) dX9_milk_5 ⟨Nat.zero_le _, Nat.zero_le _⟩) hP hD hS hA [] rfl (fun _ => rfl) (fun _ => cw_X9_milk h g_book g_now g_places g_power g_spite g_ways g_sights g_sight g_signs g_pad g_offAt g_offWho g_reason g_acts g_enough g_rows g_counts g_pours g_image g_isKept f_milky) (fun _ => rfl) (fun r5 u5 H locs hw hP hD hS => ?_)
  obtain ⟨hn5, hw⟩ := hw
  try dsimp only at hw
  refine lv_if_ne (tgt := 14) hx hb dX9_milk_8 (by decide) (fun c8 => ?_) (fun c8 => ?_)
  · have hw := hw.2 c8
    refine lv_aload_n hx hb dX9_milk_14 rfl (lv_at hl 0 rfl) ?_
    refine va_get (D := D) (ci := 9) (v := .int f_milky) (C := RX9) (T := TX9) (N := 21) hx hb hz hX_X9 hown hK.1 hP 0 rfl rfl 6 (by decide) (hz _ z3_162) (fun _ h9 => h9) rfl dX9_milk_15 ?_
    refine lv_istore_n (lv' := [(2, .int f_milky), (0, .ref h), (1, .int p1)]) hx hb dX9_milk_18 rfl hl (by decide) rfl (fun ls hl => ?_)
    refine lv_aload_n hx hb dX9_milk_19 rfl (lv_at hl 1 rfl) ?_
    refine lv_iload_n hx hb dX9_milk_20 rfl (lv_at hl 2 rfl) ?_
    refine va_put (D := D) (ci := 9) (v := .int p1) (ty := .int) (C := RX9) (T := TX9) (N := 21) hx hb hz hX_X9 tyX9 tyX9_ok nmX9 hown hK.1 hP hD hS 0 rfl rfl 6 (by decide) (hz _ z3_162) (fun _ h9 => h9) rfl (tyX9_ok 6 (by decide)) rfl rfl (Nat.le_of_ble_eq_true rfl) dX9_milk_21 (fun H locs hP hD hS => ?_)
    have hP : va_P D vwCl (cw_X9_milk h g_book g_now g_places g_power g_spite g_ways g_sights g_sight g_signs g_pad g_offAt g_offWho g_reason g_acts g_enough g_rows g_counts g_pours g_image g_isKept p1) H := hP
    have hD : va_D A (cw_X9_milk h g_book g_now g_places g_power g_spite g_ways g_sights g_sight g_signs g_pad g_offAt g_offWho g_reason g_acts g_enough g_rows g_counts g_pours g_image g_isKept p1) := hD
    refine lv_iload_n hx hb dX9_milk_24 rfl (lv_at hl 0 rfl) ?_
    exact z_iret hx hb hr hlocks p1 hw hP hS dX9_milk_25
  have hw := hw.1 c8
  refine lv_bipush (v := (-2 : Int32)) hx hb dX9_milk_11 (by decide) ?_
  exact z_iret hx hb hr hlocks f_milky hw hP hS dX9_milk_13
abbrev cw_X9_say (cI : ClassId) (h h_pad : Nat) (g_book g_now g_places g_power g_spite g_ways g_milky g_sights g_sight g_offAt g_offWho g_reason g_acts g_enough g_rows g_counts g_pours g_image g_isKept : Value) (f_signs : Int32) (f_pad : Nat → Int32) : va_W := [(h, .inr (9, [g_book, g_now, g_places, g_power, g_spite, g_ways, g_milky, g_sights, g_sight, .int f_signs, .ref h_pad, g_offAt, g_offWho, g_reason, g_acts, g_enough, g_rows, g_counts, g_pours, g_image, g_isKept])), (h_pad, .inl (cI, 60, .inl f_pad))]
abbrev q_X9_say (D : va_G) (cI : ClassId) (h h_pad : Nat) (g_book g_now g_places g_power g_spite g_ways g_milky g_sights g_sight g_offAt g_offWho g_reason g_acts g_enough g_rows g_counts g_pours g_image g_isKept : Value) (post : Int32 → Int32 → (Nat → Int32) → Prop) (A : Nat → Prop) : Array Value → State → Outcome → State → Prop := va_Qi (S := Int32 × (Nat → Int32)) (fun r u => post r u.1 u.2) (fun u t => va_P D vwCl (cw_X9_say cI h h_pad g_book g_now g_places g_power g_spite g_ways g_milky g_sights g_sight g_offAt g_offWho g_reason g_acts g_enough g_rows g_counts g_pours g_image g_isKept u.1 u.2) t.heap) A
abbrev v_X9_say : List Cond := .code yX9_say cX9_say 2 (some .int) :: zB
theorem hd_X9_say : yX9_say.cls = RX9 ∧ yX9_say.cls ≠ "java/lang/invoke/MethodHandle" ∧ yX9_say.cls ≠ "java/lang/invoke/VarHandle" ∧ (parseMethodDescriptor yX9_say.desc).map (fun d => d.parameters.length) = some 1 := by decide +kernel
set_option maxHeartbeats 4000000 in
set_option maxRecDepth 100000 in
theorem c_X9_say (l : Launch) (D : va_G) (cI cC cZ : ClassId) (h h_pad : Nat) (g_book g_now g_places g_power g_spite g_ways g_milky g_sights g_sight g_offAt g_offWho g_reason g_acts g_enough g_rows g_counts g_pours g_image g_isKept : Value) (f_signs : Int32) (f_pad : Nat → Int32) (p1 : Int32) (sz : Nat) (post : Int32 → Int32 → (Nat → Int32) → Prop) (hw : w_X9_say post f_signs f_pad p1) : Met l yX9_say v_X9_say ({ frames := 1, cells := 0, slots := 0, locals := 22 } : Room) (va_Pc [.ref h, .int p1] (zPre D (zT cI cC cZ) sz (cw_X9_say cI h h_pad g_book g_now g_places g_power g_spite g_ways g_milky g_sights g_sight g_offAt g_offWho g_reason g_acts g_enough g_rows g_counts g_pours g_image g_isKept f_signs f_pad))) (q_X9_say D cI h h_pad g_book g_now g_places g_power g_spite g_ways g_milky g_sights g_sight g_offAt g_offWho g_reason g_acts g_enough g_rows g_counts g_pours g_image g_isKept post (va_A (cw_X9_say cI h h_pad g_book g_now g_places g_power g_spite g_ways g_milky g_sights g_sight g_offAt g_offWho g_reason g_acts g_enough g_rows g_counts g_pours g_image g_isKept f_signs f_pad) sz)) 0 0 (va_A (cw_X9_say cI h h_pad g_book g_now g_places g_power g_spite g_ways g_milky g_sights g_sight g_offAt g_offWho g_reason g_acts g_enough g_rows g_counts g_pours g_image g_isKept f_signs f_pad) sz) := by
  refine Met.ofW (cc := cX9_say) (maxL := 2) (ret := (some .int)) (by decide) rfl ?_
  intro p e s m args below meth c s₁ B hml hv
  obtain ⟨rfl, hsz, hP, hK, hD0⟩ := hv
  subst hsz
  have hx := B.exec
  have hb := B.bytes
  have hr := B.returns
  have hz : ∀ w ∈ zB, w.before _ s = true := fun w h => atoms_spec (ws := v_X9_say) B.pre w (List.mem_cons_of_mem _ h)
  have hown : s.vm.findClass RX9 = some m.cls := findClass_of_methodNamed B.named
  have hlocks := B.notSynchronized
  have hF : CallFix p m c cX9_say 2 s (([.ref h, .int p1] : List Value).toArray) zB RX9 := ⟨hx, hb, hml, hown, hz⟩
  have hD := hD0.self (sz := s.heap.size)
  generalize hAe : va_A (cw_X9_say cI h h_pad g_book g_now g_places g_power g_spite g_ways g_milky g_sights g_sight g_offAt g_offWho g_reason g_acts g_enough g_rows g_counts g_pours g_image g_isKept f_signs f_pad) s.heap.size = A at hD ⊢
  have hA : ∀ q : Nat, s.heap.size ≤ q → A q := fun q h => by rw [← hAe]; exact Or.inr h
  have hS : va_S A s.heap s.heap [] := va_S.rf
  have hP : va_P D vwCl (cw_X9_say cI h h_pad g_book g_now g_places g_power g_spite g_ways g_milky g_sights g_sight g_offAt g_offWho g_reason g_acts g_enough g_rows g_counts g_pours g_image g_isKept f_signs f_pad) s.heap := hP
  have hl := lv_entry ([.ref h, .int p1]) (n := 2) (Nat.le_of_ble_eq_true rfl)
  rw [lg_entry_eq]
  generalize (lg_sl ([.ref h, .int p1]) ++ List.replicate (2 - (lg_sl ([.ref h, .int p1])).length) Slot.unset).toArray = ls at hl ⊢
  have hl : lv_has ls 2 [(0, .ref h), (1, .int p1)] := hl
  unfold w_X9_say at hw
  refine lv_iload_n hx hb dX9_say_0 rfl (lv_at hl 1 rfl) ?_
  refine lv_bipush (v := (33 : Int32)) hx hb dX9_say_1 (by decide) ?_
  refine lv_bipush (v := (126 : Int32)) hx hb dX9_say_3 (by decide) ?_
  refine z_ri (z_runS (As := [.int p1, .int (33 : Int32), .int (126 : Int32)]) (rest := []) hF (c_X9_in l D cI cC cZ p1 (33 : Int32) (126 : Int32) _ _ hw) (va_cwS 3 hz (z_gS z3_225 z3_226 z1_10 z3_227) rfl rfl rfl hd_X9_in ⟨Nat.le_of_ble_eq_true rfl, Nat.le_of_ble_eq_true rfl⟩) hK hP hD [] rfl rfl rfl hl.1 rfl (Nat.le_of_ble_eq_true rfl) dX9_say_5 ⟨Nat.zero_le _, Nat.zero_le _⟩) hP hD hS hA [] rfl (fun _ => rfl) (fun _ => cw_X9_say cI h h_pad g_book g_now g_places g_power g_spite g_ways g_milky g_sights g_sight g_offAt g_offWho g_reason g_acts g_enough g_rows g_counts g_pours g_image g_isKept f_signs f_pad) (fun _ => rfl) (fun r5 u5 H locs hw hP hD hS => ?_)
  obtain ⟨hn5, hw⟩ := hw
  try dsimp only at hw
  refine lv_if_ne (tgt := 14) hx hb dX9_say_8 (by decide) (fun c8 => ?_) (fun c8 => ?_)
  · have hw := hw.2 c8
    refine lv_aload_n hx hb dX9_say_14 rfl (lv_at hl 0 rfl) ?_
    refine va_get (D := D) (ci := 9) (v := .int f_signs) (C := RX9) (T := TX9) (N := 21) hx hb hz hX_X9 hown hK.1 hP 0 rfl rfl 9 (by decide) (hz _ z3_165) (fun _ h9 => h9) rfl dX9_say_15 ?_
    refine lv_bipush (v := (60 : Int32)) hx hb dX9_say_18 (by decide) ?_
    refine lv_icmp_ne (tgt := 26) hx hb dX9_say_20 (by decide) (fun c20 => ?_) (fun c20 => ?_)
    · have hw := hw.2 c20
      refine lv_aload_n hx hb dX9_say_26 rfl (lv_at hl 0 rfl) ?_
      refine va_get (D := D) (ci := 9) (v := .ref h_pad) (C := RX9) (T := TX9) (N := 21) hx hb hz hX_X9 hown hK.1 hP 0 rfl rfl 10 (by decide) (hz _ z3_166) (fun _ h9 => h9) rfl dX9_say_27 ?_
      refine lv_aload_n hx hb dX9_say_30 rfl (lv_at hl 0 rfl) ?_
      refine va_get (D := D) (ci := 9) (v := .int f_signs) (C := RX9) (T := TX9) (N := 21) hx hb hz hX_X9 hown hK.1 hP 0 rfl rfl 9 (by decide) (hz _ z3_165) (fun _ h9 => h9) rfl dX9_say_31 ?_
      refine lv_iload_n hx hb dX9_say_34 rfl (lv_at hl 1 rfl) ?_
      obtain ⟨hi35, hw⟩ := hw
      refine va_iast hx hb hK.1 hP hD hS 1 0 rfl rfl hi35 dX9_say_35 (fun H locs hP hD hS => ?_)
      have hP : va_P D vwCl (cw_X9_say cI h h_pad g_book g_now g_places g_power g_spite g_ways g_milky g_sights g_sight g_offAt g_offWho g_reason g_acts g_enough g_rows g_counts g_pours g_image g_isKept f_signs (upd f_pad f_signs.toNatClampNeg p1)) H := hP
      have hD : va_D A (cw_X9_say cI h h_pad g_book g_now g_places g_power g_spite g_ways g_milky g_sights g_sight g_offAt g_offWho g_reason g_acts g_enough g_rows g_counts g_pours g_image g_isKept f_signs (upd f_pad f_signs.toNatClampNeg p1)) := hD
      refine lv_aload_n hx hb dX9_say_36 rfl (lv_at hl 0 rfl) ?_
      refine lv_dup hx hb dX9_say_37 rfl ?_
      refine va_get (D := D) (ci := 9) (v := .int f_signs) (C := RX9) (T := TX9) (N := 21) hx hb hz hX_X9 hown hK.1 hP 0 rfl rfl 9 (by decide) (hz _ z3_165) (fun _ h9 => h9) rfl dX9_say_38 ?_
      refine lv_iconst (v := (1 : Int32)) hx hb dX9_say_41 (by decide) ?_
      refine lv_iadd hx hb dX9_say_42 ?_
      refine va_put (D := D) (ci := 9) (v := .int (f_signs + (1 : Int32))) (ty := .int) (C := RX9) (T := TX9) (N := 21) hx hb hz hX_X9 tyX9 tyX9_ok nmX9 hown hK.1 hP hD hS 0 rfl rfl 9 (by decide) (hz _ z3_165) (fun _ h9 => h9) rfl (tyX9_ok 9 (by decide)) rfl rfl (Nat.le_of_ble_eq_true rfl) dX9_say_43 (fun H locs hP hD hS => ?_)
      have hP : va_P D vwCl (cw_X9_say cI h h_pad g_book g_now g_places g_power g_spite g_ways g_milky g_sights g_sight g_offAt g_offWho g_reason g_acts g_enough g_rows g_counts g_pours g_image g_isKept (f_signs + (1 : Int32)) (upd f_pad f_signs.toNatClampNeg p1)) H := hP
      have hD : va_D A (cw_X9_say cI h h_pad g_book g_now g_places g_power g_spite g_ways g_milky g_sights g_sight g_offAt g_offWho g_reason g_acts g_enough g_rows g_counts g_pours g_image g_isKept (f_signs + (1 : Int32)) (upd f_pad f_signs.toNatClampNeg p1)) := hD
      refine lv_aload_n hx hb dX9_say_46 rfl (lv_at hl 0 rfl) ?_
      refine va_get (D := D) (ci := 9) (v := .int (f_signs + (1 : Int32))) (C := RX9) (T := TX9) (N := 21) hx hb hz hX_X9 hown hK.1 hP 0 rfl rfl 9 (by decide) (hz _ z3_165) (fun _ h9 => h9) rfl dX9_say_47 ?_
      exact z_iret hx hb hr hlocks ((f_signs + (1 : Int32)), (upd f_pad f_signs.toNatClampNeg p1)) hw hP hS dX9_say_50
    have hw := hw.1 c20
    refine lv_bipush (v := (-4 : Int32)) hx hb dX9_say_23 (by decide) ?_
    exact z_iret hx hb hr hlocks (f_signs, f_pad) hw hP hS dX9_say_25
  have hw := hw.1 c8
  refine lv_bipush (v := (-2 : Int32)) hx hb dX9_say_11 (by decide) ?_
  exact z_iret hx hb hr hlocks (f_signs, f_pad) hw hP hS dX9_say_13
abbrev cw_X9_wipe (h : Nat) (g_book g_now g_places g_power g_spite g_ways g_milky g_sights g_sight g_pad g_offAt g_offWho g_reason g_acts g_enough g_rows g_counts g_pours g_image g_isKept : Value) (f_signs : Int32) : va_W := [(h, .inr (9, [g_book, g_now, g_places, g_power, g_spite, g_ways, g_milky, g_sights, g_sight, .int f_signs, g_pad, g_offAt, g_offWho, g_reason, g_acts, g_enough, g_rows, g_counts, g_pours, g_image, g_isKept]))]
abbrev q_X9_wipe (D : va_G) (h : Nat) (g_book g_now g_places g_power g_spite g_ways g_milky g_sights g_sight g_pad g_offAt g_offWho g_reason g_acts g_enough g_rows g_counts g_pours g_image g_isKept : Value) (post : Int32 → Int32 → Prop) (A : Nat → Prop) : Array Value → State → Outcome → State → Prop := va_Qi (S := Int32) (fun r u => post r u) (fun u t => va_P D vwCl (cw_X9_wipe h g_book g_now g_places g_power g_spite g_ways g_milky g_sights g_sight g_pad g_offAt g_offWho g_reason g_acts g_enough g_rows g_counts g_pours g_image g_isKept u) t.heap) A
abbrev v_X9_wipe : List Cond := .code yX9_wipe cX9_wipe 2 (some .int) :: zB
theorem hd_X9_wipe : yX9_wipe.cls = RX9 ∧ yX9_wipe.cls ≠ "java/lang/invoke/MethodHandle" ∧ yX9_wipe.cls ≠ "java/lang/invoke/VarHandle" ∧ (parseMethodDescriptor yX9_wipe.desc).map (fun d => d.parameters.length) = some 0 := by decide +kernel
set_option maxHeartbeats 4000000 in
set_option maxRecDepth 100000 in
theorem c_X9_wipe (l : Launch) (D : va_G) (cI cC cZ : ClassId) (h : Nat) (g_book g_now g_places g_power g_spite g_ways g_milky g_sights g_sight g_pad g_offAt g_offWho g_reason g_acts g_enough g_rows g_counts g_pours g_image g_isKept : Value) (f_signs : Int32) (sz : Nat) (post : Int32 → Int32 → Prop) (hw : w_X9_wipe post f_signs) : Met l yX9_wipe v_X9_wipe ({ frames := 0, cells := 0, slots := 0, locals := 0 } : Room) (va_Pc [.ref h] (zPre D (zT cI cC cZ) sz (cw_X9_wipe h g_book g_now g_places g_power g_spite g_ways g_milky g_sights g_sight g_pad g_offAt g_offWho g_reason g_acts g_enough g_rows g_counts g_pours g_image g_isKept f_signs))) (q_X9_wipe D h g_book g_now g_places g_power g_spite g_ways g_milky g_sights g_sight g_pad g_offAt g_offWho g_reason g_acts g_enough g_rows g_counts g_pours g_image g_isKept post (va_A (cw_X9_wipe h g_book g_now g_places g_power g_spite g_ways g_milky g_sights g_sight g_pad g_offAt g_offWho g_reason g_acts g_enough g_rows g_counts g_pours g_image g_isKept f_signs) sz)) 0 0 (va_A (cw_X9_wipe h g_book g_now g_places g_power g_spite g_ways g_milky g_sights g_sight g_pad g_offAt g_offWho g_reason g_acts g_enough g_rows g_counts g_pours g_image g_isKept f_signs) sz) := by
  refine Met.ofW (cc := cX9_wipe) (maxL := 2) (ret := (some .int)) (by decide) rfl ?_
  intro p e s m args below meth c s₁ B hml hv
  obtain ⟨rfl, hsz, hP, hK, hD0⟩ := hv
  subst hsz
  have hx := B.exec
  have hb := B.bytes
  have hr := B.returns
  have hz : ∀ w ∈ zB, w.before _ s = true := fun w h => atoms_spec (ws := v_X9_wipe) B.pre w (List.mem_cons_of_mem _ h)
  have hown : s.vm.findClass RX9 = some m.cls := findClass_of_methodNamed B.named
  have hlocks := B.notSynchronized
  have hF : CallFix p m c cX9_wipe 2 s (([.ref h] : List Value).toArray) zB RX9 := ⟨hx, hb, hml, hown, hz⟩
  have hD := hD0.self (sz := s.heap.size)
  generalize hAe : va_A (cw_X9_wipe h g_book g_now g_places g_power g_spite g_ways g_milky g_sights g_sight g_pad g_offAt g_offWho g_reason g_acts g_enough g_rows g_counts g_pours g_image g_isKept f_signs) s.heap.size = A at hD ⊢
  have hA : ∀ q : Nat, s.heap.size ≤ q → A q := fun q h => by rw [← hAe]; exact Or.inr h
  have hS : va_S A s.heap s.heap [] := va_S.rf
  have hP : va_P D vwCl (cw_X9_wipe h g_book g_now g_places g_power g_spite g_ways g_milky g_sights g_sight g_pad g_offAt g_offWho g_reason g_acts g_enough g_rows g_counts g_pours g_image g_isKept f_signs) s.heap := hP
  have hl := lv_entry ([.ref h]) (n := 2) (Nat.le_of_ble_eq_true rfl)
  rw [lg_entry_eq]
  generalize (lg_sl ([.ref h]) ++ List.replicate (2 - (lg_sl ([.ref h])).length) Slot.unset).toArray = ls at hl ⊢
  have hl : lv_has ls 2 [(0, .ref h)] := hl
  unfold w_X9_wipe at hw
  refine lv_aload_n hx hb dX9_wipe_0 rfl (lv_at hl 0 rfl) ?_
  refine va_get (D := D) (ci := 9) (v := .int f_signs) (C := RX9) (T := TX9) (N := 21) hx hb hz hX_X9 hown hK.1 hP 0 rfl rfl 9 (by decide) (hz _ z3_165) (fun _ h9 => h9) rfl dX9_wipe_1 ?_
  refine lv_istore_n (lv' := [(1, .int f_signs), (0, .ref h)]) hx hb dX9_wipe_4 rfl hl (by decide) rfl (fun ls hl => ?_)
  refine lv_aload_n hx hb dX9_wipe_5 rfl (lv_at hl 1 rfl) ?_
  refine lv_iconst (v := (0 : Int32)) hx hb dX9_wipe_6 (by decide) ?_
  refine va_put (D := D) (ci := 9) (v := .int (0 : Int32)) (ty := .int) (C := RX9) (T := TX9) (N := 21) hx hb hz hX_X9 tyX9 tyX9_ok nmX9 hown hK.1 hP hD hS 0 rfl rfl 9 (by decide) (hz _ z3_165) (fun _ h9 => h9) rfl (tyX9_ok 9 (by decide)) rfl rfl (Nat.le_of_ble_eq_true rfl) dX9_wipe_7 (fun H locs hP hD hS => ?_)
  have hP : va_P D vwCl (cw_X9_wipe h g_book g_now g_places g_power g_spite g_ways g_milky g_sights g_sight g_pad g_offAt g_offWho g_reason g_acts g_enough g_rows g_counts g_pours g_image g_isKept (0 : Int32)) H := hP
  have hD : va_D A (cw_X9_wipe h g_book g_now g_places g_power g_spite g_ways g_milky g_sights g_sight g_pad g_offAt g_offWho g_reason g_acts g_enough g_rows g_counts g_pours g_image g_isKept (0 : Int32)) := hD
  refine lv_iload_n hx hb dX9_wipe_10 rfl (lv_at hl 0 rfl) ?_
  exact z_iret hx hb hr hlocks (0 : Int32) hw hP hS dX9_wipe_11
abbrev cw_X9_faultOf (cI : ClassId) (h h_pad : Nat) (g_book g_now g_places g_power g_spite g_ways g_milky g_sights g_sight g_offAt g_offWho g_reason g_acts g_enough g_rows g_counts g_pours g_image g_isKept : Value) (f_signs : Int32) (f_pad : Nat → Int32) : va_W := [(h, .inr (9, [g_book, g_now, g_places, g_power, g_spite, g_ways, g_milky, g_sights, g_sight, .int f_signs, .ref h_pad, g_offAt, g_offWho, g_reason, g_acts, g_enough, g_rows, g_counts, g_pours, g_image, g_isKept])), (h_pad, .inl (cI, 60, .inl f_pad))]
abbrev q_X9_faultOf (D : va_G) (cI : ClassId) (h h_pad : Nat) (g_book g_now g_places g_power g_spite g_ways g_milky g_sights g_sight g_offAt g_offWho g_reason g_acts g_enough g_rows g_counts g_pours g_image g_isKept : Value) (post : Int32 → Prop) (f_signs : Int32) (f_pad : Nat → Int32) (A : Nat → Prop) : Array Value → State → Outcome → State → Prop := va_Qi (S := Unit) (fun r _ => post r ) (fun _ t => va_P D vwCl (cw_X9_faultOf cI h h_pad g_book g_now g_places g_power g_spite g_ways g_milky g_sights g_sight g_offAt g_offWho g_reason g_acts g_enough g_rows g_counts g_pours g_image g_isKept f_signs f_pad) t.heap) A
abbrev v_X9_faultOf : List Cond := .code yX9_faultOf cX9_faultOf 7 (some .int) :: zB
theorem hd_X9_faultOf : yX9_faultOf.cls = RX9 ∧ yX9_faultOf.cls ≠ "java/lang/invoke/MethodHandle" ∧ yX9_faultOf.cls ≠ "java/lang/invoke/VarHandle" ∧ (parseMethodDescriptor yX9_faultOf.desc).map (fun d => d.parameters.length) = some 0 := by decide +kernel
set_option maxHeartbeats 4000000 in
set_option maxRecDepth 100000 in
theorem c_X9_faultOf (l : Launch) (D : va_G) (cI cC cZ : ClassId) (h h_pad : Nat) (g_book g_now g_places g_power g_spite g_ways g_milky g_sights g_sight g_offAt g_offWho g_reason g_acts g_enough g_rows g_counts g_pours g_image g_isKept : Value) (f_signs : Int32) (f_pad : Nat → Int32) (sz : Nat) (post : Int32 → Prop) (hw : w_X9_faultOf post f_signs f_pad) : Met l yX9_faultOf v_X9_faultOf ({ frames := 1, cells := 0, slots := 0, locals := 22 } : Room) (va_Pc [.ref h] (zPre D (zT cI cC cZ) sz (cw_X9_faultOf cI h h_pad g_book g_now g_places g_power g_spite g_ways g_milky g_sights g_sight g_offAt g_offWho g_reason g_acts g_enough g_rows g_counts g_pours g_image g_isKept f_signs f_pad))) (q_X9_faultOf D cI h h_pad g_book g_now g_places g_power g_spite g_ways g_milky g_sights g_sight g_offAt g_offWho g_reason g_acts g_enough g_rows g_counts g_pours g_image g_isKept post f_signs f_pad (va_A (cw_X9_faultOf cI h h_pad g_book g_now g_places g_power g_spite g_ways g_milky g_sights g_sight g_offAt g_offWho g_reason g_acts g_enough g_rows g_counts g_pours g_image g_isKept f_signs f_pad) sz)) 0 0 (va_A (cw_X9_faultOf cI h h_pad g_book g_now g_places g_power g_spite g_ways g_milky g_sights g_sight g_offAt g_offWho g_reason g_acts g_enough g_rows g_counts g_pours g_image g_isKept f_signs f_pad) sz) := by
  refine Met.ofW (cc := cX9_faultOf) (maxL := 7) (ret := (some .int)) (by decide) rfl ?_
  intro p e s m args below meth c s₁ B hml hv
  obtain ⟨rfl, hsz, hP, hK, hD0⟩ := hv
  subst hsz
  have hx := B.exec
  have hb := B.bytes
  have hr := B.returns
  have hz : ∀ w ∈ zB, w.before _ s = true := fun w h => atoms_spec (ws := v_X9_faultOf) B.pre w (List.mem_cons_of_mem _ h)
  have hown : s.vm.findClass RX9 = some m.cls := findClass_of_methodNamed B.named
  have hlocks := B.notSynchronized
  have hF : CallFix p m c cX9_faultOf 7 s (([.ref h] : List Value).toArray) zB RX9 := ⟨hx, hb, hml, hown, hz⟩
  have hD := hD0.self (sz := s.heap.size)
  generalize hAe : va_A (cw_X9_faultOf cI h h_pad g_book g_now g_places g_power g_spite g_ways g_milky g_sights g_sight g_offAt g_offWho g_reason g_acts g_enough g_rows g_counts g_pours g_image g_isKept f_signs f_pad) s.heap.size = A at hD ⊢
  have hA : ∀ q : Nat, s.heap.size ≤ q → A q := fun q h => by rw [← hAe]; exact Or.inr h
  have hS : va_S A s.heap s.heap [] := va_S.rf
  have hP : va_P D vwCl (cw_X9_faultOf cI h h_pad g_book g_now g_places g_power g_spite g_ways g_milky g_sights g_sight g_offAt g_offWho g_reason g_acts g_enough g_rows g_counts g_pours g_image g_isKept f_signs f_pad) s.heap := hP
  have hl := lv_entry ([.ref h]) (n := 7) (Nat.le_of_ble_eq_true rfl)
  rw [lg_entry_eq]
  generalize (lg_sl ([.ref h]) ++ List.replicate (7 - (lg_sl ([.ref h])).length) Slot.unset).toArray = ls at hl ⊢
  have hl : lv_has ls 7 [(0, .ref h)] := hl
  have L4 : ∀ (n4 : Nat) (x1 : Int32) (x2 : Int32) (H : Heap) (locs : List Loc) (ls : Array Slot) (hw : w_X9_faultOf_B4 post f_signs f_pad n4 x1 x2) (hP : va_P D vwCl (cw_X9_faultOf cI h h_pad g_book g_now g_places g_power g_spite g_ways g_milky g_sights g_sight g_offAt g_offWho g_reason g_acts g_enough g_rows g_counts g_pours g_image g_isKept f_signs f_pad) H) (hD : va_D A (cw_X9_faultOf cI h h_pad g_book g_now g_places g_power g_spite g_ways g_milky g_sights g_sight g_offAt g_offWho g_reason g_acts g_enough g_rows g_counts g_pours g_image g_isKept f_signs f_pad)) (hS : va_S A s.heap H locs) (hl : lv_has ls 7 [(0, .ref h), (1, .int x1), (2, .int x2)]), W p l e (headSpec v_X9_faultOf ({ frames := 1, cells := 0, slots := 0, locals := 22 } : Room)).room s m (([.ref h] : List Value).toArray) below meth c H locs 0 0 (MQ below (q_X9_faultOf D cI h h_pad g_book g_now g_places g_power g_spite g_ways g_milky g_sights g_sight g_offAt g_offWho g_reason g_acts g_enough g_rows g_counts g_pours g_image g_isKept post f_signs f_pad A) (([.ref h] : List Value).toArray) s 0 0 A) (F0 m 4 ls []) := by
    intro n4
    induction n4 with
    | zero => intro x1 x2 H locs ls hw; exact False.elim hw
    | succ n4 ih4 =>
      have J157 : ∀ (x2 : Int32) (s0 : Int32) (H : Heap) (locs : List Loc) (ls : Array Slot) (hw : w_X9_faultOf_B157 post f_signs f_pad (fun x1 x2 => w_X9_faultOf_B4 post f_signs f_pad n4 x1 x2) x2 s0) (hP : va_P D vwCl (cw_X9_faultOf cI h h_pad g_book g_now g_places g_power g_spite g_ways g_milky g_sights g_sight g_offAt g_offWho g_reason g_acts g_enough g_rows g_counts g_pours g_image g_isKept f_signs f_pad) H) (hD : va_D A (cw_X9_faultOf cI h h_pad g_book g_now g_places g_power g_spite g_ways g_milky g_sights g_sight g_offAt g_offWho g_reason g_acts g_enough g_rows g_counts g_pours g_image g_isKept f_signs f_pad)) (hS : va_S A s.heap H locs) (hl : lv_has ls 7 [(0, .ref h), (2, .int x2)]), W p l e (headSpec v_X9_faultOf ({ frames := 1, cells := 0, slots := 0, locals := 22 } : Room)).room s m (([.ref h] : List Value).toArray) below meth c H locs 0 0 (MQ below (q_X9_faultOf D cI h h_pad g_book g_now g_places g_power g_spite g_ways g_milky g_sights g_sight g_offAt g_offWho g_reason g_acts g_enough g_rows g_counts g_pours g_image g_isKept post f_signs f_pad A) (([.ref h] : List Value).toArray) s 0 0 A) (F0 m 157 ls [.int s0]) := by
        intro x2 s0 H locs ls hw hP hD hS hl
        unfold w_X9_faultOf_B157 at hw
        refine lv_istore_n (lv' := [(1, .int s0), (0, .ref h), (2, .int x2)]) hx hb dX9_faultOf_157 rfl hl (by decide) rfl (fun ls hl => ?_)
        refine lv_iinc (k := 2) (v := (x2 + 1)) (lv' := [(2, .int (x2 + 1)), (1, .int s0), (0, .ref h)]) hx hb dX9_faultOf_158 hl rfl rfl (by decide) rfl (fun ls hl => ?_)
        refine lv_goto (tgt := 4) hx hb dX9_faultOf_161 (by decide) ?_
        exact ih4 s0 (x2 + 1) _ _ _ hw hP hD hS (lv_sub hl [2, 1, 0] rfl)
      have J121 : ∀ (x1 : Int32) (x2 : Int32) (x4 : Int32) (x5 : Int32) (s0 : Int32) (H : Heap) (locs : List Loc) (ls : Array Slot) (hw : w_X9_faultOf_B121 post f_signs f_pad (fun x1 x2 => w_X9_faultOf_B4 post f_signs f_pad n4 x1 x2) x1 x2 x4 x5 s0) (hP : va_P D vwCl (cw_X9_faultOf cI h h_pad g_book g_now g_places g_power g_spite g_ways g_milky g_sights g_sight g_offAt g_offWho g_reason g_acts g_enough g_rows g_counts g_pours g_image g_isKept f_signs f_pad) H) (hD : va_D A (cw_X9_faultOf cI h h_pad g_book g_now g_places g_power g_spite g_ways g_milky g_sights g_sight g_offAt g_offWho g_reason g_acts g_enough g_rows g_counts g_pours g_image g_isKept f_signs f_pad)) (hS : va_S A s.heap H locs) (hl : lv_has ls 7 [(0, .ref h), (1, .int x1), (2, .int x2), (4, .int x4), (5, .int x5)]), W p l e (headSpec v_X9_faultOf ({ frames := 1, cells := 0, slots := 0, locals := 22 } : Room)).room s m (([.ref h] : List Value).toArray) below meth c H locs 0 0 (MQ below (q_X9_faultOf D cI h h_pad g_book g_now g_places g_power g_spite g_ways g_milky g_sights g_sight g_offAt g_offWho g_reason g_acts g_enough g_rows g_counts g_pours g_image g_isKept post f_signs f_pad A) (([.ref h] : List Value).toArray) s 0 0 A) (F0 m 121 ls [.int s0]) := by
        intro x1 x2 x4 x5 s0 H locs ls hw hP hD hS hl
        unfold w_X9_faultOf_B121 at hw
        refine lv_istore (lv' := [(6, .int s0), (0, .ref h), (1, .int x1), (2, .int x2), (4, .int x4), (5, .int x5)]) hx hb dX9_faultOf_121 hl (by decide) rfl (fun ls hl => ?_)
        refine lv_iload hx hb dX9_faultOf_123 (lv_at hl 0 rfl) ?_
        refine lv_if_ne (tgt := 130) hx hb dX9_faultOf_125 (by decide) (fun c125 => ?_) (fun c125 => ?_)
        · have hw := hw.2 c125
          refine lv_iload_n hx hb dX9_faultOf_130 rfl (lv_at hl 2 rfl) ?_
          refine lv_if_eq (tgt := 138) hx hb dX9_faultOf_131 (by decide) (fun c131 => ?_) (fun c131 => ?_)
          · have hw := hw.1 c131
            refine lv_iload hx hb dX9_faultOf_138 (lv_at hl 4 rfl) ?_
            refine lv_if_eq (tgt := 147) hx hb dX9_faultOf_140 (by decide) (fun c140 => ?_) (fun c140 => ?_)
            · have hw := hw.1 c140
              refine lv_iload hx hb dX9_faultOf_147 (lv_at hl 5 rfl) ?_
              refine lv_if_eq (tgt := 156) hx hb dX9_faultOf_149 (by decide) (fun c149 => ?_) (fun c149 => ?_)
              · have hw := hw.1 c149
                refine lv_iconst (v := (0 : Int32)) hx hb dX9_faultOf_156 (by decide) ?_
                exact J157 x2 (0 : Int32) _ _ _ hw hP hD hS (lv_sub hl [1, 3] rfl)
              have hw := hw.2 c149
              refine lv_iconst (v := (2 : Int32)) hx hb dX9_faultOf_152 (by decide) ?_
              refine lv_goto (tgt := 157) hx hb dX9_faultOf_153 (by decide) ?_
              exact J157 x2 (2 : Int32) _ _ _ hw hP hD hS (lv_sub hl [1, 3] rfl)
            have hw := hw.2 c140
            refine lv_iconst (v := (1 : Int32)) hx hb dX9_faultOf_143 (by decide) ?_
            refine lv_goto (tgt := 157) hx hb dX9_faultOf_144 (by decide) ?_
            exact J157 x2 (1 : Int32) _ _ _ hw hP hD hS (lv_sub hl [1, 3] rfl)
          have hw := hw.2 c131
          refine lv_iconst (v := (0 : Int32)) hx hb dX9_faultOf_134 (by decide) ?_
          refine lv_goto (tgt := 157) hx hb dX9_faultOf_135 (by decide) ?_
          exact J157 x2 (0 : Int32) _ _ _ hw hP hD hS (lv_sub hl [1, 3] rfl)
        have hw := hw.1 c125
        refine lv_iload_n hx hb dX9_faultOf_128 rfl (lv_at hl 3 rfl) ?_
        exact z_iret hx hb hr hlocks () hw hP hS dX9_faultOf_129
      have J105 : ∀ (x1 : Int32) (x2 : Int32) (x4 : Int32) (x5 : Int32) (H : Heap) (locs : List Loc) (ls : Array Slot) (hw : w_X9_faultOf_B105 post f_signs f_pad (fun x1 x2 => w_X9_faultOf_B4 post f_signs f_pad n4 x1 x2) x1 x2 x4 x5) (hP : va_P D vwCl (cw_X9_faultOf cI h h_pad g_book g_now g_places g_power g_spite g_ways g_milky g_sights g_sight g_offAt g_offWho g_reason g_acts g_enough g_rows g_counts g_pours g_image g_isKept f_signs f_pad) H) (hD : va_D A (cw_X9_faultOf cI h h_pad g_book g_now g_places g_power g_spite g_ways g_milky g_sights g_sight g_offAt g_offWho g_reason g_acts g_enough g_rows g_counts g_pours g_image g_isKept f_signs f_pad)) (hS : va_S A s.heap H locs) (hl : lv_has ls 7 [(0, .ref h), (1, .int x1), (2, .int x2), (4, .int x4), (5, .int x5)]), W p l e (headSpec v_X9_faultOf ({ frames := 1, cells := 0, slots := 0, locals := 22 } : Room)).room s m (([.ref h] : List Value).toArray) below meth c H locs 0 0 (MQ below (q_X9_faultOf D cI h h_pad g_book g_now g_places g_power g_spite g_ways g_milky g_sights g_sight g_offAt g_offWho g_reason g_acts g_enough g_rows g_counts g_pours g_image g_isKept post f_signs f_pad A) (([.ref h] : List Value).toArray) s 0 0 A) (F0 m 105 ls []) := by
        intro x1 x2 x4 x5 H locs ls hw hP hD hS hl
        unfold w_X9_faultOf_B105 at hw
        refine lv_iconst (v := (1 : Int32)) hx hb dX9_faultOf_105 (by decide) ?_
        refine lv_goto (tgt := 121) hx hb dX9_faultOf_106 (by decide) ?_
        exact J121 x1 x2 x4 x5 (1 : Int32) _ _ _ hw hP hD hS (lv_sub hl [0, 1, 2, 3, 4] rfl)
      have J68 : ∀ (x1 : Int32) (x2 : Int32) (x4 : Int32) (x5 : Int32) (H : Heap) (locs : List Loc) (ls : Array Slot) (hw : w_X9_faultOf_B68 post f_signs f_pad (fun x1 x2 => w_X9_faultOf_B4 post f_signs f_pad n4 x1 x2) x1 x2 x4 x5) (hP : va_P D vwCl (cw_X9_faultOf cI h h_pad g_book g_now g_places g_power g_spite g_ways g_milky g_sights g_sight g_offAt g_offWho g_reason g_acts g_enough g_rows g_counts g_pours g_image g_isKept f_signs f_pad) H) (hD : va_D A (cw_X9_faultOf cI h h_pad g_book g_now g_places g_power g_spite g_ways g_milky g_sights g_sight g_offAt g_offWho g_reason g_acts g_enough g_rows g_counts g_pours g_image g_isKept f_signs f_pad)) (hS : va_S A s.heap H locs) (hl : lv_has ls 7 [(0, .ref h), (1, .int x1), (2, .int x2), (4, .int x4), (5, .int x5)]), W p l e (headSpec v_X9_faultOf ({ frames := 1, cells := 0, slots := 0, locals := 22 } : Room)).room s m (([.ref h] : List Value).toArray) below meth c H locs 0 0 (MQ below (q_X9_faultOf D cI h h_pad g_book g_now g_places g_power g_spite g_ways g_milky g_sights g_sight g_offAt g_offWho g_reason g_acts g_enough g_rows g_counts g_pours g_image g_isKept post f_signs f_pad A) (([.ref h] : List Value).toArray) s 0 0 A) (F0 m 68 ls []) := by
        intro x1 x2 x4 x5 H locs ls hw hP hD hS hl
        unfold w_X9_faultOf_B68 at hw
        refine lv_iconst (v := (1 : Int32)) hx hb dX9_faultOf_68 (by decide) ?_
        refine lv_goto (tgt := 121) hx hb dX9_faultOf_69 (by decide) ?_
        exact J121 x1 x2 x4 x5 (1 : Int32) _ _ _ hw hP hD hS (lv_sub hl [0, 1, 2, 3, 4] rfl)
      have J46 : ∀ (x1 : Int32) (x2 : Int32) (x3 : Int32) (x4 : Int32) (s0 : Int32) (H : Heap) (locs : List Loc) (ls : Array Slot) (hw : w_X9_faultOf_B46 post f_signs f_pad (fun x1 x2 => w_X9_faultOf_B4 post f_signs f_pad n4 x1 x2) x1 x2 x3 x4 s0) (hP : va_P D vwCl (cw_X9_faultOf cI h h_pad g_book g_now g_places g_power g_spite g_ways g_milky g_sights g_sight g_offAt g_offWho g_reason g_acts g_enough g_rows g_counts g_pours g_image g_isKept f_signs f_pad) H) (hD : va_D A (cw_X9_faultOf cI h h_pad g_book g_now g_places g_power g_spite g_ways g_milky g_sights g_sight g_offAt g_offWho g_reason g_acts g_enough g_rows g_counts g_pours g_image g_isKept f_signs f_pad)) (hS : va_S A s.heap H locs) (hl : lv_has ls 7 [(0, .ref h), (1, .int x1), (2, .int x2), (3, .int x3), (4, .int x4)]), W p l e (headSpec v_X9_faultOf ({ frames := 1, cells := 0, slots := 0, locals := 22 } : Room)).room s m (([.ref h] : List Value).toArray) below meth c H locs 0 0 (MQ below (q_X9_faultOf D cI h h_pad g_book g_now g_places g_power g_spite g_ways g_milky g_sights g_sight g_offAt g_offWho g_reason g_acts g_enough g_rows g_counts g_pours g_image g_isKept post f_signs f_pad A) (([.ref h] : List Value).toArray) s 0 0 A) (F0 m 46 ls [.int s0]) := by
        intro x1 x2 x3 x4 s0 H locs ls hw hP hD hS hl
        unfold w_X9_faultOf_B46 at hw
        refine lv_istore (lv' := [(5, .int s0), (0, .ref h), (1, .int x1), (2, .int x2), (3, .int x3), (4, .int x4)]) hx hb dX9_faultOf_46 hl (by decide) rfl (fun ls hl => ?_)
        refine lv_iload_n hx hb dX9_faultOf_48 rfl (lv_at hl 2 rfl) ?_
        refine lv_if_ne (tgt := 76) hx hb dX9_faultOf_49 (by decide) (fun c49 => ?_) (fun c49 => ?_)
        · have hw := hw.2 c49
          refine lv_iload_n hx hb dX9_faultOf_76 rfl (lv_at hl 2 rfl) ?_
          refine lv_iconst (v := (1 : Int32)) hx hb dX9_faultOf_77 (by decide) ?_
          refine lv_icmp_ne (tgt := 113) hx hb dX9_faultOf_78 (by decide) (fun c78 => ?_) (fun c78 => ?_)
          · have hw := hw.2 c78
            refine lv_iload_n hx hb dX9_faultOf_113 rfl (lv_at hl 4 rfl) ?_
            refine lv_bipush (v := (49 : Int32)) hx hb dX9_faultOf_114 (by decide) ?_
            refine lv_bipush (v := (57 : Int32)) hx hb dX9_faultOf_116 (by decide) ?_
            refine z_ri (z_runS (As := [.int x3, .int (49 : Int32), .int (57 : Int32)]) (rest := []) hF (c_X9_in l D cI cC cZ x3 (49 : Int32) (57 : Int32) _ _ hw) (va_cwS 3 hz (z_gS z3_225 z3_226 z1_10 z3_227) rfl rfl rfl hd_X9_in ⟨Nat.le_of_ble_eq_true rfl, Nat.le_of_ble_eq_true rfl⟩) hK hP hD [] rfl rfl rfl hl.1 rfl (Nat.le_of_ble_eq_true rfl) dX9_faultOf_118 ⟨Nat.zero_le _, Nat.zero_le _⟩) hP hD hS hA [] rfl (fun _ => rfl) (fun _ => cw_X9_faultOf cI h h_pad g_book g_now g_places g_power g_spite g_ways g_milky g_sights g_sight g_offAt g_offWho g_reason g_acts g_enough g_rows g_counts g_pours g_image g_isKept f_signs f_pad) (fun _ => rfl) (fun r118 u118 H locs hw hP hD hS => ?_)
            obtain ⟨hn118, hw⟩ := hw
            try dsimp only at hw
            exact J121 x1 x2 x4 s0 r118 _ _ _ hw hP hD hS (lv_sub hl [1, 2, 3, 5, 0] rfl)
          have hw := hw.1 c78
          refine lv_iload_n hx hb dX9_faultOf_81 rfl (lv_at hl 4 rfl) ?_
          refine lv_bipush (v := (63 : Int32)) hx hb dX9_faultOf_82 (by decide) ?_
          refine lv_icmp_eq (tgt := 105) hx hb dX9_faultOf_84 (by decide) (fun c84 => ?_) (fun c84 => ?_)
          · have hw := hw.1 c84
            exact J105 x1 x2 x4 s0 _ _ _ hw hP hD hS (lv_sub hl [1, 2, 3, 5, 0] rfl)
          have hw := hw.2 c84
          refine lv_iload_n hx hb dX9_faultOf_87 rfl (lv_at hl 4 rfl) ?_
          refine lv_bipush (v := (61 : Int32)) hx hb dX9_faultOf_88 (by decide) ?_
          refine lv_icmp_eq (tgt := 105) hx hb dX9_faultOf_90 (by decide) (fun c90 => ?_) (fun c90 => ?_)
          · have hw := hw.1 c90
            exact J105 x1 x2 x4 s0 _ _ _ hw hP hD hS (lv_sub hl [1, 2, 3, 5, 0] rfl)
          have hw := hw.2 c90
          refine lv_iload_n hx hb dX9_faultOf_93 rfl (lv_at hl 4 rfl) ?_
          refine lv_bipush (v := (126 : Int32)) hx hb dX9_faultOf_94 (by decide) ?_
          refine lv_icmp_eq (tgt := 105) hx hb dX9_faultOf_96 (by decide) (fun c96 => ?_) (fun c96 => ?_)
          · have hw := hw.1 c96
            exact J105 x1 x2 x4 s0 _ _ _ hw hP hD hS (lv_sub hl [1, 2, 3, 5, 0] rfl)
          have hw := hw.2 c96
          refine lv_iload_n hx hb dX9_faultOf_99 rfl (lv_at hl 4 rfl) ?_
          refine lv_bipush (v := (33 : Int32)) hx hb dX9_faultOf_100 (by decide) ?_
          refine lv_icmp_ne (tgt := 109) hx hb dX9_faultOf_102 (by decide) (fun c102 => ?_) (fun c102 => ?_)
          · have hw := hw.2 c102
            refine lv_iconst (v := (0 : Int32)) hx hb dX9_faultOf_109 (by decide) ?_
            refine lv_goto (tgt := 121) hx hb dX9_faultOf_110 (by decide) ?_
            exact J121 x1 x2 x4 s0 (0 : Int32) _ _ _ hw hP hD hS (lv_sub hl [1, 2, 3, 5, 0] rfl)
          have hw := hw.1 c102
          exact J105 x1 x2 x4 s0 _ _ _ hw hP hD hS (lv_sub hl [1, 2, 3, 5, 0] rfl)
        have hw := hw.1 c49
        refine lv_iload hx hb dX9_faultOf_52 (lv_at hl 5 rfl) ?_
        refine lv_if_ne (tgt := 68) hx hb dX9_faultOf_54 (by decide) (fun c54 => ?_) (fun c54 => ?_)
        · have hw := hw.2 c54
          exact J68 x1 x2 x4 s0 _ _ _ hw hP hD hS (lv_sub hl [1, 2, 3, 5, 0] rfl)
        have hw := hw.1 c54
        refine lv_iload hx hb dX9_faultOf_57 (lv_at hl 0 rfl) ?_
        refine lv_if_ne (tgt := 68) hx hb dX9_faultOf_59 (by decide) (fun c59 => ?_) (fun c59 => ?_)
        · have hw := hw.2 c59
          exact J68 x1 x2 x4 s0 _ _ _ hw hP hD hS (lv_sub hl [1, 2, 3, 5, 0] rfl)
        have hw := hw.1 c59
        refine lv_iload_n hx hb dX9_faultOf_62 rfl (lv_at hl 4 rfl) ?_
        refine lv_bipush (v := (46 : Int32)) hx hb dX9_faultOf_63 (by decide) ?_
        refine lv_icmp_ne (tgt := 72) hx hb dX9_faultOf_65 (by decide) (fun c65 => ?_) (fun c65 => ?_)
        · have hw := hw.2 c65
          refine lv_iconst (v := (0 : Int32)) hx hb dX9_faultOf_72 (by decide) ?_
          refine lv_goto (tgt := 121) hx hb dX9_faultOf_73 (by decide) ?_
          exact J121 x1 x2 x4 s0 (0 : Int32) _ _ _ hw hP hD hS (lv_sub hl [1, 2, 3, 5, 0] rfl)
        have hw := hw.1 c65
        exact J68 x1 x2 x4 s0 _ _ _ hw hP hD hS (lv_sub hl [1, 2, 3, 5, 0] rfl)
      have J41 : ∀ (x1 : Int32) (x2 : Int32) (x3 : Int32) (x4 : Int32) (H : Heap) (locs : List Loc) (ls : Array Slot) (hw : w_X9_faultOf_B41 post f_signs f_pad (fun x1 x2 => w_X9_faultOf_B4 post f_signs f_pad n4 x1 x2) x1 x2 x3 x4) (hP : va_P D vwCl (cw_X9_faultOf cI h h_pad g_book g_now g_places g_power g_spite g_ways g_milky g_sights g_sight g_offAt g_offWho g_reason g_acts g_enough g_rows g_counts g_pours g_image g_isKept f_signs f_pad) H) (hD : va_D A (cw_X9_faultOf cI h h_pad g_book g_now g_places g_power g_spite g_ways g_milky g_sights g_sight g_offAt g_offWho g_reason g_acts g_enough g_rows g_counts g_pours g_image g_isKept f_signs f_pad)) (hS : va_S A s.heap H locs) (hl : lv_has ls 7 [(0, .ref h), (1, .int x1), (2, .int x2), (3, .int x3), (4, .int x4)]), W p l e (headSpec v_X9_faultOf ({ frames := 1, cells := 0, slots := 0, locals := 22 } : Room)).room s m (([.ref h] : List Value).toArray) below meth c H locs 0 0 (MQ below (q_X9_faultOf D cI h h_pad g_book g_now g_places g_power g_spite g_ways g_milky g_sights g_sight g_offAt g_offWho g_reason g_acts g_enough g_rows g_counts g_pours g_image g_isKept post f_signs f_pad A) (([.ref h] : List Value).toArray) s 0 0 A) (F0 m 41 ls []) := by
        intro x1 x2 x3 x4 H locs ls hw hP hD hS hl
        unfold w_X9_faultOf_B41 at hw
        refine lv_iconst (v := (1 : Int32)) hx hb dX9_faultOf_41 (by decide) ?_
        refine lv_goto (tgt := 46) hx hb dX9_faultOf_42 (by decide) ?_
        exact J46 x1 x2 x3 x4 (1 : Int32) _ _ _ hw hP hD hS (lv_sub hl [0, 1, 2, 3, 4] rfl)
      intro x1 x2 H locs ls hw hP hD hS hl
      unfold w_X9_faultOf_B4 at hw
      refine lv_iload_n hx hb dX9_faultOf_4 rfl (lv_at hl 2 rfl) ?_
      refine lv_aload_n hx hb dX9_faultOf_5 rfl (lv_at hl 0 rfl) ?_
      refine va_get (D := D) (ci := 9) (v := .int f_signs) (C := RX9) (T := TX9) (N := 21) hx hb hz hX_X9 hown hK.1 hP 0 rfl rfl 9 (by decide) (hz _ z3_165) (fun _ h9 => h9) rfl dX9_faultOf_6 ?_
      refine lv_icmp_ge (tgt := 164) hx hb dX9_faultOf_9 (by decide) (fun c9 => ?_) (fun c9 => ?_)
      · have hw := hw.1 c9
        refine lv_iload_n hx hb dX9_faultOf_164 rfl (lv_at hl 1 rfl) ?_
        refine lv_if_ne (tgt := 173) hx hb dX9_faultOf_165 (by decide) (fun c165 => ?_) (fun c165 => ?_)
        · have hw := hw.2 c165
          refine lv_aload_n hx hb dX9_faultOf_173 rfl (lv_at hl 0 rfl) ?_
          refine va_get (D := D) (ci := 9) (v := .int f_signs) (C := RX9) (T := TX9) (N := 21) hx hb hz hX_X9 hown hK.1 hP 0 rfl rfl 9 (by decide) (hz _ z3_165) (fun _ h9 => h9) rfl dX9_faultOf_174 ?_
          exact z_iret hx hb hr hlocks () hw hP hS dX9_faultOf_177
        have hw := hw.1 c165
        refine lv_bipush (v := (-6 : Int32)) hx hb dX9_faultOf_168 (by decide) ?_
        refine lv_goto (tgt := 177) hx hb dX9_faultOf_170 (by decide) ?_
        exact z_iret hx hb hr hlocks () hw hP hS dX9_faultOf_177
      have hw := hw.2 c9
      refine lv_aload_n hx hb dX9_faultOf_12 rfl (lv_at hl 0 rfl) ?_
      refine va_get (D := D) (ci := 9) (v := .ref h_pad) (C := RX9) (T := TX9) (N := 21) hx hb hz hX_X9 hown hK.1 hP 0 rfl rfl 10 (by decide) (hz _ z3_166) (fun _ h9 => h9) rfl dX9_faultOf_13 ?_
      refine lv_iload_n hx hb dX9_faultOf_16 rfl (lv_at hl 2 rfl) ?_
      obtain ⟨hi17, hw⟩ := hw
      refine va_iald hx hb hK.1 hP 1 0 rfl rfl hi17 dX9_faultOf_17 ?_
      refine lv_istore_n (lv' := [(3, .int (f_pad x2.toNatClampNeg)), (0, .ref h), (1, .int x1), (2, .int x2)]) hx hb dX9_faultOf_18 rfl hl (by decide) rfl (fun ls hl => ?_)
      refine lv_iload_n hx hb dX9_faultOf_19 rfl (lv_at hl 0 rfl) ?_
      refine lv_bipush (v := (65 : Int32)) hx hb dX9_faultOf_20 (by decide) ?_
      refine lv_bipush (v := (72 : Int32)) hx hb dX9_faultOf_22 (by decide) ?_
      refine z_ri (z_runS (As := [.int (f_pad x2.toNatClampNeg), .int (65 : Int32), .int (72 : Int32)]) (rest := []) hF (c_X9_in l D cI cC cZ (f_pad x2.toNatClampNeg) (65 : Int32) (72 : Int32) _ _ hw) (va_cwS 3 hz (z_gS z3_225 z3_226 z1_10 z3_227) rfl rfl rfl hd_X9_in ⟨Nat.le_of_ble_eq_true rfl, Nat.le_of_ble_eq_true rfl⟩) hK hP hD [] rfl rfl rfl hl.1 rfl (Nat.le_of_ble_eq_true rfl) dX9_faultOf_24 ⟨Nat.zero_le _, Nat.zero_le _⟩) hP hD hS hA [] rfl (fun _ => rfl) (fun _ => cw_X9_faultOf cI h h_pad g_book g_now g_places g_power g_spite g_ways g_milky g_sights g_sight g_offAt g_offWho g_reason g_acts g_enough g_rows g_counts g_pours g_image g_isKept f_signs f_pad) (fun _ => rfl) (fun r24 u24 H locs hw hP hD hS => ?_)
      obtain ⟨hn24, hw⟩ := hw
      try dsimp only at hw
      refine lv_istore (lv' := [(4, .int r24), (3, .int (f_pad x2.toNatClampNeg)), (0, .ref h), (1, .int x1), (2, .int x2)]) hx hb dX9_faultOf_27 hl (by decide) rfl (fun ls hl => ?_)
      refine lv_iload_n hx hb dX9_faultOf_29 rfl (lv_at hl 1 rfl) ?_
      refine lv_bipush (v := (62 : Int32)) hx hb dX9_faultOf_30 (by decide) ?_
      refine lv_icmp_eq (tgt := 41) hx hb dX9_faultOf_32 (by decide) (fun c32 => ?_) (fun c32 => ?_)
      · have hw := hw.1 c32
        exact J41 x1 x2 (f_pad x2.toNatClampNeg) r24 _ _ _ hw hP hD hS (lv_sub hl [2, 3, 4, 1, 0] rfl)
      have hw := hw.2 c32
      refine lv_iload_n hx hb dX9_faultOf_35 rfl (lv_at hl 1 rfl) ?_
      refine lv_bipush (v := (60 : Int32)) hx hb dX9_faultOf_36 (by decide) ?_
      refine lv_icmp_ne (tgt := 45) hx hb dX9_faultOf_38 (by decide) (fun c38 => ?_) (fun c38 => ?_)
      · have hw := hw.2 c38
        refine lv_iconst (v := (0 : Int32)) hx hb dX9_faultOf_45 (by decide) ?_
        exact J46 x1 x2 (f_pad x2.toNatClampNeg) r24 (0 : Int32) _ _ _ hw hP hD hS (lv_sub hl [2, 3, 4, 1, 0] rfl)
      have hw := hw.1 c38
      exact J41 x1 x2 (f_pad x2.toNatClampNeg) r24 _ _ _ hw hP hD hS (lv_sub hl [2, 3, 4, 1, 0] rfl)
  unfold w_X9_faultOf at hw
  refine lv_iconst (v := (0 : Int32)) hx hb dX9_faultOf_0 (by decide) ?_
  refine lv_istore_n (lv' := [(1, .int (0 : Int32)), (0, .ref h)]) hx hb dX9_faultOf_1 rfl hl (by decide) rfl (fun ls hl => ?_)
  refine lv_iconst (v := (0 : Int32)) hx hb dX9_faultOf_2 (by decide) ?_
  refine lv_istore_n (lv' := [(2, .int (0 : Int32)), (1, .int (0 : Int32)), (0, .ref h)]) hx hb dX9_faultOf_3 rfl hl (by decide) rfl (fun ls hl => ?_)
  obtain ⟨n4, hw⟩ := hw
  exact L4 n4 (0 : Int32) (0 : Int32) _ _ _ hw hP hD hS (lv_sub hl [2, 1, 0] rfl)
abbrev cw_X9_fault (cI : ClassId) (h h_pad : Nat) (g_book g_now g_places g_power g_spite g_ways g_milky g_sights g_sight g_offAt g_offWho g_reason g_acts g_enough g_rows g_counts g_pours g_image g_isKept : Value) (f_signs : Int32) (f_pad : Nat → Int32) : va_W := [(h, .inr (9, [g_book, g_now, g_places, g_power, g_spite, g_ways, g_milky, g_sights, g_sight, .int f_signs, .ref h_pad, g_offAt, g_offWho, g_reason, g_acts, g_enough, g_rows, g_counts, g_pours, g_image, g_isKept])), (h_pad, .inl (cI, 60, .inl f_pad))]
abbrev q_X9_fault (D : va_G) (cI : ClassId) (h h_pad : Nat) (g_book g_now g_places g_power g_spite g_ways g_milky g_sights g_sight g_offAt g_offWho g_reason g_acts g_enough g_rows g_counts g_pours g_image g_isKept : Value) (post : Int32 → Prop) (f_signs : Int32) (f_pad : Nat → Int32) (A : Nat → Prop) : Array Value → State → Outcome → State → Prop := va_Qi (S := Unit) (fun r _ => post r ) (fun _ t => va_P D vwCl (cw_X9_fault cI h h_pad g_book g_now g_places g_power g_spite g_ways g_milky g_sights g_sight g_offAt g_offWho g_reason g_acts g_enough g_rows g_counts g_pours g_image g_isKept f_signs f_pad) t.heap) A
abbrev v_X9_fault : List Cond := .code yX9_fault cX9_fault 1 (some .int) :: zB
theorem hd_X9_fault : yX9_fault.cls = RX9 ∧ yX9_fault.cls ≠ "java/lang/invoke/MethodHandle" ∧ yX9_fault.cls ≠ "java/lang/invoke/VarHandle" ∧ (parseMethodDescriptor yX9_fault.desc).map (fun d => d.parameters.length) = some 0 := by decide +kernel
set_option maxHeartbeats 4000000 in
set_option maxRecDepth 100000 in
theorem c_X9_fault (l : Launch) (D : va_G) (cI cC cZ : ClassId) (h h_pad : Nat) (g_book g_now g_places g_power g_spite g_ways g_milky g_sights g_sight g_offAt g_offWho g_reason g_acts g_enough g_rows g_counts g_pours g_image g_isKept : Value) (f_signs : Int32) (f_pad : Nat → Int32) (sz : Nat) (post : Int32 → Prop) (hw : w_X9_fault post f_signs f_pad) : Met l yX9_fault v_X9_fault ({ frames := 2, cells := 0, slots := 0, locals := 48 } : Room) (va_Pc [.ref h] (zPre D (zT cI cC cZ) sz (cw_X9_fault cI h h_pad g_book g_now g_places g_power g_spite g_ways g_milky g_sights g_sight g_offAt g_offWho g_reason g_acts g_enough g_rows g_counts g_pours g_image g_isKept f_signs f_pad))) (q_X9_fault D cI h h_pad g_book g_now g_places g_power g_spite g_ways g_milky g_sights g_sight g_offAt g_offWho g_reason g_acts g_enough g_rows g_counts g_pours g_image g_isKept post f_signs f_pad (va_A (cw_X9_fault cI h h_pad g_book g_now g_places g_power g_spite g_ways g_milky g_sights g_sight g_offAt g_offWho g_reason g_acts g_enough g_rows g_counts g_pours g_image g_isKept f_signs f_pad) sz)) 0 0 (va_A (cw_X9_fault cI h h_pad g_book g_now g_places g_power g_spite g_ways g_milky g_sights g_sight g_offAt g_offWho g_reason g_acts g_enough g_rows g_counts g_pours g_image g_isKept f_signs f_pad) sz) := by
  refine Met.ofW (cc := cX9_fault) (maxL := 1) (ret := (some .int)) (by decide) rfl ?_
  intro p e s m args below meth c s₁ B hml hv
  obtain ⟨rfl, hsz, hP, hK, hD0⟩ := hv
  subst hsz
  have hx := B.exec
  have hb := B.bytes
  have hr := B.returns
  have hz : ∀ w ∈ zB, w.before _ s = true := fun w h => atoms_spec (ws := v_X9_fault) B.pre w (List.mem_cons_of_mem _ h)
  have hown : s.vm.findClass RX9 = some m.cls := findClass_of_methodNamed B.named
  have hlocks := B.notSynchronized
  have hF : CallFix p m c cX9_fault 1 s (([.ref h] : List Value).toArray) zB RX9 := ⟨hx, hb, hml, hown, hz⟩
  have hD := hD0.self (sz := s.heap.size)
  generalize hAe : va_A (cw_X9_fault cI h h_pad g_book g_now g_places g_power g_spite g_ways g_milky g_sights g_sight g_offAt g_offWho g_reason g_acts g_enough g_rows g_counts g_pours g_image g_isKept f_signs f_pad) s.heap.size = A at hD ⊢
  have hA : ∀ q : Nat, s.heap.size ≤ q → A q := fun q h => by rw [← hAe]; exact Or.inr h
  have hS : va_S A s.heap s.heap [] := va_S.rf
  have hP : va_P D vwCl (cw_X9_fault cI h h_pad g_book g_now g_places g_power g_spite g_ways g_milky g_sights g_sight g_offAt g_offWho g_reason g_acts g_enough g_rows g_counts g_pours g_image g_isKept f_signs f_pad) s.heap := hP
  have hl := lv_entry ([.ref h]) (n := 1) (Nat.le_of_ble_eq_true rfl)
  rw [lg_entry_eq]
  generalize (lg_sl ([.ref h]) ++ List.replicate (1 - (lg_sl ([.ref h])).length) Slot.unset).toArray = ls at hl ⊢
  have hl : lv_has ls 1 [(0, .ref h)] := hl
  unfold w_X9_fault at hw
  refine lv_aload_n hx hb dX9_fault_0 rfl (lv_at hl 0 rfl) ?_
  refine z_ri (z_runV (As := []) (rest := []) hF (c_X9_faultOf l D cI cC cZ h h_pad g_book g_now g_places g_power g_spite g_ways g_milky g_sights g_sight g_offAt g_offWho g_reason g_acts g_enough g_rows g_counts g_pours g_image g_isKept f_signs f_pad _ _ hw) (cwV 0 hz (z_gV z4_18 z4_20 zp_15 z1_10 z4_21) rfl rfl rfl hd_X9_faultOf ⟨Nat.le_of_ble_eq_true rfl, Nat.le_of_ble_eq_true rfl⟩) hK hP hD [0, 1] rfl rfl 0 9 rfl rfl rfl rfl hl.1 rfl (Nat.le_of_ble_eq_true rfl) dX9_fault_1 ⟨Nat.zero_le _, Nat.zero_le _⟩) hP hD hS hA [0, 1] rfl (fun _ => rfl) (fun _ => cw_X9_fault cI h h_pad g_book g_now g_places g_power g_spite g_ways g_milky g_sights g_sight g_offAt g_offWho g_reason g_acts g_enough g_rows g_counts g_pours g_image g_isKept f_signs f_pad) (fun _ => rfl) (fun r1 u1 H locs hw hP hD hS => ?_)
  try dsimp only at hw
  exact z_iret hx hb hr hlocks () hw hP hS dX9_fault_4
abbrev cw_X9_asNow (cI : ClassId) (h h_book h_now : Nat) (g_places g_power g_spite g_ways g_milky g_sights g_sight g_signs g_pad g_reason g_acts g_enough g_rows g_counts g_pours g_image g_isKept : Value) (f_book : Nat → Int32) (f_now : Nat → Int32) (f_offAt : Int32) (f_offWho : Int32) : va_W := [(h, .inr (9, [.ref h_book, .ref h_now, g_places, g_power, g_spite, g_ways, g_milky, g_sights, g_sight, g_signs, g_pad, .int f_offAt, .int f_offWho, g_reason, g_acts, g_enough, g_rows, g_counts, g_pours, g_image, g_isKept])), (h_book, .inl (cI, 12, .inl f_book)), (h_now, .inl (cI, 12, .inl f_now))]
abbrev q_X9_asNow (D : va_G) (cI : ClassId) (h h_book h_now : Nat) (g_places g_power g_spite g_ways g_milky g_sights g_sight g_signs g_pad g_reason g_acts g_enough g_rows g_counts g_pours g_image g_isKept : Value) (post : (Nat → Int32) → Int32 → Int32 → Prop) (f_book : Nat → Int32) (A : Nat → Prop) : Array Value → State → Outcome → State → Prop := va_Qv (S := (Nat → Int32) × Int32 × Int32) (fun u => post u.1 u.2.1 u.2.2) (fun u t => va_P D vwCl (cw_X9_asNow cI h h_book h_now g_places g_power g_spite g_ways g_milky g_sights g_sight g_signs g_pad g_reason g_acts g_enough g_rows g_counts g_pours g_image g_isKept f_book u.1 u.2.1 u.2.2) t.heap) A
abbrev v_X9_asNow : List Cond := .code yX9_asNow cX9_asNow 2 none :: zB
theorem hd_X9_asNow : yX9_asNow.cls = RX9 ∧ yX9_asNow.cls ≠ "java/lang/invoke/MethodHandle" ∧ yX9_asNow.cls ≠ "java/lang/invoke/VarHandle" ∧ (parseMethodDescriptor yX9_asNow.desc).map (fun d => d.parameters.length) = some 0 := by decide +kernel
set_option maxHeartbeats 4000000 in
set_option maxRecDepth 100000 in
theorem c_X9_asNow (l : Launch) (D : va_G) (cI cC cZ : ClassId) (h h_book h_now : Nat) (g_places g_power g_spite g_ways g_milky g_sights g_sight g_signs g_pad g_reason g_acts g_enough g_rows g_counts g_pours g_image g_isKept : Value) (f_book : Nat → Int32) (f_now : Nat → Int32) (f_offAt : Int32) (f_offWho : Int32) (sz : Nat) (post : (Nat → Int32) → Int32 → Int32 → Prop) (hw : w_X9_asNow post f_book f_now f_offAt f_offWho) : Met l yX9_asNow v_X9_asNow ({ frames := 0, cells := 0, slots := 0, locals := 0 } : Room) (va_Pc [.ref h] (zPre D (zT cI cC cZ) sz (cw_X9_asNow cI h h_book h_now g_places g_power g_spite g_ways g_milky g_sights g_sight g_signs g_pad g_reason g_acts g_enough g_rows g_counts g_pours g_image g_isKept f_book f_now f_offAt f_offWho))) (q_X9_asNow D cI h h_book h_now g_places g_power g_spite g_ways g_milky g_sights g_sight g_signs g_pad g_reason g_acts g_enough g_rows g_counts g_pours g_image g_isKept post f_book (va_A (cw_X9_asNow cI h h_book h_now g_places g_power g_spite g_ways g_milky g_sights g_sight g_signs g_pad g_reason g_acts g_enough g_rows g_counts g_pours g_image g_isKept f_book f_now f_offAt f_offWho) sz)) 0 0 (va_A (cw_X9_asNow cI h h_book h_now g_places g_power g_spite g_ways g_milky g_sights g_sight g_signs g_pad g_reason g_acts g_enough g_rows g_counts g_pours g_image g_isKept f_book f_now f_offAt f_offWho) sz) := by
  refine Met.ofW (cc := cX9_asNow) (maxL := 2) (ret := none) (by decide) rfl ?_
  intro p e s m args below meth c s₁ B hml hv
  obtain ⟨rfl, hsz, hP, hK, hD0⟩ := hv
  subst hsz
  have hx := B.exec
  have hb := B.bytes
  have hr := B.returns
  have hz : ∀ w ∈ zB, w.before _ s = true := fun w h => atoms_spec (ws := v_X9_asNow) B.pre w (List.mem_cons_of_mem _ h)
  have hown : s.vm.findClass RX9 = some m.cls := findClass_of_methodNamed B.named
  have hlocks := B.notSynchronized
  have hF : CallFix p m c cX9_asNow 2 s (([.ref h] : List Value).toArray) zB RX9 := ⟨hx, hb, hml, hown, hz⟩
  have hD := hD0.self (sz := s.heap.size)
  generalize hAe : va_A (cw_X9_asNow cI h h_book h_now g_places g_power g_spite g_ways g_milky g_sights g_sight g_signs g_pad g_reason g_acts g_enough g_rows g_counts g_pours g_image g_isKept f_book f_now f_offAt f_offWho) s.heap.size = A at hD ⊢
  have hA : ∀ q : Nat, s.heap.size ≤ q → A q := fun q h => by rw [← hAe]; exact Or.inr h
  have hS : va_S A s.heap s.heap [] := va_S.rf
  have hP : va_P D vwCl (cw_X9_asNow cI h h_book h_now g_places g_power g_spite g_ways g_milky g_sights g_sight g_signs g_pad g_reason g_acts g_enough g_rows g_counts g_pours g_image g_isKept f_book f_now f_offAt f_offWho) s.heap := hP
  have hl := lv_entry ([.ref h]) (n := 2) (Nat.le_of_ble_eq_true rfl)
  rw [lg_entry_eq]
  generalize (lg_sl ([.ref h]) ++ List.replicate (2 - (lg_sl ([.ref h])).length) Slot.unset).toArray = ls at hl ⊢
  have hl : lv_has ls 2 [(0, .ref h)] := hl
  have L2 : ∀ (n2 : Nat) (f_now : Nat → Int32) (f_offAt : Int32) (f_offWho : Int32) (x1 : Int32) (H : Heap) (locs : List Loc) (ls : Array Slot) (hw : w_X9_asNow_B2 post f_book n2 f_now f_offAt f_offWho x1) (hP : va_P D vwCl (cw_X9_asNow cI h h_book h_now g_places g_power g_spite g_ways g_milky g_sights g_sight g_signs g_pad g_reason g_acts g_enough g_rows g_counts g_pours g_image g_isKept f_book f_now f_offAt f_offWho) H) (hD : va_D A (cw_X9_asNow cI h h_book h_now g_places g_power g_spite g_ways g_milky g_sights g_sight g_signs g_pad g_reason g_acts g_enough g_rows g_counts g_pours g_image g_isKept f_book f_now f_offAt f_offWho)) (hS : va_S A s.heap H locs) (hl : lv_has ls 2 [(0, .ref h), (1, .int x1)]), W p l e (headSpec v_X9_asNow ({ frames := 0, cells := 0, slots := 0, locals := 0 } : Room)).room s m (([.ref h] : List Value).toArray) below meth c H locs 0 0 (MQ below (q_X9_asNow D cI h h_book h_now g_places g_power g_spite g_ways g_milky g_sights g_sight g_signs g_pad g_reason g_acts g_enough g_rows g_counts g_pours g_image g_isKept post f_book A) (([.ref h] : List Value).toArray) s 0 0 A) (F0 m 2 ls []) := by
    intro n2
    induction n2 with
    | zero => intro f_now f_offAt f_offWho x1 H locs ls hw; exact False.elim hw
    | succ n2 ih2 =>
      intro f_now f_offAt f_offWho x1 H locs ls hw hP hD hS hl
      unfold w_X9_asNow_B2 at hw
      refine lv_iload_n hx hb dX9_asNow_2 rfl (lv_at hl 1 rfl) ?_
      refine lv_bipush (v := (12 : Int32)) hx hb dX9_asNow_3 (by decide) ?_
      refine lv_icmp_ge (tgt := 26) hx hb dX9_asNow_5 (by decide) (fun c5 => ?_) (fun c5 => ?_)
      · have hw := hw.1 c5
        refine lv_aload_n hx hb dX9_asNow_26 rfl (lv_at hl 0 rfl) ?_
        refine lv_bipush (v := (-6 : Int32)) hx hb dX9_asNow_27 (by decide) ?_
        refine va_put (D := D) (ci := 9) (v := .int (-6 : Int32)) (ty := .int) (C := RX9) (T := TX9) (N := 21) hx hb hz hX_X9 tyX9 tyX9_ok nmX9 hown hK.1 hP hD hS 0 rfl rfl 11 (by decide) (hz _ z3_167) (fun _ h9 => h9) rfl (tyX9_ok 11 (by decide)) rfl rfl (Nat.le_of_ble_eq_true rfl) dX9_asNow_29 (fun H locs hP hD hS => ?_)
        have hP : va_P D vwCl (cw_X9_asNow cI h h_book h_now g_places g_power g_spite g_ways g_milky g_sights g_sight g_signs g_pad g_reason g_acts g_enough g_rows g_counts g_pours g_image g_isKept f_book f_now (-6 : Int32) f_offWho) H := hP
        have hD : va_D A (cw_X9_asNow cI h h_book h_now g_places g_power g_spite g_ways g_milky g_sights g_sight g_signs g_pad g_reason g_acts g_enough g_rows g_counts g_pours g_image g_isKept f_book f_now (-6 : Int32) f_offWho) := hD
        refine lv_aload_n hx hb dX9_asNow_32 rfl (lv_at hl 0 rfl) ?_
        refine lv_bipush (v := (-6 : Int32)) hx hb dX9_asNow_33 (by decide) ?_
        refine va_put (D := D) (ci := 9) (v := .int (-6 : Int32)) (ty := .int) (C := RX9) (T := TX9) (N := 21) hx hb hz hX_X9 tyX9 tyX9_ok nmX9 hown hK.1 hP hD hS 0 rfl rfl 12 (by decide) (hz _ z3_168) (fun _ h9 => h9) rfl (tyX9_ok 12 (by decide)) rfl rfl (Nat.le_of_ble_eq_true rfl) dX9_asNow_35 (fun H locs hP hD hS => ?_)
        have hP : va_P D vwCl (cw_X9_asNow cI h h_book h_now g_places g_power g_spite g_ways g_milky g_sights g_sight g_signs g_pad g_reason g_acts g_enough g_rows g_counts g_pours g_image g_isKept f_book f_now (-6 : Int32) (-6 : Int32)) H := hP
        have hD : va_D A (cw_X9_asNow cI h h_book h_now g_places g_power g_spite g_ways g_milky g_sights g_sight g_signs g_pad g_reason g_acts g_enough g_rows g_counts g_pours g_image g_isKept f_book f_now (-6 : Int32) (-6 : Int32)) := hD
        exact z_vret hx hb hr hlocks (f_now, (-6 : Int32), (-6 : Int32)) hw hP hS dX9_asNow_38
      have hw := hw.2 c5
      refine lv_aload_n hx hb dX9_asNow_8 rfl (lv_at hl 0 rfl) ?_
      refine va_get (D := D) (ci := 9) (v := .ref h_now) (C := RX9) (T := TX9) (N := 21) hx hb hz hX_X9 hown hK.1 hP 0 rfl rfl 1 (by decide) (hz _ z3_157) (fun _ h9 => h9) rfl dX9_asNow_9 ?_
      refine lv_iload_n hx hb dX9_asNow_12 rfl (lv_at hl 1 rfl) ?_
      refine lv_aload_n hx hb dX9_asNow_13 rfl (lv_at hl 0 rfl) ?_
      refine va_get (D := D) (ci := 9) (v := .ref h_book) (C := RX9) (T := TX9) (N := 21) hx hb hz hX_X9 hown hK.1 hP 0 rfl rfl 0 (by decide) (hz _ z3_156) (fun _ h9 => h9) rfl dX9_asNow_14 ?_
      refine lv_iload_n hx hb dX9_asNow_17 rfl (lv_at hl 1 rfl) ?_
      obtain ⟨hi18, hw⟩ := hw
      refine va_iald hx hb hK.1 hP 1 0 rfl rfl hi18 dX9_asNow_18 ?_
      obtain ⟨hi19, hw⟩ := hw
      refine va_iast hx hb hK.1 hP hD hS 2 0 rfl rfl hi19 dX9_asNow_19 (fun H locs hP hD hS => ?_)
      have hP : va_P D vwCl (cw_X9_asNow cI h h_book h_now g_places g_power g_spite g_ways g_milky g_sights g_sight g_signs g_pad g_reason g_acts g_enough g_rows g_counts g_pours g_image g_isKept f_book (upd f_now x1.toNatClampNeg (f_book x1.toNatClampNeg)) f_offAt f_offWho) H := hP
      have hD : va_D A (cw_X9_asNow cI h h_book h_now g_places g_power g_spite g_ways g_milky g_sights g_sight g_signs g_pad g_reason g_acts g_enough g_rows g_counts g_pours g_image g_isKept f_book (upd f_now x1.toNatClampNeg (f_book x1.toNatClampNeg)) f_offAt f_offWho) := hD
      refine lv_iinc (k := 1) (v := (x1 + 1)) (lv' := [(1, .int (x1 + 1)), (0, .ref h)]) hx hb dX9_asNow_20 hl rfl rfl (by decide) rfl (fun ls hl => ?_)
      refine lv_goto (tgt := 2) hx hb dX9_asNow_23 (by decide) ?_
      exact ih2 (upd f_now x1.toNatClampNeg (f_book x1.toNatClampNeg)) f_offAt f_offWho (x1 + 1) _ _ _ hw hP hD hS (lv_sub hl [1, 0] rfl)
  unfold w_X9_asNow at hw
  refine lv_iconst (v := (0 : Int32)) hx hb dX9_asNow_0 (by decide) ?_
  refine lv_istore_n (lv' := [(1, .int (0 : Int32)), (0, .ref h)]) hx hb dX9_asNow_1 rfl hl (by decide) rfl (fun ls hl => ?_)
  obtain ⟨n2, hw⟩ := hw
  exact L2 n2 f_now f_offAt f_offWho (0 : Int32) _ _ _ hw hP hD hS (lv_sub hl [1, 0] rfl)
abbrev cw_X9_sits (cI : ClassId) (h h_now : Nat) (g_book g_places g_power g_spite g_ways g_milky g_sights g_sight g_signs g_pad g_offAt g_offWho g_reason g_acts g_enough g_rows g_counts g_pours g_image g_isKept : Value) (f_now : Nat → Int32) : va_W := [(h, .inr (9, [g_book, .ref h_now, g_places, g_power, g_spite, g_ways, g_milky, g_sights, g_sight, g_signs, g_pad, g_offAt, g_offWho, g_reason, g_acts, g_enough, g_rows, g_counts, g_pours, g_image, g_isKept])), (h_now, .inl (cI, 12, .inl f_now))]
abbrev q_X9_sits (D : va_G) (cI : ClassId) (h h_now : Nat) (g_book g_places g_power g_spite g_ways g_milky g_sights g_sight g_signs g_pad g_offAt g_offWho g_reason g_acts g_enough g_rows g_counts g_pours g_image g_isKept : Value) (post : Int32 → Prop) (f_now : Nat → Int32) (A : Nat → Prop) : Array Value → State → Outcome → State → Prop := va_Qi (S := Unit) (fun r _ => narrow .boolean (.int r) = .int r ∧ post r ) (fun _ t => va_P D vwCl (cw_X9_sits cI h h_now g_book g_places g_power g_spite g_ways g_milky g_sights g_sight g_signs g_pad g_offAt g_offWho g_reason g_acts g_enough g_rows g_counts g_pours g_image g_isKept f_now) t.heap) A
abbrev v_X9_sits : List Cond := .code yX9_sits cX9_sits 2 (some .boolean) :: zB
theorem hd_X9_sits : yX9_sits.cls = RX9 ∧ yX9_sits.cls ≠ "java/lang/invoke/MethodHandle" ∧ yX9_sits.cls ≠ "java/lang/invoke/VarHandle" ∧ (parseMethodDescriptor yX9_sits.desc).map (fun d => d.parameters.length) = some 1 := by decide +kernel
set_option maxHeartbeats 4000000 in
set_option maxRecDepth 100000 in
theorem c_X9_sits (l : Launch) (D : va_G) (cI cC cZ : ClassId) (h h_now : Nat) (g_book g_places g_power g_spite g_ways g_milky g_sights g_sight g_signs g_pad g_offAt g_offWho g_reason g_acts g_enough g_rows g_counts g_pours g_image g_isKept : Value) (f_now : Nat → Int32) (p1 : Int32) (sz : Nat) (post : Int32 → Prop) (hw : w_X9_sits post f_now p1) : Met l yX9_sits v_X9_sits ({ frames := 1, cells := 0, slots := 0, locals := 22 } : Room) (va_Pc [.ref h, .int p1] (zPre D (zT cI cC cZ) sz (cw_X9_sits cI h h_now g_book g_places g_power g_spite g_ways g_milky g_sights g_sight g_signs g_pad g_offAt g_offWho g_reason g_acts g_enough g_rows g_counts g_pours g_image g_isKept f_now))) (q_X9_sits D cI h h_now g_book g_places g_power g_spite g_ways g_milky g_sights g_sight g_signs g_pad g_offAt g_offWho g_reason g_acts g_enough g_rows g_counts g_pours g_image g_isKept post f_now (va_A (cw_X9_sits cI h h_now g_book g_places g_power g_spite g_ways g_milky g_sights g_sight g_signs g_pad g_offAt g_offWho g_reason g_acts g_enough g_rows g_counts g_pours g_image g_isKept f_now) sz)) 0 0 (va_A (cw_X9_sits cI h h_now g_book g_places g_power g_spite g_ways g_milky g_sights g_sight g_signs g_pad g_offAt g_offWho g_reason g_acts g_enough g_rows g_counts g_pours g_image g_isKept f_now) sz) := by
  refine Met.ofW (cc := cX9_sits) (maxL := 2) (ret := (some .boolean)) (by decide) rfl ?_
  intro p e s m args below meth c s₁ B hml hv
  obtain ⟨rfl, hsz, hP, hK, hD0⟩ := hv
  subst hsz
  have hx := B.exec
  have hb := B.bytes
  have hr := B.returns
  have hz : ∀ w ∈ zB, w.before _ s = true := fun w h => atoms_spec (ws := v_X9_sits) B.pre w (List.mem_cons_of_mem _ h)
  have hown : s.vm.findClass RX9 = some m.cls := findClass_of_methodNamed B.named
  have hlocks := B.notSynchronized
  have hF : CallFix p m c cX9_sits 2 s (([.ref h, .int p1] : List Value).toArray) zB RX9 := ⟨hx, hb, hml, hown, hz⟩
  have hD := hD0.self (sz := s.heap.size)
  generalize hAe : va_A (cw_X9_sits cI h h_now g_book g_places g_power g_spite g_ways g_milky g_sights g_sight g_signs g_pad g_offAt g_offWho g_reason g_acts g_enough g_rows g_counts g_pours g_image g_isKept f_now) s.heap.size = A at hD ⊢
  have hA : ∀ q : Nat, s.heap.size ≤ q → A q := fun q h => by rw [← hAe]; exact Or.inr h
  have hS : va_S A s.heap s.heap [] := va_S.rf
  have hP : va_P D vwCl (cw_X9_sits cI h h_now g_book g_places g_power g_spite g_ways g_milky g_sights g_sight g_signs g_pad g_offAt g_offWho g_reason g_acts g_enough g_rows g_counts g_pours g_image g_isKept f_now) s.heap := hP
  have hl := lv_entry ([.ref h, .int p1]) (n := 2) (Nat.le_of_ble_eq_true rfl)
  rw [lg_entry_eq]
  generalize (lg_sl ([.ref h, .int p1]) ++ List.replicate (2 - (lg_sl ([.ref h, .int p1])).length) Slot.unset).toArray = ls at hl ⊢
  have hl : lv_has ls 2 [(0, .ref h), (1, .int p1)] := hl
  have J28 : ∀ (H : Heap) (locs : List Loc) (ls : Array Slot) (hw : w_X9_sits_B28 post f_now p1) (hP : va_P D vwCl (cw_X9_sits cI h h_now g_book g_places g_power g_spite g_ways g_milky g_sights g_sight g_signs g_pad g_offAt g_offWho g_reason g_acts g_enough g_rows g_counts g_pours g_image g_isKept f_now) H) (hD : va_D A (cw_X9_sits cI h h_now g_book g_places g_power g_spite g_ways g_milky g_sights g_sight g_signs g_pad g_offAt g_offWho g_reason g_acts g_enough g_rows g_counts g_pours g_image g_isKept f_now)) (hS : va_S A s.heap H locs) (hl : lv_has ls 2 []), W p l e (headSpec v_X9_sits ({ frames := 1, cells := 0, slots := 0, locals := 22 } : Room)).room s m (([.ref h, .int p1] : List Value).toArray) below meth c H locs 0 0 (MQ below (q_X9_sits D cI h h_now g_book g_places g_power g_spite g_ways g_milky g_sights g_sight g_signs g_pad g_offAt g_offWho g_reason g_acts g_enough g_rows g_counts g_pours g_image g_isKept post f_now A) (([.ref h, .int p1] : List Value).toArray) s 0 0 A) (F0 m 28 ls []) := by
    intro H locs ls hw hP hD hS hl
    unfold w_X9_sits_B28 at hw
    refine lv_iconst (v := (0 : Int32)) hx hb dX9_sits_28 (by decide) ?_
    exact z_zret hx hb hr hlocks rfl () hw hP hS dX9_sits_29
  unfold w_X9_sits at hw
  refine lv_iload_n hx hb dX9_sits_0 rfl (lv_at hl 1 rfl) ?_
  refine lv_iconst (v := (0 : Int32)) hx hb dX9_sits_1 (by decide) ?_
  refine lv_bipush (v := (7 : Int32)) hx hb dX9_sits_2 (by decide) ?_
  refine z_ri (z_runS (As := [.int p1, .int (0 : Int32), .int (7 : Int32)]) (rest := []) hF (c_X9_in l D cI cC cZ p1 (0 : Int32) (7 : Int32) _ _ hw) (va_cwS 3 hz (z_gS z3_225 z3_226 z1_10 z3_227) rfl rfl rfl hd_X9_in ⟨Nat.le_of_ble_eq_true rfl, Nat.le_of_ble_eq_true rfl⟩) hK hP hD [] rfl rfl rfl hl.1 rfl (Nat.le_of_ble_eq_true rfl) dX9_sits_4 ⟨Nat.zero_le _, Nat.zero_le _⟩) hP hD hS hA [] rfl (fun _ => rfl) (fun _ => cw_X9_sits cI h h_now g_book g_places g_power g_spite g_ways g_milky g_sights g_sight g_signs g_pad g_offAt g_offWho g_reason g_acts g_enough g_rows g_counts g_pours g_image g_isKept f_now) (fun _ => rfl) (fun r4 u4 H locs hw hP hD hS => ?_)
  obtain ⟨hn4, hw⟩ := hw
  try dsimp only at hw
  refine lv_if_eq (tgt := 28) hx hb dX9_sits_7 (by decide) (fun c7 => ?_) (fun c7 => ?_)
  · have hw := hw.1 c7
    exact J28 _ _ _ hw hP hD hS (lv_sub hl [] rfl)
  have hw := hw.2 c7
  refine lv_aload_n hx hb dX9_sits_10 rfl (lv_at hl 0 rfl) ?_
  refine va_get (D := D) (ci := 9) (v := .ref h_now) (C := RX9) (T := TX9) (N := 21) hx hb hz hX_X9 hown hK.1 hP 0 rfl rfl 1 (by decide) (hz _ z3_157) (fun _ h9 => h9) rfl dX9_sits_11 ?_
  refine lv_bipush (v := (8 : Int32)) hx hb dX9_sits_14 (by decide) ?_
  refine va_iald hx hb hK.1 hP 1 0 rfl rfl (z_in rfl) dX9_sits_16 ?_
  refine lv_iload_n hx hb dX9_sits_17 rfl (lv_at hl 1 rfl) ?_
  refine z_ri (z_runS (As := [.int (f_now (8 : Int32).toNatClampNeg), .int p1]) (rest := []) hF (c_X9_has l D cI cC cZ (f_now (8 : Int32).toNatClampNeg) p1 _ _ hw) (va_cwS 2 hz (z_gS z4_42 z4_43 z1_10 z4_44) rfl rfl rfl hd_X9_has ⟨Nat.le_of_ble_eq_true rfl, Nat.le_of_ble_eq_true rfl⟩) hK hP hD [] rfl rfl rfl hl.1 rfl (Nat.le_of_ble_eq_true rfl) dX9_sits_18 ⟨Nat.zero_le _, Nat.zero_le _⟩) hP hD hS hA [] rfl (fun _ => rfl) (fun _ => cw_X9_sits cI h h_now g_book g_places g_power g_spite g_ways g_milky g_sights g_sight g_signs g_pad g_offAt g_offWho g_reason g_acts g_enough g_rows g_counts g_pours g_image g_isKept f_now) (fun _ => rfl) (fun r18 u18 H locs hw hP hD hS => ?_)
  obtain ⟨hn18, hw⟩ := hw
  try dsimp only at hw
  refine lv_if_eq (tgt := 28) hx hb dX9_sits_21 (by decide) (fun c21 => ?_) (fun c21 => ?_)
  · have hw := hw.1 c21
    exact J28 _ _ _ hw hP hD hS (lv_sub hl [] rfl)
  have hw := hw.2 c21
  refine lv_iconst (v := (1 : Int32)) hx hb dX9_sits_24 (by decide) ?_
  refine lv_goto (tgt := 29) hx hb dX9_sits_25 (by decide) ?_
  exact z_zret hx hb hr hlocks rfl () hw hP hS dX9_sits_29
abbrev cw_X9_offOnes (cI : ClassId) (h h_now : Nat) (g_book g_places g_power g_spite g_ways g_milky g_sights g_sight g_signs g_pad g_offAt g_offWho g_reason g_acts g_enough g_rows g_counts g_pours g_image g_isKept : Value) (f_now : Nat → Int32) : va_W := [(h, .inr (9, [g_book, .ref h_now, g_places, g_power, g_spite, g_ways, g_milky, g_sights, g_sight, g_signs, g_pad, g_offAt, g_offWho, g_reason, g_acts, g_enough, g_rows, g_counts, g_pours, g_image, g_isKept])), (h_now, .inl (cI, 12, .inl f_now))]
abbrev q_X9_offOnes (D : va_G) (cI : ClassId) (h h_now : Nat) (g_book g_places g_power g_spite g_ways g_milky g_sights g_sight g_signs g_pad g_offAt g_offWho g_reason g_acts g_enough g_rows g_counts g_pours g_image g_isKept : Value) (post : Int32 → Prop) (f_now : Nat → Int32) (A : Nat → Prop) : Array Value → State → Outcome → State → Prop := va_Qi (S := Unit) (fun r _ => post r ) (fun _ t => va_P D vwCl (cw_X9_offOnes cI h h_now g_book g_places g_power g_spite g_ways g_milky g_sights g_sight g_signs g_pad g_offAt g_offWho g_reason g_acts g_enough g_rows g_counts g_pours g_image g_isKept f_now) t.heap) A
abbrev v_X9_offOnes : List Cond := .code yX9_offOnes cX9_offOnes 3 (some .int) :: zB
theorem hd_X9_offOnes : yX9_offOnes.cls = RX9 ∧ yX9_offOnes.cls ≠ "java/lang/invoke/MethodHandle" ∧ yX9_offOnes.cls ≠ "java/lang/invoke/VarHandle" ∧ (parseMethodDescriptor yX9_offOnes.desc).map (fun d => d.parameters.length) = some 0 := by decide +kernel
set_option maxHeartbeats 4000000 in
set_option maxRecDepth 100000 in
theorem c_X9_offOnes (l : Launch) (D : va_G) (cI cC cZ : ClassId) (h h_now : Nat) (g_book g_places g_power g_spite g_ways g_milky g_sights g_sight g_signs g_pad g_offAt g_offWho g_reason g_acts g_enough g_rows g_counts g_pours g_image g_isKept : Value) (f_now : Nat → Int32) (sz : Nat) (post : Int32 → Prop) (hw : w_X9_offOnes post f_now) : Met l yX9_offOnes v_X9_offOnes ({ frames := 2, cells := 0, slots := 0, locals := 43 } : Room) (va_Pc [.ref h] (zPre D (zT cI cC cZ) sz (cw_X9_offOnes cI h h_now g_book g_places g_power g_spite g_ways g_milky g_sights g_sight g_signs g_pad g_offAt g_offWho g_reason g_acts g_enough g_rows g_counts g_pours g_image g_isKept f_now))) (q_X9_offOnes D cI h h_now g_book g_places g_power g_spite g_ways g_milky g_sights g_sight g_signs g_pad g_offAt g_offWho g_reason g_acts g_enough g_rows g_counts g_pours g_image g_isKept post f_now (va_A (cw_X9_offOnes cI h h_now g_book g_places g_power g_spite g_ways g_milky g_sights g_sight g_signs g_pad g_offAt g_offWho g_reason g_acts g_enough g_rows g_counts g_pours g_image g_isKept f_now) sz)) 0 0 (va_A (cw_X9_offOnes cI h h_now g_book g_places g_power g_spite g_ways g_milky g_sights g_sight g_signs g_pad g_offAt g_offWho g_reason g_acts g_enough g_rows g_counts g_pours g_image g_isKept f_now) sz) := by
  refine Met.ofW (cc := cX9_offOnes) (maxL := 3) (ret := (some .int)) (by decide) rfl ?_
  intro p e s m args below meth c s₁ B hml hv
  obtain ⟨rfl, hsz, hP, hK, hD0⟩ := hv
  subst hsz
  have hx := B.exec
  have hb := B.bytes
  have hr := B.returns
  have hz : ∀ w ∈ zB, w.before _ s = true := fun w h => atoms_spec (ws := v_X9_offOnes) B.pre w (List.mem_cons_of_mem _ h)
  have hown : s.vm.findClass RX9 = some m.cls := findClass_of_methodNamed B.named
  have hlocks := B.notSynchronized
  have hF : CallFix p m c cX9_offOnes 3 s (([.ref h] : List Value).toArray) zB RX9 := ⟨hx, hb, hml, hown, hz⟩
  have hD := hD0.self (sz := s.heap.size)
  generalize hAe : va_A (cw_X9_offOnes cI h h_now g_book g_places g_power g_spite g_ways g_milky g_sights g_sight g_signs g_pad g_offAt g_offWho g_reason g_acts g_enough g_rows g_counts g_pours g_image g_isKept f_now) s.heap.size = A at hD ⊢
  have hA : ∀ q : Nat, s.heap.size ≤ q → A q := fun q h => by rw [← hAe]; exact Or.inr h
  have hS : va_S A s.heap s.heap [] := va_S.rf
  have hP : va_P D vwCl (cw_X9_offOnes cI h h_now g_book g_places g_power g_spite g_ways g_milky g_sights g_sight g_signs g_pad g_offAt g_offWho g_reason g_acts g_enough g_rows g_counts g_pours g_image g_isKept f_now) s.heap := hP
  have hl := lv_entry ([.ref h]) (n := 3) (Nat.le_of_ble_eq_true rfl)
  rw [lg_entry_eq]
  generalize (lg_sl ([.ref h]) ++ List.replicate (3 - (lg_sl ([.ref h])).length) Slot.unset).toArray = ls at hl ⊢
  have hl : lv_has ls 3 [(0, .ref h)] := hl
  have L4 : ∀ (n4 : Nat) (x1 : Int32) (x2 : Int32) (H : Heap) (locs : List Loc) (ls : Array Slot) (hw : w_X9_offOnes_B4 post f_now n4 x1 x2) (hP : va_P D vwCl (cw_X9_offOnes cI h h_now g_book g_places g_power g_spite g_ways g_milky g_sights g_sight g_signs g_pad g_offAt g_offWho g_reason g_acts g_enough g_rows g_counts g_pours g_image g_isKept f_now) H) (hD : va_D A (cw_X9_offOnes cI h h_now g_book g_places g_power g_spite g_ways g_milky g_sights g_sight g_signs g_pad g_offAt g_offWho g_reason g_acts g_enough g_rows g_counts g_pours g_image g_isKept f_now)) (hS : va_S A s.heap H locs) (hl : lv_has ls 3 [(0, .ref h), (1, .int x1), (2, .int x2)]), W p l e (headSpec v_X9_offOnes ({ frames := 2, cells := 0, slots := 0, locals := 43 } : Room)).room s m (([.ref h] : List Value).toArray) below meth c H locs 0 0 (MQ below (q_X9_offOnes D cI h h_now g_book g_places g_power g_spite g_ways g_milky g_sights g_sight g_signs g_pad g_offAt g_offWho g_reason g_acts g_enough g_rows g_counts g_pours g_image g_isKept post f_now A) (([.ref h] : List Value).toArray) s 0 0 A) (F0 m 4 ls []) := by
    intro n4
    induction n4 with
    | zero => intro x1 x2 H locs ls hw; exact False.elim hw
    | succ n4 ih4 =>
      have J35 : ∀ (x2 : Int32) (s0 : Int32) (s1 : Int32) (H : Heap) (locs : List Loc) (ls : Array Slot) (hw : w_X9_offOnes_B35 post f_now (fun x1 x2 => w_X9_offOnes_B4 post f_now n4 x1 x2) x2 s0 s1) (hP : va_P D vwCl (cw_X9_offOnes cI h h_now g_book g_places g_power g_spite g_ways g_milky g_sights g_sight g_signs g_pad g_offAt g_offWho g_reason g_acts g_enough g_rows g_counts g_pours g_image g_isKept f_now) H) (hD : va_D A (cw_X9_offOnes cI h h_now g_book g_places g_power g_spite g_ways g_milky g_sights g_sight g_signs g_pad g_offAt g_offWho g_reason g_acts g_enough g_rows g_counts g_pours g_image g_isKept f_now)) (hS : va_S A s.heap H locs) (hl : lv_has ls 3 [(0, .ref h), (2, .int x2)]), W p l e (headSpec v_X9_offOnes ({ frames := 2, cells := 0, slots := 0, locals := 43 } : Room)).room s m (([.ref h] : List Value).toArray) below meth c H locs 0 0 (MQ below (q_X9_offOnes D cI h h_now g_book g_places g_power g_spite g_ways g_milky g_sights g_sight g_signs g_pad g_offAt g_offWho g_reason g_acts g_enough g_rows g_counts g_pours g_image g_isKept post f_now A) (([.ref h] : List Value).toArray) s 0 0 A) (F0 m 35 ls [.int s1, .int s0]) := by
        intro x2 s0 s1 H locs ls hw hP hD hS hl
        unfold w_X9_offOnes_B35 at hw
        refine lv_ior hx hb dX9_offOnes_35 ?_
        refine lv_istore_n (lv' := [(1, .int (s0 ||| s1)), (0, .ref h), (2, .int x2)]) hx hb dX9_offOnes_36 rfl hl (by decide) rfl (fun ls hl => ?_)
        refine lv_iinc (k := 2) (v := (x2 + 1)) (lv' := [(2, .int (x2 + 1)), (1, .int (s0 ||| s1)), (0, .ref h)]) hx hb dX9_offOnes_37 hl rfl rfl (by decide) rfl (fun ls hl => ?_)
        refine lv_goto (tgt := 4) hx hb dX9_offOnes_40 (by decide) ?_
        exact ih4 (s0 ||| s1) (x2 + 1) _ _ _ hw hP hD hS (lv_sub hl [2, 1, 0] rfl)
      have J34 : ∀ (x2 : Int32) (s0 : Int32) (H : Heap) (locs : List Loc) (ls : Array Slot) (hw : w_X9_offOnes_B34 post f_now (fun x1 x2 => w_X9_offOnes_B4 post f_now n4 x1 x2) x2 s0) (hP : va_P D vwCl (cw_X9_offOnes cI h h_now g_book g_places g_power g_spite g_ways g_milky g_sights g_sight g_signs g_pad g_offAt g_offWho g_reason g_acts g_enough g_rows g_counts g_pours g_image g_isKept f_now) H) (hD : va_D A (cw_X9_offOnes cI h h_now g_book g_places g_power g_spite g_ways g_milky g_sights g_sight g_signs g_pad g_offAt g_offWho g_reason g_acts g_enough g_rows g_counts g_pours g_image g_isKept f_now)) (hS : va_S A s.heap H locs) (hl : lv_has ls 3 [(0, .ref h), (2, .int x2)]), W p l e (headSpec v_X9_offOnes ({ frames := 2, cells := 0, slots := 0, locals := 43 } : Room)).room s m (([.ref h] : List Value).toArray) below meth c H locs 0 0 (MQ below (q_X9_offOnes D cI h h_now g_book g_places g_power g_spite g_ways g_milky g_sights g_sight g_signs g_pad g_offAt g_offWho g_reason g_acts g_enough g_rows g_counts g_pours g_image g_isKept post f_now A) (([.ref h] : List Value).toArray) s 0 0 A) (F0 m 34 ls [.int s0]) := by
        intro x2 s0 H locs ls hw hP hD hS hl
        unfold w_X9_offOnes_B34 at hw
        refine lv_iconst (v := (0 : Int32)) hx hb dX9_offOnes_34 (by decide) ?_
        exact J35 x2 s0 (0 : Int32) _ _ _ hw hP hD hS (lv_sub hl [0, 1] rfl)
      intro x1 x2 H locs ls hw hP hD hS hl
      unfold w_X9_offOnes_B4 at hw
      refine lv_iload_n hx hb dX9_offOnes_4 rfl (lv_at hl 2 rfl) ?_
      refine lv_bipush (v := (8 : Int32)) hx hb dX9_offOnes_5 (by decide) ?_
      refine lv_icmp_ge (tgt := 43) hx hb dX9_offOnes_7 (by decide) (fun c7 => ?_) (fun c7 => ?_)
      · have hw := hw.1 c7
        refine lv_iload_n hx hb dX9_offOnes_43 rfl (lv_at hl 1 rfl) ?_
        exact z_iret hx hb hr hlocks () hw hP hS dX9_offOnes_44
      have hw := hw.2 c7
      refine lv_iload_n hx hb dX9_offOnes_10 rfl (lv_at hl 1 rfl) ?_
      refine lv_aload_n hx hb dX9_offOnes_11 rfl (lv_at hl 0 rfl) ?_
      refine lv_iload_n hx hb dX9_offOnes_12 rfl (lv_at hl 2 rfl) ?_
      refine z_ri (z_runV (As := [.int x2]) (rest := [.int x1]) hF (c_X9_sits l D cI cC cZ h h_now g_book g_places g_power g_spite g_ways g_milky g_sights g_sight g_signs g_pad g_offAt g_offWho g_reason g_acts g_enough g_rows g_counts g_pours g_image g_isKept f_now x2 _ _ hw) (cwV 1 hz (z_gV z4_38 z4_40 zp_19 z1_10 z4_41) rfl rfl rfl hd_X9_sits ⟨Nat.le_of_ble_eq_true rfl, Nat.le_of_ble_eq_true rfl⟩) hK hP hD [0, 1] rfl rfl 0 9 rfl rfl rfl rfl hl.1 rfl (Nat.le_of_ble_eq_true rfl) dX9_offOnes_13 ⟨Nat.zero_le _, Nat.zero_le _⟩) hP hD hS hA [0, 1] rfl (fun _ => rfl) (fun _ => cw_X9_offOnes cI h h_now g_book g_places g_power g_spite g_ways g_milky g_sights g_sight g_signs g_pad g_offAt g_offWho g_reason g_acts g_enough g_rows g_counts g_pours g_image g_isKept f_now) (fun _ => rfl) (fun r13 u13 H locs hw hP hD hS => ?_)
      obtain ⟨hn13, hw⟩ := hw
      try dsimp only at hw
      refine lv_if_eq (tgt := 34) hx hb dX9_offOnes_16 (by decide) (fun c16 => ?_) (fun c16 => ?_)
      · have hw := hw.1 c16
        exact J34 x2 x1 _ _ _ hw hP hD hS (lv_sub hl [0, 2] rfl)
      have hw := hw.2 c16
      refine lv_aload_n hx hb dX9_offOnes_19 rfl (lv_at hl 0 rfl) ?_
      refine va_get (D := D) (ci := 9) (v := .ref h_now) (C := RX9) (T := TX9) (N := 21) hx hb hz hX_X9 hown hK.1 hP 0 rfl rfl 1 (by decide) (hz _ z3_157) (fun _ h9 => h9) rfl dX9_offOnes_20 ?_
      refine lv_iload_n hx hb dX9_offOnes_23 rfl (lv_at hl 2 rfl) ?_
      obtain ⟨hi24, hw⟩ := hw
      refine va_iald hx hb hK.1 hP 1 0 rfl rfl hi24 dX9_offOnes_24 ?_
      refine lv_if_ne (tgt := 34) hx hb dX9_offOnes_25 (by decide) (fun c25 => ?_) (fun c25 => ?_)
      · have hw := hw.2 c25
        exact J34 x2 x1 _ _ _ hw hP hD hS (lv_sub hl [0, 2] rfl)
      have hw := hw.1 c25
      refine lv_iconst (v := (1 : Int32)) hx hb dX9_offOnes_28 (by decide) ?_
      refine lv_iload_n hx hb dX9_offOnes_29 rfl (lv_at hl 2 rfl) ?_
      refine lv_ishl hx hb dX9_offOnes_30 ?_
      refine lv_goto (tgt := 35) hx hb dX9_offOnes_31 (by decide) ?_
      exact J35 x2 x1 ((1 : Int32) <<< (x2 &&& 31)) _ _ _ hw hP hD hS (lv_sub hl [0, 2] rfl)
  unfold w_X9_offOnes at hw
  refine lv_iconst (v := (0 : Int32)) hx hb dX9_offOnes_0 (by decide) ?_
  refine lv_istore_n (lv' := [(1, .int (0 : Int32)), (0, .ref h)]) hx hb dX9_offOnes_1 rfl hl (by decide) rfl (fun ls hl => ?_)
  refine lv_iconst (v := (0 : Int32)) hx hb dX9_offOnes_2 (by decide) ?_
  refine lv_istore_n (lv' := [(2, .int (0 : Int32)), (1, .int (0 : Int32)), (0, .ref h)]) hx hb dX9_offOnes_3 rfl hl (by decide) rfl (fun ls hl => ?_)
  obtain ⟨n4, hw⟩ := hw
  exact L4 n4 (0 : Int32) (0 : Int32) _ _ _ hw hP hD hS (lv_sub hl [2, 1, 0] rfl)
abbrev cw_X9_farFrom (cI : ClassId) (h h_now h_places : Nat) (g_book g_power g_spite g_ways g_milky g_sights g_sight g_signs g_pad g_offAt g_offWho g_reason g_acts g_enough g_rows g_counts g_pours g_image g_isKept : Value) (f_now : Nat → Int32) (f_places : Nat → Int32) : va_W := [(h, .inr (9, [g_book, .ref h_now, .ref h_places, g_power, g_spite, g_ways, g_milky, g_sights, g_sight, g_signs, g_pad, g_offAt, g_offWho, g_reason, g_acts, g_enough, g_rows, g_counts, g_pours, g_image, g_isKept])), (h_now, .inl (cI, 12, .inl f_now)), (h_places, .inl (cI, 8, .inl f_places))]
abbrev q_X9_farFrom (D : va_G) (cI : ClassId) (h h_now h_places : Nat) (g_book g_power g_spite g_ways g_milky g_sights g_sight g_signs g_pad g_offAt g_offWho g_reason g_acts g_enough g_rows g_counts g_pours g_image g_isKept : Value) (post : Int32 → Prop) (f_now : Nat → Int32) (f_places : Nat → Int32) (A : Nat → Prop) : Array Value → State → Outcome → State → Prop := va_Qi (S := Unit) (fun r _ => post r ) (fun _ t => va_P D vwCl (cw_X9_farFrom cI h h_now h_places g_book g_power g_spite g_ways g_milky g_sights g_sight g_signs g_pad g_offAt g_offWho g_reason g_acts g_enough g_rows g_counts g_pours g_image g_isKept f_now f_places) t.heap) A
abbrev v_X9_farFrom : List Cond := .code yX9_farFrom cX9_farFrom 2 (some .int) :: zB
theorem hd_X9_farFrom : yX9_farFrom.cls = RX9 ∧ yX9_farFrom.cls ≠ "java/lang/invoke/MethodHandle" ∧ yX9_farFrom.cls ≠ "java/lang/invoke/VarHandle" ∧ (parseMethodDescriptor yX9_farFrom.desc).map (fun d => d.parameters.length) = some 1 := by decide +kernel
set_option maxHeartbeats 4000000 in
set_option maxRecDepth 100000 in
theorem c_X9_farFrom (l : Launch) (D : va_G) (cI cC cZ : ClassId) (h h_now h_places : Nat) (g_book g_power g_spite g_ways g_milky g_sights g_sight g_signs g_pad g_offAt g_offWho g_reason g_acts g_enough g_rows g_counts g_pours g_image g_isKept : Value) (f_now : Nat → Int32) (f_places : Nat → Int32) (p1 : Int32) (sz : Nat) (post : Int32 → Prop) (hw : w_X9_farFrom post f_now f_places p1) : Met l yX9_farFrom v_X9_farFrom ({ frames := 0, cells := 0, slots := 0, locals := 0 } : Room) (va_Pc [.ref h, .int p1] (zPre D (zT cI cC cZ) sz (cw_X9_farFrom cI h h_now h_places g_book g_power g_spite g_ways g_milky g_sights g_sight g_signs g_pad g_offAt g_offWho g_reason g_acts g_enough g_rows g_counts g_pours g_image g_isKept f_now f_places))) (q_X9_farFrom D cI h h_now h_places g_book g_power g_spite g_ways g_milky g_sights g_sight g_signs g_pad g_offAt g_offWho g_reason g_acts g_enough g_rows g_counts g_pours g_image g_isKept post f_now f_places (va_A (cw_X9_farFrom cI h h_now h_places g_book g_power g_spite g_ways g_milky g_sights g_sight g_signs g_pad g_offAt g_offWho g_reason g_acts g_enough g_rows g_counts g_pours g_image g_isKept f_now f_places) sz)) 0 0 (va_A (cw_X9_farFrom cI h h_now h_places g_book g_power g_spite g_ways g_milky g_sights g_sight g_signs g_pad g_offAt g_offWho g_reason g_acts g_enough g_rows g_counts g_pours g_image g_isKept f_now f_places) sz) := by
  refine Met.ofW (cc := cX9_farFrom) (maxL := 2) (ret := (some .int)) (by decide) rfl ?_
  intro p e s m args below meth c s₁ B hml hv
  obtain ⟨rfl, hsz, hP, hK, hD0⟩ := hv
  subst hsz
  have hx := B.exec
  have hb := B.bytes
  have hr := B.returns
  have hz : ∀ w ∈ zB, w.before _ s = true := fun w h => atoms_spec (ws := v_X9_farFrom) B.pre w (List.mem_cons_of_mem _ h)
  have hown : s.vm.findClass RX9 = some m.cls := findClass_of_methodNamed B.named
  have hlocks := B.notSynchronized
  have hF : CallFix p m c cX9_farFrom 2 s (([.ref h, .int p1] : List Value).toArray) zB RX9 := ⟨hx, hb, hml, hown, hz⟩
  have hD := hD0.self (sz := s.heap.size)
  generalize hAe : va_A (cw_X9_farFrom cI h h_now h_places g_book g_power g_spite g_ways g_milky g_sights g_sight g_signs g_pad g_offAt g_offWho g_reason g_acts g_enough g_rows g_counts g_pours g_image g_isKept f_now f_places) s.heap.size = A at hD ⊢
  have hA : ∀ q : Nat, s.heap.size ≤ q → A q := fun q h => by rw [← hAe]; exact Or.inr h
  have hS : va_S A s.heap s.heap [] := va_S.rf
  have hP : va_P D vwCl (cw_X9_farFrom cI h h_now h_places g_book g_power g_spite g_ways g_milky g_sights g_sight g_signs g_pad g_offAt g_offWho g_reason g_acts g_enough g_rows g_counts g_pours g_image g_isKept f_now f_places) s.heap := hP
  have hl := lv_entry ([.ref h, .int p1]) (n := 2) (Nat.le_of_ble_eq_true rfl)
  rw [lg_entry_eq]
  generalize (lg_sl ([.ref h, .int p1]) ++ List.replicate (2 - (lg_sl ([.ref h, .int p1])).length) Slot.unset).toArray = ls at hl ⊢
  have hl : lv_has ls 2 [(0, .ref h), (1, .int p1)] := hl
  unfold w_X9_farFrom at hw
  refine lv_aload_n hx hb dX9_farFrom_0 rfl (lv_at hl 0 rfl) ?_
  refine va_get (D := D) (ci := 9) (v := .ref h_places) (C := RX9) (T := TX9) (N := 21) hx hb hz hX_X9 hown hK.1 hP 0 rfl rfl 2 (by decide) (hz _ z3_158) (fun _ h9 => h9) rfl dX9_farFrom_1 ?_
  refine lv_iload_n hx hb dX9_farFrom_4 rfl (lv_at hl 1 rfl) ?_
  obtain ⟨hi5, hw⟩ := hw
  refine va_iald hx hb hK.1 hP 2 0 rfl rfl hi5 dX9_farFrom_5 ?_
  refine lv_aload_n hx hb dX9_farFrom_6 rfl (lv_at hl 0 rfl) ?_
  refine va_get (D := D) (ci := 9) (v := .ref h_now) (C := RX9) (T := TX9) (N := 21) hx hb hz hX_X9 hown hK.1 hP 0 rfl rfl 1 (by decide) (hz _ z3_157) (fun _ h9 => h9) rfl dX9_farFrom_7 ?_
  refine lv_bipush (v := (10 : Int32)) hx hb dX9_farFrom_10 (by decide) ?_
  refine va_iald hx hb hK.1 hP 1 0 rfl rfl (z_in rfl) dX9_farFrom_12 ?_
  refine lv_icmp_le (tgt := 33) hx hb dX9_farFrom_13 (by decide) (fun c13 => ?_) (fun c13 => ?_)
  · have hw := hw.1 c13
    refine lv_aload_n hx hb dX9_farFrom_33 rfl (lv_at hl 0 rfl) ?_
    refine va_get (D := D) (ci := 9) (v := .ref h_now) (C := RX9) (T := TX9) (N := 21) hx hb hz hX_X9 hown hK.1 hP 0 rfl rfl 1 (by decide) (hz _ z3_157) (fun _ h9 => h9) rfl dX9_farFrom_34 ?_
    refine lv_bipush (v := (10 : Int32)) hx hb dX9_farFrom_37 (by decide) ?_
    refine va_iald hx hb hK.1 hP 1 0 rfl rfl (z_in rfl) dX9_farFrom_39 ?_
    refine lv_aload_n hx hb dX9_farFrom_40 rfl (lv_at hl 0 rfl) ?_
    refine va_get (D := D) (ci := 9) (v := .ref h_places) (C := RX9) (T := TX9) (N := 21) hx hb hz hX_X9 hown hK.1 hP 0 rfl rfl 2 (by decide) (hz _ z3_158) (fun _ h9 => h9) rfl dX9_farFrom_41 ?_
    refine lv_iload_n hx hb dX9_farFrom_44 rfl (lv_at hl 1 rfl) ?_
    obtain ⟨hi45, hw⟩ := hw
    refine va_iald hx hb hK.1 hP 2 0 rfl rfl hi45 dX9_farFrom_45 ?_
    refine lv_isub hx hb dX9_farFrom_46 ?_
    exact z_iret hx hb hr hlocks () hw hP hS dX9_farFrom_47
  have hw := hw.2 c13
  refine lv_aload_n hx hb dX9_farFrom_16 rfl (lv_at hl 0 rfl) ?_
  refine va_get (D := D) (ci := 9) (v := .ref h_places) (C := RX9) (T := TX9) (N := 21) hx hb hz hX_X9 hown hK.1 hP 0 rfl rfl 2 (by decide) (hz _ z3_158) (fun _ h9 => h9) rfl dX9_farFrom_17 ?_
  refine lv_iload_n hx hb dX9_farFrom_20 rfl (lv_at hl 1 rfl) ?_
  obtain ⟨hi21, hw⟩ := hw
  refine va_iald hx hb hK.1 hP 2 0 rfl rfl hi21 dX9_farFrom_21 ?_
  refine lv_aload_n hx hb dX9_farFrom_22 rfl (lv_at hl 0 rfl) ?_
  refine va_get (D := D) (ci := 9) (v := .ref h_now) (C := RX9) (T := TX9) (N := 21) hx hb hz hX_X9 hown hK.1 hP 0 rfl rfl 1 (by decide) (hz _ z3_157) (fun _ h9 => h9) rfl dX9_farFrom_23 ?_
  refine lv_bipush (v := (10 : Int32)) hx hb dX9_farFrom_26 (by decide) ?_
  refine va_iald hx hb hK.1 hP 1 0 rfl rfl (z_in rfl) dX9_farFrom_28 ?_
  refine lv_isub hx hb dX9_farFrom_29 ?_
  refine lv_goto (tgt := 47) hx hb dX9_farFrom_30 (by decide) ?_
  exact z_iret hx hb hr hlocks () hw hP hS dX9_farFrom_47
abbrev cw_X9_lose (cI : ClassId) (h h_now : Nat) (g_book g_places g_power g_spite g_ways g_milky g_sights g_sight g_signs g_pad g_offAt g_offWho g_reason g_acts g_enough g_rows g_counts g_pours g_image g_isKept : Value) (f_now : Nat → Int32) : va_W := [(h, .inr (9, [g_book, .ref h_now, g_places, g_power, g_spite, g_ways, g_milky, g_sights, g_sight, g_signs, g_pad, g_offAt, g_offWho, g_reason, g_acts, g_enough, g_rows, g_counts, g_pours, g_image, g_isKept])), (h_now, .inl (cI, 12, .inl f_now))]
abbrev q_X9_lose (D : va_G) (cI : ClassId) (h h_now : Nat) (g_book g_places g_power g_spite g_ways g_milky g_sights g_sight g_signs g_pad g_offAt g_offWho g_reason g_acts g_enough g_rows g_counts g_pours g_image g_isKept : Value) (post : (Nat → Int32) → Prop) (A : Nat → Prop) : Array Value → State → Outcome → State → Prop := va_Qv (S := (Nat → Int32)) (fun u => post u) (fun u t => va_P D vwCl (cw_X9_lose cI h h_now g_book g_places g_power g_spite g_ways g_milky g_sights g_sight g_signs g_pad g_offAt g_offWho g_reason g_acts g_enough g_rows g_counts g_pours g_image g_isKept u) t.heap) A
abbrev v_X9_lose : List Cond := .code yX9_lose cX9_lose 3 none :: zB
theorem hd_X9_lose : yX9_lose.cls = RX9 ∧ yX9_lose.cls ≠ "java/lang/invoke/MethodHandle" ∧ yX9_lose.cls ≠ "java/lang/invoke/VarHandle" ∧ (parseMethodDescriptor yX9_lose.desc).map (fun d => d.parameters.length) = some 2 := by decide +kernel
set_option maxHeartbeats 4000000 in
set_option maxRecDepth 100000 in
theorem c_X9_lose (l : Launch) (D : va_G) (cI cC cZ : ClassId) (h h_now : Nat) (g_book g_places g_power g_spite g_ways g_milky g_sights g_sight g_signs g_pad g_offAt g_offWho g_reason g_acts g_enough g_rows g_counts g_pours g_image g_isKept : Value) (f_now : Nat → Int32) (p1 : Int32) (p2 : Int32) (sz : Nat) (post : (Nat → Int32) → Prop) (hw : w_X9_lose post f_now p1 p2) : Met l yX9_lose v_X9_lose ({ frames := 0, cells := 0, slots := 0, locals := 0 } : Room) (va_Pc [.ref h, .int p1, .int p2] (zPre D (zT cI cC cZ) sz (cw_X9_lose cI h h_now g_book g_places g_power g_spite g_ways g_milky g_sights g_sight g_signs g_pad g_offAt g_offWho g_reason g_acts g_enough g_rows g_counts g_pours g_image g_isKept f_now))) (q_X9_lose D cI h h_now g_book g_places g_power g_spite g_ways g_milky g_sights g_sight g_signs g_pad g_offAt g_offWho g_reason g_acts g_enough g_rows g_counts g_pours g_image g_isKept post (va_A (cw_X9_lose cI h h_now g_book g_places g_power g_spite g_ways g_milky g_sights g_sight g_signs g_pad g_offAt g_offWho g_reason g_acts g_enough g_rows g_counts g_pours g_image g_isKept f_now) sz)) 0 0 (va_A (cw_X9_lose cI h h_now g_book g_places g_power g_spite g_ways g_milky g_sights g_sight g_signs g_pad g_offAt g_offWho g_reason g_acts g_enough g_rows g_counts g_pours g_image g_isKept f_now) sz) := by
  refine Met.ofW (cc := cX9_lose) (maxL := 3) (ret := none) (by decide) rfl ?_
  intro p e s m args below meth c s₁ B hml hv
  obtain ⟨rfl, hsz, hP, hK, hD0⟩ := hv
  subst hsz
  have hx := B.exec
  have hb := B.bytes
  have hr := B.returns
  have hz : ∀ w ∈ zB, w.before _ s = true := fun w h => atoms_spec (ws := v_X9_lose) B.pre w (List.mem_cons_of_mem _ h)
  have hown : s.vm.findClass RX9 = some m.cls := findClass_of_methodNamed B.named
  have hlocks := B.notSynchronized
  have hF : CallFix p m c cX9_lose 3 s (([.ref h, .int p1, .int p2] : List Value).toArray) zB RX9 := ⟨hx, hb, hml, hown, hz⟩
  have hD := hD0.self (sz := s.heap.size)
  generalize hAe : va_A (cw_X9_lose cI h h_now g_book g_places g_power g_spite g_ways g_milky g_sights g_sight g_signs g_pad g_offAt g_offWho g_reason g_acts g_enough g_rows g_counts g_pours g_image g_isKept f_now) s.heap.size = A at hD ⊢
  have hA : ∀ q : Nat, s.heap.size ≤ q → A q := fun q h => by rw [← hAe]; exact Or.inr h
  have hS : va_S A s.heap s.heap [] := va_S.rf
  have hP : va_P D vwCl (cw_X9_lose cI h h_now g_book g_places g_power g_spite g_ways g_milky g_sights g_sight g_signs g_pad g_offAt g_offWho g_reason g_acts g_enough g_rows g_counts g_pours g_image g_isKept f_now) s.heap := hP
  have hl := lv_entry ([.ref h, .int p1, .int p2]) (n := 3) (Nat.le_of_ble_eq_true rfl)
  rw [lg_entry_eq]
  generalize (lg_sl ([.ref h, .int p1, .int p2]) ++ List.replicate (3 - (lg_sl ([.ref h, .int p1, .int p2])).length) Slot.unset).toArray = ls at hl ⊢
  have hl : lv_has ls 3 [(0, .ref h), (1, .int p1), (2, .int p2)] := hl
  unfold w_X9_lose at hw
  refine lv_aload_n hx hb dX9_lose_0 rfl (lv_at hl 0 rfl) ?_
  refine va_get (D := D) (ci := 9) (v := .ref h_now) (C := RX9) (T := TX9) (N := 21) hx hb hz hX_X9 hown hK.1 hP 0 rfl rfl 1 (by decide) (hz _ z3_157) (fun _ h9 => h9) rfl dX9_lose_1 ?_
  refine lv_iload_n hx hb dX9_lose_4 rfl (lv_at hl 1 rfl) ?_
  refine lv_aload_n hx hb dX9_lose_5 rfl (lv_at hl 0 rfl) ?_
  refine va_get (D := D) (ci := 9) (v := .ref h_now) (C := RX9) (T := TX9) (N := 21) hx hb hz hX_X9 hown hK.1 hP 0 rfl rfl 1 (by decide) (hz _ z3_157) (fun _ h9 => h9) rfl dX9_lose_6 ?_
  refine lv_iload_n hx hb dX9_lose_9 rfl (lv_at hl 1 rfl) ?_
  obtain ⟨hi10, hw⟩ := hw
  refine va_iald hx hb hK.1 hP 1 0 rfl rfl hi10 dX9_lose_10 ?_
  refine lv_iload_n hx hb dX9_lose_11 rfl (lv_at hl 2 rfl) ?_
  refine lv_icmp_le (tgt := 26) hx hb dX9_lose_12 (by decide) (fun c12 => ?_) (fun c12 => ?_)
  · have hw := hw.1 c12
    refine lv_iconst (v := (0 : Int32)) hx hb dX9_lose_26 (by decide) ?_
    obtain ⟨hi27, hw⟩ := hw
    refine va_iast hx hb hK.1 hP hD hS 1 0 rfl rfl hi27 dX9_lose_27 (fun H locs hP hD hS => ?_)
    have hP : va_P D vwCl (cw_X9_lose cI h h_now g_book g_places g_power g_spite g_ways g_milky g_sights g_sight g_signs g_pad g_offAt g_offWho g_reason g_acts g_enough g_rows g_counts g_pours g_image g_isKept (upd f_now p1.toNatClampNeg (0 : Int32))) H := hP
    have hD : va_D A (cw_X9_lose cI h h_now g_book g_places g_power g_spite g_ways g_milky g_sights g_sight g_signs g_pad g_offAt g_offWho g_reason g_acts g_enough g_rows g_counts g_pours g_image g_isKept (upd f_now p1.toNatClampNeg (0 : Int32))) := hD
    exact z_vret hx hb hr hlocks (upd f_now p1.toNatClampNeg (0 : Int32)) hw hP hS dX9_lose_28
  have hw := hw.2 c12
  refine lv_aload_n hx hb dX9_lose_15 rfl (lv_at hl 0 rfl) ?_
  refine va_get (D := D) (ci := 9) (v := .ref h_now) (C := RX9) (T := TX9) (N := 21) hx hb hz hX_X9 hown hK.1 hP 0 rfl rfl 1 (by decide) (hz _ z3_157) (fun _ h9 => h9) rfl dX9_lose_16 ?_
  refine lv_iload_n hx hb dX9_lose_19 rfl (lv_at hl 1 rfl) ?_
  obtain ⟨hi20, hw⟩ := hw
  refine va_iald hx hb hK.1 hP 1 0 rfl rfl hi20 dX9_lose_20 ?_
  refine lv_iload_n hx hb dX9_lose_21 rfl (lv_at hl 2 rfl) ?_
  refine lv_isub hx hb dX9_lose_22 ?_
  refine lv_goto (tgt := 27) hx hb dX9_lose_23 (by decide) ?_
  obtain ⟨hi27, hw⟩ := hw
  refine va_iast hx hb hK.1 hP hD hS 1 0 rfl rfl hi27 dX9_lose_27 (fun H locs hP hD hS => ?_)
  have hP : va_P D vwCl (cw_X9_lose cI h h_now g_book g_places g_power g_spite g_ways g_milky g_sights g_sight g_signs g_pad g_offAt g_offWho g_reason g_acts g_enough g_rows g_counts g_pours g_image g_isKept (upd f_now p1.toNatClampNeg ((f_now p1.toNatClampNeg) - p2))) H := hP
  have hD : va_D A (cw_X9_lose cI h h_now g_book g_places g_power g_spite g_ways g_milky g_sights g_sight g_signs g_pad g_offAt g_offWho g_reason g_acts g_enough g_rows g_counts g_pours g_image g_isKept (upd f_now p1.toNatClampNeg ((f_now p1.toNatClampNeg) - p2))) := hD
  exact z_vret hx hb hr hlocks (upd f_now p1.toNatClampNeg ((f_now p1.toNatClampNeg) - p2)) hw hP hS dX9_lose_28
abbrev cw_X9_step (cI : ClassId) (h h_now : Nat) (g_book g_places g_power g_spite g_ways g_milky g_sights g_sight g_signs g_pad g_offAt g_offWho g_reason g_acts g_enough g_rows g_counts g_pours g_image g_isKept : Value) (f_now : Nat → Int32) : va_W := [(h, .inr (9, [g_book, .ref h_now, g_places, g_power, g_spite, g_ways, g_milky, g_sights, g_sight, g_signs, g_pad, g_offAt, g_offWho, g_reason, g_acts, g_enough, g_rows, g_counts, g_pours, g_image, g_isKept])), (h_now, .inl (cI, 12, .inl f_now))]
abbrev q_X9_step (D : va_G) (cI : ClassId) (h h_now : Nat) (g_book g_places g_power g_spite g_ways g_milky g_sights g_sight g_signs g_pad g_offAt g_offWho g_reason g_acts g_enough g_rows g_counts g_pours g_image g_isKept : Value) (post : Int32 → (Nat → Int32) → Prop) (A : Nat → Prop) : Array Value → State → Outcome → State → Prop := va_Qi (S := (Nat → Int32)) (fun r u => post r u) (fun u t => va_P D vwCl (cw_X9_step cI h h_now g_book g_places g_power g_spite g_ways g_milky g_sights g_sight g_signs g_pad g_offAt g_offWho g_reason g_acts g_enough g_rows g_counts g_pours g_image g_isKept u) t.heap) A
abbrev v_X9_step : List Cond := .code yX9_step cX9_step 2 (some .int) :: zB
theorem hd_X9_step : yX9_step.cls = RX9 ∧ yX9_step.cls ≠ "java/lang/invoke/MethodHandle" ∧ yX9_step.cls ≠ "java/lang/invoke/VarHandle" ∧ (parseMethodDescriptor yX9_step.desc).map (fun d => d.parameters.length) = some 1 := by decide +kernel
set_option maxHeartbeats 4000000 in
set_option maxRecDepth 100000 in
theorem c_X9_step (l : Launch) (D : va_G) (cI cC cZ : ClassId) (h h_now : Nat) (g_book g_places g_power g_spite g_ways g_milky g_sights g_sight g_signs g_pad g_offAt g_offWho g_reason g_acts g_enough g_rows g_counts g_pours g_image g_isKept : Value) (f_now : Nat → Int32) (p1 : Int32) (sz : Nat) (post : Int32 → (Nat → Int32) → Prop) (hw : w_X9_step post f_now p1) : Met l yX9_step v_X9_step ({ frames := 1, cells := 0, slots := 0, locals := 22 } : Room) (va_Pc [.ref h, .int p1] (zPre D (zT cI cC cZ) sz (cw_X9_step cI h h_now g_book g_places g_power g_spite g_ways g_milky g_sights g_sight g_signs g_pad g_offAt g_offWho g_reason g_acts g_enough g_rows g_counts g_pours g_image g_isKept f_now))) (q_X9_step D cI h h_now g_book g_places g_power g_spite g_ways g_milky g_sights g_sight g_signs g_pad g_offAt g_offWho g_reason g_acts g_enough g_rows g_counts g_pours g_image g_isKept post (va_A (cw_X9_step cI h h_now g_book g_places g_power g_spite g_ways g_milky g_sights g_sight g_signs g_pad g_offAt g_offWho g_reason g_acts g_enough g_rows g_counts g_pours g_image g_isKept f_now) sz)) 0 0 (va_A (cw_X9_step cI h h_now g_book g_places g_power g_spite g_ways g_milky g_sights g_sight g_signs g_pad g_offAt g_offWho g_reason g_acts g_enough g_rows g_counts g_pours g_image g_isKept f_now) sz) := by
  refine Met.ofW (cc := cX9_step) (maxL := 2) (ret := (some .int)) (by decide) rfl ?_
  intro p e s m args below meth c s₁ B hml hv
  obtain ⟨rfl, hsz, hP, hK, hD0⟩ := hv
  subst hsz
  have hx := B.exec
  have hb := B.bytes
  have hr := B.returns
  have hz : ∀ w ∈ zB, w.before _ s = true := fun w h => atoms_spec (ws := v_X9_step) B.pre w (List.mem_cons_of_mem _ h)
  have hown : s.vm.findClass RX9 = some m.cls := findClass_of_methodNamed B.named
  have hlocks := B.notSynchronized
  have hF : CallFix p m c cX9_step 2 s (([.ref h, .int p1] : List Value).toArray) zB RX9 := ⟨hx, hb, hml, hown, hz⟩
  have hD := hD0.self (sz := s.heap.size)
  generalize hAe : va_A (cw_X9_step cI h h_now g_book g_places g_power g_spite g_ways g_milky g_sights g_sight g_signs g_pad g_offAt g_offWho g_reason g_acts g_enough g_rows g_counts g_pours g_image g_isKept f_now) s.heap.size = A at hD ⊢
  have hA : ∀ q : Nat, s.heap.size ≤ q → A q := fun q h => by rw [← hAe]; exact Or.inr h
  have hS : va_S A s.heap s.heap [] := va_S.rf
  have hP : va_P D vwCl (cw_X9_step cI h h_now g_book g_places g_power g_spite g_ways g_milky g_sights g_sight g_signs g_pad g_offAt g_offWho g_reason g_acts g_enough g_rows g_counts g_pours g_image g_isKept f_now) s.heap := hP
  have hl := lv_entry ([.ref h, .int p1]) (n := 2) (Nat.le_of_ble_eq_true rfl)
  rw [lg_entry_eq]
  generalize (lg_sl ([.ref h, .int p1]) ++ List.replicate (2 - (lg_sl ([.ref h, .int p1])).length) Slot.unset).toArray = ls at hl ⊢
  have hl : lv_has ls 2 [(0, .ref h), (1, .int p1)] := hl
  unfold w_X9_step at hw
  refine lv_aload_n hx hb dX9_step_0 rfl (lv_at hl 0 rfl) ?_
  refine va_get (D := D) (ci := 9) (v := .ref h_now) (C := RX9) (T := TX9) (N := 21) hx hb hz hX_X9 hown hK.1 hP 0 rfl rfl 1 (by decide) (hz _ z3_157) (fun _ h9 => h9) rfl dX9_step_1 ?_
  refine lv_bipush (v := (10 : Int32)) hx hb dX9_step_4 (by decide) ?_
  refine va_iald hx hb hK.1 hP 1 0 rfl rfl (z_in rfl) dX9_step_6 ?_
  refine lv_iload_n hx hb dX9_step_7 rfl (lv_at hl 1 rfl) ?_
  refine lv_iadd hx hb dX9_step_8 ?_
  refine lv_iconst (v := (0 : Int32)) hx hb dX9_step_9 (by decide) ?_
  refine lv_bipush (v := (15 : Int32)) hx hb dX9_step_10 (by decide) ?_
  refine z_ri (z_runS (As := [.int ((f_now (10 : Int32).toNatClampNeg) + p1), .int (0 : Int32), .int (15 : Int32)]) (rest := []) hF (c_X9_in l D cI cC cZ ((f_now (10 : Int32).toNatClampNeg) + p1) (0 : Int32) (15 : Int32) _ _ hw) (va_cwS 3 hz (z_gS z3_225 z3_226 z1_10 z3_227) rfl rfl rfl hd_X9_in ⟨Nat.le_of_ble_eq_true rfl, Nat.le_of_ble_eq_true rfl⟩) hK hP hD [] rfl rfl rfl hl.1 rfl (Nat.le_of_ble_eq_true rfl) dX9_step_12 ⟨Nat.zero_le _, Nat.zero_le _⟩) hP hD hS hA [] rfl (fun _ => rfl) (fun _ => cw_X9_step cI h h_now g_book g_places g_power g_spite g_ways g_milky g_sights g_sight g_signs g_pad g_offAt g_offWho g_reason g_acts g_enough g_rows g_counts g_pours g_image g_isKept f_now) (fun _ => rfl) (fun r12 u12 H locs hw hP hD hS => ?_)
  obtain ⟨hn12, hw⟩ := hw
  try dsimp only at hw
  refine lv_if_ne (tgt := 20) hx hb dX9_step_15 (by decide) (fun c15 => ?_) (fun c15 => ?_)
  · have hw := hw.2 c15
    refine lv_aload_n hx hb dX9_step_20 rfl (lv_at hl 0 rfl) ?_
    refine va_get (D := D) (ci := 9) (v := .ref h_now) (C := RX9) (T := TX9) (N := 21) hx hb hz hX_X9 hown hK.1 hP 0 rfl rfl 1 (by decide) (hz _ z3_157) (fun _ h9 => h9) rfl dX9_step_21 ?_
    refine lv_bipush (v := (10 : Int32)) hx hb dX9_step_24 (by decide) ?_
    refine lv_dup2_11 hx hb dX9_step_26 rfl rfl ?_
    refine va_iald hx hb hK.1 hP 1 0 rfl rfl (z_in rfl) dX9_step_27 ?_
    refine lv_iload_n hx hb dX9_step_28 rfl (lv_at hl 1 rfl) ?_
    refine lv_iadd hx hb dX9_step_29 ?_
    refine va_iast hx hb hK.1 hP hD hS 1 0 rfl rfl (z_in rfl) dX9_step_30 (fun H locs hP hD hS => ?_)
    have hP : va_P D vwCl (cw_X9_step cI h h_now g_book g_places g_power g_spite g_ways g_milky g_sights g_sight g_signs g_pad g_offAt g_offWho g_reason g_acts g_enough g_rows g_counts g_pours g_image g_isKept (upd f_now (10 : Int32).toNatClampNeg ((f_now (10 : Int32).toNatClampNeg) + p1))) H := hP
    have hD : va_D A (cw_X9_step cI h h_now g_book g_places g_power g_spite g_ways g_milky g_sights g_sight g_signs g_pad g_offAt g_offWho g_reason g_acts g_enough g_rows g_counts g_pours g_image g_isKept (upd f_now (10 : Int32).toNatClampNeg ((f_now (10 : Int32).toNatClampNeg) + p1))) := hD
    refine lv_iconst (v := (0 : Int32)) hx hb dX9_step_31 (by decide) ?_
    exact z_iret hx hb hr hlocks (upd f_now (10 : Int32).toNatClampNeg ((f_now (10 : Int32).toNatClampNeg) + p1)) hw hP hS dX9_step_32
  have hw := hw.1 c15
  refine lv_iconst (v := (2 : Int32)) hx hb dX9_step_18 (by decide) ?_
  exact z_iret hx hb hr hlocks f_now hw hP hS dX9_step_19
abbrev cw_X9_bend (cI : ClassId) (h h_now h_places : Nat) (g_book g_ways g_milky g_sights g_sight g_signs g_pad g_offAt g_offWho g_reason g_acts g_enough g_rows g_counts g_pours g_image g_isKept : Value) (f_now : Nat → Int32) (f_places : Nat → Int32) (f_power : Int32) (f_spite : Int32) : va_W := [(h, .inr (9, [g_book, .ref h_now, .ref h_places, .int f_power, .int f_spite, g_ways, g_milky, g_sights, g_sight, g_signs, g_pad, g_offAt, g_offWho, g_reason, g_acts, g_enough, g_rows, g_counts, g_pours, g_image, g_isKept])), (h_now, .inl (cI, 12, .inl f_now)), (h_places, .inl (cI, 8, .inl f_places))]
abbrev q_X9_bend (D : va_G) (cI : ClassId) (h h_now h_places : Nat) (g_book g_ways g_milky g_sights g_sight g_signs g_pad g_offAt g_offWho g_reason g_acts g_enough g_rows g_counts g_pours g_image g_isKept : Value) (post : Int32 → (Nat → Int32) → Prop) (f_places : Nat → Int32) (f_power : Int32) (f_spite : Int32) (A : Nat → Prop) : Array Value → State → Outcome → State → Prop := va_Qi (S := (Nat → Int32)) (fun r u => post r u) (fun u t => va_P D vwCl (cw_X9_bend cI h h_now h_places g_book g_ways g_milky g_sights g_sight g_signs g_pad g_offAt g_offWho g_reason g_acts g_enough g_rows g_counts g_pours g_image g_isKept u f_places f_power f_spite) t.heap) A
abbrev v_X9_bend : List Cond := .code yX9_bend cX9_bend 2 (some .int) :: zB
theorem hd_X9_bend : yX9_bend.cls = RX9 ∧ yX9_bend.cls ≠ "java/lang/invoke/MethodHandle" ∧ yX9_bend.cls ≠ "java/lang/invoke/VarHandle" ∧ (parseMethodDescriptor yX9_bend.desc).map (fun d => d.parameters.length) = some 1 := by decide +kernel
set_option maxHeartbeats 4000000 in
set_option maxRecDepth 100000 in
theorem c_X9_bend (l : Launch) (D : va_G) (cI cC cZ : ClassId) (h h_now h_places : Nat) (g_book g_ways g_milky g_sights g_sight g_signs g_pad g_offAt g_offWho g_reason g_acts g_enough g_rows g_counts g_pours g_image g_isKept : Value) (f_now : Nat → Int32) (f_places : Nat → Int32) (f_power : Int32) (f_spite : Int32) (p1 : Int32) (sz : Nat) (post : Int32 → (Nat → Int32) → Prop) (hw : w_X9_bend post f_now f_places f_power f_spite p1) : Met l yX9_bend v_X9_bend ({ frames := 2, cells := 0, slots := 0, locals := 43 } : Room) (va_Pc [.ref h, .int p1] (zPre D (zT cI cC cZ) sz (cw_X9_bend cI h h_now h_places g_book g_ways g_milky g_sights g_sight g_signs g_pad g_offAt g_offWho g_reason g_acts g_enough g_rows g_counts g_pours g_image g_isKept f_now f_places f_power f_spite))) (q_X9_bend D cI h h_now h_places g_book g_ways g_milky g_sights g_sight g_signs g_pad g_offAt g_offWho g_reason g_acts g_enough g_rows g_counts g_pours g_image g_isKept post f_places f_power f_spite (va_A (cw_X9_bend cI h h_now h_places g_book g_ways g_milky g_sights g_sight g_signs g_pad g_offAt g_offWho g_reason g_acts g_enough g_rows g_counts g_pours g_image g_isKept f_now f_places f_power f_spite) sz)) 0 0 (va_A (cw_X9_bend cI h h_now h_places g_book g_ways g_milky g_sights g_sight g_signs g_pad g_offAt g_offWho g_reason g_acts g_enough g_rows g_counts g_pours g_image g_isKept f_now f_places f_power f_spite) sz) := by
  refine Met.ofW (cc := cX9_bend) (maxL := 2) (ret := (some .int)) (by decide) rfl ?_
  intro p e s m args below meth c s₁ B hml hv
  obtain ⟨rfl, hsz, hP, hK, hD0⟩ := hv
  subst hsz
  have hx := B.exec
  have hb := B.bytes
  have hr := B.returns
  have hz : ∀ w ∈ zB, w.before _ s = true := fun w h => atoms_spec (ws := v_X9_bend) B.pre w (List.mem_cons_of_mem _ h)
  have hown : s.vm.findClass RX9 = some m.cls := findClass_of_methodNamed B.named
  have hlocks := B.notSynchronized
  have hF : CallFix p m c cX9_bend 2 s (([.ref h, .int p1] : List Value).toArray) zB RX9 := ⟨hx, hb, hml, hown, hz⟩
  have hD := hD0.self (sz := s.heap.size)
  generalize hAe : va_A (cw_X9_bend cI h h_now h_places g_book g_ways g_milky g_sights g_sight g_signs g_pad g_offAt g_offWho g_reason g_acts g_enough g_rows g_counts g_pours g_image g_isKept f_now f_places f_power f_spite) s.heap.size = A at hD ⊢
  have hA : ∀ q : Nat, s.heap.size ≤ q → A q := fun q h => by rw [← hAe]; exact Or.inr h
  have hS : va_S A s.heap s.heap [] := va_S.rf
  have hP : va_P D vwCl (cw_X9_bend cI h h_now h_places g_book g_ways g_milky g_sights g_sight g_signs g_pad g_offAt g_offWho g_reason g_acts g_enough g_rows g_counts g_pours g_image g_isKept f_now f_places f_power f_spite) s.heap := hP
  have hl := lv_entry ([.ref h, .int p1]) (n := 2) (Nat.le_of_ble_eq_true rfl)
  rw [lg_entry_eq]
  generalize (lg_sl ([.ref h, .int p1]) ++ List.replicate (2 - (lg_sl ([.ref h, .int p1])).length) Slot.unset).toArray = ls at hl ⊢
  have hl : lv_has ls 2 [(0, .ref h), (1, .int p1)] := hl
  have J64 : ∀ (f_now : Nat → Int32) (s1 : Int32) (s2 : Int32) (s3 : Int32) (H : Heap) (locs : List Loc) (ls : Array Slot) (hw : w_X9_bend_B64 post f_places f_power f_spite p1 f_now s1 s2 s3) (hP : va_P D vwCl (cw_X9_bend cI h h_now h_places g_book g_ways g_milky g_sights g_sight g_signs g_pad g_offAt g_offWho g_reason g_acts g_enough g_rows g_counts g_pours g_image g_isKept f_now f_places f_power f_spite) H) (hD : va_D A (cw_X9_bend cI h h_now h_places g_book g_ways g_milky g_sights g_sight g_signs g_pad g_offAt g_offWho g_reason g_acts g_enough g_rows g_counts g_pours g_image g_isKept f_now f_places f_power f_spite)) (hS : va_S A s.heap H locs) (hl : lv_has ls 2 []), W p l e (headSpec v_X9_bend ({ frames := 2, cells := 0, slots := 0, locals := 43 } : Room)).room s m (([.ref h, .int p1] : List Value).toArray) below meth c H locs 0 0 (MQ below (q_X9_bend D cI h h_now h_places g_book g_ways g_milky g_sights g_sight g_signs g_pad g_offAt g_offWho g_reason g_acts g_enough g_rows g_counts g_pours g_image g_isKept post f_places f_power f_spite A) (([.ref h, .int p1] : List Value).toArray) s 0 0 A) (F0 m 64 ls [.int s3, .int s2, .int s1, .ref h]) := by
    intro f_now s1 s2 s3 H locs ls hw hP hD hS hl
    unfold w_X9_bend_B64 at hw
    refine lv_iadd hx hb dX9_bend_64 ?_
    refine z_rv (z_runV (As := [.int s1, .int (s2 + s3)]) (rest := []) hF (c_X9_lose l D cI cC cZ h h_now g_book (.ref h_places) (.int f_power) (.int f_spite) g_ways g_milky g_sights g_sight g_signs g_pad g_offAt g_offWho g_reason g_acts g_enough g_rows g_counts g_pours g_image g_isKept f_now s1 (s2 + s3) _ _ hw) (cwV 2 hz (z_gV z4_57 z4_59 zp_23 z1_10 z4_60) rfl rfl rfl hd_X9_lose ⟨Nat.le_of_ble_eq_true rfl, Nat.le_of_ble_eq_true rfl⟩) hK hP hD [0, 1] rfl rfl 0 9 rfl rfl rfl rfl hl.1 rfl (Nat.le_of_ble_eq_true rfl) dX9_bend_65 ⟨Nat.zero_le _, Nat.zero_le _⟩) hP hD hS hA [0, 1] rfl (fun _ => rfl) (fun u => cw_X9_bend cI h h_now h_places g_book g_ways g_milky g_sights g_sight g_signs g_pad g_offAt g_offWho g_reason g_acts g_enough g_rows g_counts g_pours g_image g_isKept u f_places f_power f_spite) (fun _ => rfl) (fun u65_0 H locs hw hP hD hS => ?_)
    try dsimp only at hw
    have hP : va_P D vwCl (cw_X9_bend cI h h_now h_places g_book g_ways g_milky g_sights g_sight g_signs g_pad g_offAt g_offWho g_reason g_acts g_enough g_rows g_counts g_pours g_image g_isKept u65_0 f_places f_power f_spite) H := hP
    have hD : va_D A (cw_X9_bend cI h h_now h_places g_book g_ways g_milky g_sights g_sight g_signs g_pad g_offAt g_offWho g_reason g_acts g_enough g_rows g_counts g_pours g_image g_isKept u65_0 f_places f_power f_spite) := hD
    refine lv_iconst (v := (0 : Int32)) hx hb dX9_bend_68 (by decide) ?_
    exact z_iret hx hb hr hlocks u65_0 hw hP hS dX9_bend_69
  unfold w_X9_bend at hw
  refine lv_aload_n hx hb dX9_bend_0 rfl (lv_at hl 0 rfl) ?_
  refine lv_iload_n hx hb dX9_bend_1 rfl (lv_at hl 1 rfl) ?_
  refine z_ri (z_runV (As := [.int p1]) (rest := []) hF (c_X9_sits l D cI cC cZ h h_now g_book (.ref h_places) (.int f_power) (.int f_spite) g_ways g_milky g_sights g_sight g_signs g_pad g_offAt g_offWho g_reason g_acts g_enough g_rows g_counts g_pours g_image g_isKept f_now p1 _ _ hw) (cwV 1 hz (z_gV z4_38 z4_40 zp_19 z1_10 z4_41) rfl rfl rfl hd_X9_sits ⟨Nat.le_of_ble_eq_true rfl, Nat.le_of_ble_eq_true rfl⟩) hK hP hD [0, 1] rfl rfl 0 9 rfl rfl rfl rfl hl.1 rfl (Nat.le_of_ble_eq_true rfl) dX9_bend_2 ⟨Nat.zero_le _, Nat.zero_le _⟩) hP hD hS hA [0, 1] rfl (fun _ => rfl) (fun _ => cw_X9_bend cI h h_now h_places g_book g_ways g_milky g_sights g_sight g_signs g_pad g_offAt g_offWho g_reason g_acts g_enough g_rows g_counts g_pours g_image g_isKept f_now f_places f_power f_spite) (fun _ => rfl) (fun r2 u2 H locs hw hP hD hS => ?_)
  obtain ⟨hn2, hw⟩ := hw
  try dsimp only at hw
  refine lv_if_ne (tgt := 10) hx hb dX9_bend_5 (by decide) (fun c5 => ?_) (fun c5 => ?_)
  · have hw := hw.2 c5
    refine lv_aload_n hx hb dX9_bend_10 rfl (lv_at hl 0 rfl) ?_
    refine lv_iload_n hx hb dX9_bend_11 rfl (lv_at hl 1 rfl) ?_
    refine z_ri (z_runV (As := [.int p1]) (rest := []) hF (c_X9_farFrom l D cI cC cZ h h_now h_places g_book (.int f_power) (.int f_spite) g_ways g_milky g_sights g_sight g_signs g_pad g_offAt g_offWho g_reason g_acts g_enough g_rows g_counts g_pours g_image g_isKept f_now f_places p1 _ _ hw) (cwV 1 hz (z_gV z4_53 z4_55 zp_22 z1_10 z4_56) rfl rfl rfl hd_X9_farFrom ⟨Nat.le_of_ble_eq_true rfl, Nat.le_of_ble_eq_true rfl⟩) hK hP hD [0, 1, 2] rfl rfl 0 9 rfl rfl rfl rfl hl.1 rfl (Nat.le_of_ble_eq_true rfl) dX9_bend_12 ⟨Nat.zero_le _, Nat.zero_le _⟩) hP hD hS hA [0, 1, 2] rfl (fun _ => rfl) (fun _ => cw_X9_bend cI h h_now h_places g_book g_ways g_milky g_sights g_sight g_signs g_pad g_offAt g_offWho g_reason g_acts g_enough g_rows g_counts g_pours g_image g_isKept f_now f_places f_power f_spite) (fun _ => rfl) (fun r12 u12 H locs hw hP hD hS => ?_)
    try dsimp only at hw
    refine lv_iconst (v := (1 : Int32)) hx hb dX9_bend_15 (by decide) ?_
    refine lv_icmp_le (tgt := 21) hx hb dX9_bend_16 (by decide) (fun c16 => ?_) (fun c16 => ?_)
    · have hw := hw.1 c16
      refine lv_aload_n hx hb dX9_bend_21 rfl (lv_at hl 0 rfl) ?_
      refine va_get (D := D) (ci := 9) (v := .ref h_now) (C := RX9) (T := TX9) (N := 21) hx hb hz hX_X9 hown hK.1 hP 0 rfl rfl 1 (by decide) (hz _ z3_157) (fun _ h9 => h9) rfl dX9_bend_22 ?_
      refine lv_iload_n hx hb dX9_bend_25 rfl (lv_at hl 1 rfl) ?_
      obtain ⟨hi26, hw⟩ := hw
      refine va_iald hx hb hK.1 hP 1 0 rfl rfl hi26 dX9_bend_26 ?_
      refine lv_if_ne (tgt := 32) hx hb dX9_bend_27 (by decide) (fun c27 => ?_) (fun c27 => ?_)
      · have hw := hw.2 c27
        refine lv_aload_n hx hb dX9_bend_32 rfl (lv_at hl 0 rfl) ?_
        refine lv_iload_n hx hb dX9_bend_33 rfl (lv_at hl 1 rfl) ?_
        refine lv_iconst (v := (2 : Int32)) hx hb dX9_bend_34 (by decide) ?_
        refine lv_aload_n hx hb dX9_bend_35 rfl (lv_at hl 0 rfl) ?_
        refine va_get (D := D) (ci := 9) (v := .int f_power) (C := RX9) (T := TX9) (N := 21) hx hb hz hX_X9 hown hK.1 hP 0 rfl rfl 3 (by decide) (hz _ z3_159) (fun _ h9 => h9) rfl dX9_bend_36 ?_
        refine lv_imul hx hb dX9_bend_39 ?_
        refine lv_aload_n hx hb dX9_bend_40 rfl (lv_at hl 0 rfl) ?_
        refine va_get (D := D) (ci := 9) (v := .ref h_now) (C := RX9) (T := TX9) (N := 21) hx hb hz hX_X9 hown hK.1 hP 0 rfl rfl 1 (by decide) (hz _ z3_157) (fun _ h9 => h9) rfl dX9_bend_41 ?_
        refine lv_bipush (v := (9 : Int32)) hx hb dX9_bend_44 (by decide) ?_
        refine va_iald hx hb hK.1 hP 1 0 rfl rfl (z_in rfl) dX9_bend_46 ?_
        refine lv_iload_n hx hb dX9_bend_47 rfl (lv_at hl 1 rfl) ?_
        refine z_ri (z_runS (As := [.int (f_now (9 : Int32).toNatClampNeg), .int p1]) (rest := [.int ((2 : Int32) * f_power), .int p1, .ref h]) hF (c_X9_has l D cI cC cZ (f_now (9 : Int32).toNatClampNeg) p1 _ _ hw) (va_cwS 2 hz (z_gS z4_42 z4_43 z1_10 z4_44) rfl rfl rfl hd_X9_has ⟨Nat.le_of_ble_eq_true rfl, Nat.le_of_ble_eq_true rfl⟩) hK hP hD [] rfl rfl rfl hl.1 rfl (Nat.le_of_ble_eq_true rfl) dX9_bend_48 ⟨Nat.zero_le _, Nat.zero_le _⟩) hP hD hS hA [] rfl (fun _ => rfl) (fun _ => cw_X9_bend cI h h_now h_places g_book g_ways g_milky g_sights g_sight g_signs g_pad g_offAt g_offWho g_reason g_acts g_enough g_rows g_counts g_pours g_image g_isKept f_now f_places f_power f_spite) (fun _ => rfl) (fun r48 u48 H locs hw hP hD hS => ?_)
        obtain ⟨hn48, hw⟩ := hw
        try dsimp only at hw
        refine lv_if_eq (tgt := 63) hx hb dX9_bend_51 (by decide) (fun c51 => ?_) (fun c51 => ?_)
        · have hw := hw.1 c51
          refine lv_iconst (v := (0 : Int32)) hx hb dX9_bend_63 (by decide) ?_
          exact J64 f_now p1 ((2 : Int32) * f_power) (0 : Int32) _ _ _ hw hP hD hS (lv_sub hl [] rfl)
        have hw := hw.2 c51
        refine lv_iconst (v := (3 : Int32)) hx hb dX9_bend_54 (by decide) ?_
        refine lv_aload_n hx hb dX9_bend_55 rfl (lv_at hl 0 rfl) ?_
        refine va_get (D := D) (ci := 9) (v := .int f_spite) (C := RX9) (T := TX9) (N := 21) hx hb hz hX_X9 hown hK.1 hP 0 rfl rfl 4 (by decide) (hz _ z3_160) (fun _ h9 => h9) rfl dX9_bend_56 ?_
        refine lv_imul hx hb dX9_bend_59 ?_
        refine lv_goto (tgt := 64) hx hb dX9_bend_60 (by decide) ?_
        exact J64 f_now p1 ((2 : Int32) * f_power) ((3 : Int32) * f_spite) _ _ _ hw hP hD hS (lv_sub hl [] rfl)
      have hw := hw.1 c27
      refine lv_iconst (v := (4 : Int32)) hx hb dX9_bend_30 (by decide) ?_
      exact z_iret hx hb hr hlocks f_now hw hP hS dX9_bend_31
    have hw := hw.2 c16
    refine lv_iconst (v := (3 : Int32)) hx hb dX9_bend_19 (by decide) ?_
    exact z_iret hx hb hr hlocks f_now hw hP hS dX9_bend_20
  have hw := hw.1 c5
  refine lv_iconst (v := (1 : Int32)) hx hb dX9_bend_8 (by decide) ?_
  exact z_iret hx hb hr hlocks f_now hw hP hS dX9_bend_9
abbrev cw_X9_fill (cI : ClassId) (h h_now : Nat) (g_book g_places g_power g_spite g_ways g_milky g_sights g_sight g_signs g_pad g_offAt g_offWho g_reason g_acts g_enough g_rows g_counts g_pours g_image g_isKept : Value) (f_now : Nat → Int32) : va_W := [(h, .inr (9, [g_book, .ref h_now, g_places, g_power, g_spite, g_ways, g_milky, g_sights, g_sight, g_signs, g_pad, g_offAt, g_offWho, g_reason, g_acts, g_enough, g_rows, g_counts, g_pours, g_image, g_isKept])), (h_now, .inl (cI, 12, .inl f_now))]
abbrev q_X9_fill (D : va_G) (cI : ClassId) (h h_now : Nat) (g_book g_places g_power g_spite g_ways g_milky g_sights g_sight g_signs g_pad g_offAt g_offWho g_reason g_acts g_enough g_rows g_counts g_pours g_image g_isKept : Value) (post : Int32 → (Nat → Int32) → Prop) (A : Nat → Prop) : Array Value → State → Outcome → State → Prop := va_Qi (S := (Nat → Int32)) (fun r u => post r u) (fun u t => va_P D vwCl (cw_X9_fill cI h h_now g_book g_places g_power g_spite g_ways g_milky g_sights g_sight g_signs g_pad g_offAt g_offWho g_reason g_acts g_enough g_rows g_counts g_pours g_image g_isKept u) t.heap) A
abbrev v_X9_fill : List Cond := .code yX9_fill cX9_fill 2 (some .int) :: zB
theorem hd_X9_fill : yX9_fill.cls = RX9 ∧ yX9_fill.cls ≠ "java/lang/invoke/MethodHandle" ∧ yX9_fill.cls ≠ "java/lang/invoke/VarHandle" ∧ (parseMethodDescriptor yX9_fill.desc).map (fun d => d.parameters.length) = some 1 := by decide +kernel
set_option maxHeartbeats 4000000 in
set_option maxRecDepth 100000 in
theorem c_X9_fill (l : Launch) (D : va_G) (cI cC cZ : ClassId) (h h_now : Nat) (g_book g_places g_power g_spite g_ways g_milky g_sights g_sight g_signs g_pad g_offAt g_offWho g_reason g_acts g_enough g_rows g_counts g_pours g_image g_isKept : Value) (f_now : Nat → Int32) (p1 : Int32) (sz : Nat) (post : Int32 → (Nat → Int32) → Prop) (hw : w_X9_fill post f_now p1) : Met l yX9_fill v_X9_fill ({ frames := 2, cells := 0, slots := 0, locals := 43 } : Room) (va_Pc [.ref h, .int p1] (zPre D (zT cI cC cZ) sz (cw_X9_fill cI h h_now g_book g_places g_power g_spite g_ways g_milky g_sights g_sight g_signs g_pad g_offAt g_offWho g_reason g_acts g_enough g_rows g_counts g_pours g_image g_isKept f_now))) (q_X9_fill D cI h h_now g_book g_places g_power g_spite g_ways g_milky g_sights g_sight g_signs g_pad g_offAt g_offWho g_reason g_acts g_enough g_rows g_counts g_pours g_image g_isKept post (va_A (cw_X9_fill cI h h_now g_book g_places g_power g_spite g_ways g_milky g_sights g_sight g_signs g_pad g_offAt g_offWho g_reason g_acts g_enough g_rows g_counts g_pours g_image g_isKept f_now) sz)) 0 0 (va_A (cw_X9_fill cI h h_now g_book g_places g_power g_spite g_ways g_milky g_sights g_sight g_signs g_pad g_offAt g_offWho g_reason g_acts g_enough g_rows g_counts g_pours g_image g_isKept f_now) sz) := by
  refine Met.ofW (cc := cX9_fill) (maxL := 2) (ret := (some .int)) (by decide) rfl ?_
  intro p e s m args below meth c s₁ B hml hv
  obtain ⟨rfl, hsz, hP, hK, hD0⟩ := hv
  subst hsz
  have hx := B.exec
  have hb := B.bytes
  have hr := B.returns
  have hz : ∀ w ∈ zB, w.before _ s = true := fun w h => atoms_spec (ws := v_X9_fill) B.pre w (List.mem_cons_of_mem _ h)
  have hown : s.vm.findClass RX9 = some m.cls := findClass_of_methodNamed B.named
  have hlocks := B.notSynchronized
  have hF : CallFix p m c cX9_fill 2 s (([.ref h, .int p1] : List Value).toArray) zB RX9 := ⟨hx, hb, hml, hown, hz⟩
  have hD := hD0.self (sz := s.heap.size)
  generalize hAe : va_A (cw_X9_fill cI h h_now g_book g_places g_power g_spite g_ways g_milky g_sights g_sight g_signs g_pad g_offAt g_offWho g_reason g_acts g_enough g_rows g_counts g_pours g_image g_isKept f_now) s.heap.size = A at hD ⊢
  have hA : ∀ q : Nat, s.heap.size ≤ q → A q := fun q h => by rw [← hAe]; exact Or.inr h
  have hS : va_S A s.heap s.heap [] := va_S.rf
  have hP : va_P D vwCl (cw_X9_fill cI h h_now g_book g_places g_power g_spite g_ways g_milky g_sights g_sight g_signs g_pad g_offAt g_offWho g_reason g_acts g_enough g_rows g_counts g_pours g_image g_isKept f_now) s.heap := hP
  have hl := lv_entry ([.ref h, .int p1]) (n := 2) (Nat.le_of_ble_eq_true rfl)
  rw [lg_entry_eq]
  generalize (lg_sl ([.ref h, .int p1]) ++ List.replicate (2 - (lg_sl ([.ref h, .int p1])).length) Slot.unset).toArray = ls at hl ⊢
  have hl : lv_has ls 2 [(0, .ref h), (1, .int p1)] := hl
  unfold w_X9_fill at hw
  refine lv_aload_n hx hb dX9_fill_0 rfl (lv_at hl 0 rfl) ?_
  refine lv_iload_n hx hb dX9_fill_1 rfl (lv_at hl 1 rfl) ?_
  refine z_ri (z_runV (As := [.int p1]) (rest := []) hF (c_X9_sits l D cI cC cZ h h_now g_book g_places g_power g_spite g_ways g_milky g_sights g_sight g_signs g_pad g_offAt g_offWho g_reason g_acts g_enough g_rows g_counts g_pours g_image g_isKept f_now p1 _ _ hw) (cwV 1 hz (z_gV z4_38 z4_40 zp_19 z1_10 z4_41) rfl rfl rfl hd_X9_sits ⟨Nat.le_of_ble_eq_true rfl, Nat.le_of_ble_eq_true rfl⟩) hK hP hD [0, 1] rfl rfl 0 9 rfl rfl rfl rfl hl.1 rfl (Nat.le_of_ble_eq_true rfl) dX9_fill_2 ⟨Nat.zero_le _, Nat.zero_le _⟩) hP hD hS hA [0, 1] rfl (fun _ => rfl) (fun _ => cw_X9_fill cI h h_now g_book g_places g_power g_spite g_ways g_milky g_sights g_sight g_signs g_pad g_offAt g_offWho g_reason g_acts g_enough g_rows g_counts g_pours g_image g_isKept f_now) (fun _ => rfl) (fun r2 u2 H locs hw hP hD hS => ?_)
  obtain ⟨hn2, hw⟩ := hw
  try dsimp only at hw
  refine lv_if_ne (tgt := 10) hx hb dX9_fill_5 (by decide) (fun c5 => ?_) (fun c5 => ?_)
  · have hw := hw.2 c5
    refine lv_aload_n hx hb dX9_fill_10 rfl (lv_at hl 0 rfl) ?_
    refine va_get (D := D) (ci := 9) (v := .ref h_now) (C := RX9) (T := TX9) (N := 21) hx hb hz hX_X9 hown hK.1 hP 0 rfl rfl 1 (by decide) (hz _ z3_157) (fun _ h9 => h9) rfl dX9_fill_11 ?_
    refine lv_iload_n hx hb dX9_fill_14 rfl (lv_at hl 1 rfl) ?_
    obtain ⟨hi15, hw⟩ := hw
    refine va_iald hx hb hK.1 hP 1 0 rfl rfl hi15 dX9_fill_15 ?_
    refine lv_bipush (v := (49 : Int32)) hx hb dX9_fill_16 (by decide) ?_
    refine lv_icmp_le (tgt := 23) hx hb dX9_fill_18 (by decide) (fun c18 => ?_) (fun c18 => ?_)
    · have hw := hw.1 c18
      refine lv_aload_n hx hb dX9_fill_23 rfl (lv_at hl 0 rfl) ?_
      refine va_get (D := D) (ci := 9) (v := .ref h_now) (C := RX9) (T := TX9) (N := 21) hx hb hz hX_X9 hown hK.1 hP 0 rfl rfl 1 (by decide) (hz _ z3_157) (fun _ h9 => h9) rfl dX9_fill_24 ?_
      refine lv_iload_n hx hb dX9_fill_27 rfl (lv_at hl 1 rfl) ?_
      refine lv_bipush (v := (50 : Int32)) hx hb dX9_fill_28 (by decide) ?_
      obtain ⟨hi30, hw⟩ := hw
      refine va_iast hx hb hK.1 hP hD hS 1 0 rfl rfl hi30 dX9_fill_30 (fun H locs hP hD hS => ?_)
      have hP : va_P D vwCl (cw_X9_fill cI h h_now g_book g_places g_power g_spite g_ways g_milky g_sights g_sight g_signs g_pad g_offAt g_offWho g_reason g_acts g_enough g_rows g_counts g_pours g_image g_isKept (upd f_now p1.toNatClampNeg (50 : Int32))) H := hP
      have hD : va_D A (cw_X9_fill cI h h_now g_book g_places g_power g_spite g_ways g_milky g_sights g_sight g_signs g_pad g_offAt g_offWho g_reason g_acts g_enough g_rows g_counts g_pours g_image g_isKept (upd f_now p1.toNatClampNeg (50 : Int32))) := hD
      refine lv_iconst (v := (0 : Int32)) hx hb dX9_fill_31 (by decide) ?_
      exact z_iret hx hb hr hlocks (upd f_now p1.toNatClampNeg (50 : Int32)) hw hP hS dX9_fill_32
    have hw := hw.2 c18
    refine lv_iconst (v := (4 : Int32)) hx hb dX9_fill_21 (by decide) ?_
    exact z_iret hx hb hr hlocks f_now hw hP hS dX9_fill_22
  have hw := hw.1 c5
  refine lv_iconst (v := (1 : Int32)) hx hb dX9_fill_8 (by decide) ?_
  exact z_iret hx hb hr hlocks f_now hw hP hS dX9_fill_9
abbrev cw_X9_thinkAgain (cI : ClassId) (h h_now : Nat) (g_book g_places g_power g_spite g_ways g_milky g_sights g_sight g_signs g_pad g_offAt g_offWho g_reason g_acts g_enough g_rows g_counts g_pours g_image g_isKept : Value) (f_now : Nat → Int32) : va_W := [(h, .inr (9, [g_book, .ref h_now, g_places, g_power, g_spite, g_ways, g_milky, g_sights, g_sight, g_signs, g_pad, g_offAt, g_offWho, g_reason, g_acts, g_enough, g_rows, g_counts, g_pours, g_image, g_isKept])), (h_now, .inl (cI, 12, .inl f_now))]
abbrev q_X9_thinkAgain (D : va_G) (cI : ClassId) (h h_now : Nat) (g_book g_places g_power g_spite g_ways g_milky g_sights g_sight g_signs g_pad g_offAt g_offWho g_reason g_acts g_enough g_rows g_counts g_pours g_image g_isKept : Value) (post : Int32 → (Nat → Int32) → Prop) (A : Nat → Prop) : Array Value → State → Outcome → State → Prop := va_Qi (S := (Nat → Int32)) (fun r u => post r u) (fun u t => va_P D vwCl (cw_X9_thinkAgain cI h h_now g_book g_places g_power g_spite g_ways g_milky g_sights g_sight g_signs g_pad g_offAt g_offWho g_reason g_acts g_enough g_rows g_counts g_pours g_image g_isKept u) t.heap) A
abbrev v_X9_thinkAgain : List Cond := .code yX9_thinkAgain cX9_thinkAgain 2 (some .int) :: zB
theorem hd_X9_thinkAgain : yX9_thinkAgain.cls = RX9 ∧ yX9_thinkAgain.cls ≠ "java/lang/invoke/MethodHandle" ∧ yX9_thinkAgain.cls ≠ "java/lang/invoke/VarHandle" ∧ (parseMethodDescriptor yX9_thinkAgain.desc).map (fun d => d.parameters.length) = some 1 := by decide +kernel
set_option maxHeartbeats 4000000 in
set_option maxRecDepth 100000 in
theorem c_X9_thinkAgain (l : Launch) (D : va_G) (cI cC cZ : ClassId) (h h_now : Nat) (g_book g_places g_power g_spite g_ways g_milky g_sights g_sight g_signs g_pad g_offAt g_offWho g_reason g_acts g_enough g_rows g_counts g_pours g_image g_isKept : Value) (f_now : Nat → Int32) (p1 : Int32) (sz : Nat) (post : Int32 → (Nat → Int32) → Prop) (hw : w_X9_thinkAgain post f_now p1) : Met l yX9_thinkAgain v_X9_thinkAgain ({ frames := 2, cells := 0, slots := 0, locals := 43 } : Room) (va_Pc [.ref h, .int p1] (zPre D (zT cI cC cZ) sz (cw_X9_thinkAgain cI h h_now g_book g_places g_power g_spite g_ways g_milky g_sights g_sight g_signs g_pad g_offAt g_offWho g_reason g_acts g_enough g_rows g_counts g_pours g_image g_isKept f_now))) (q_X9_thinkAgain D cI h h_now g_book g_places g_power g_spite g_ways g_milky g_sights g_sight g_signs g_pad g_offAt g_offWho g_reason g_acts g_enough g_rows g_counts g_pours g_image g_isKept post (va_A (cw_X9_thinkAgain cI h h_now g_book g_places g_power g_spite g_ways g_milky g_sights g_sight g_signs g_pad g_offAt g_offWho g_reason g_acts g_enough g_rows g_counts g_pours g_image g_isKept f_now) sz)) 0 0 (va_A (cw_X9_thinkAgain cI h h_now g_book g_places g_power g_spite g_ways g_milky g_sights g_sight g_signs g_pad g_offAt g_offWho g_reason g_acts g_enough g_rows g_counts g_pours g_image g_isKept f_now) sz) := by
  refine Met.ofW (cc := cX9_thinkAgain) (maxL := 2) (ret := (some .int)) (by decide) rfl ?_
  intro p e s m args below meth c s₁ B hml hv
  obtain ⟨rfl, hsz, hP, hK, hD0⟩ := hv
  subst hsz
  have hx := B.exec
  have hb := B.bytes
  have hr := B.returns
  have hz : ∀ w ∈ zB, w.before _ s = true := fun w h => atoms_spec (ws := v_X9_thinkAgain) B.pre w (List.mem_cons_of_mem _ h)
  have hown : s.vm.findClass RX9 = some m.cls := findClass_of_methodNamed B.named
  have hlocks := B.notSynchronized
  have hF : CallFix p m c cX9_thinkAgain 2 s (([.ref h, .int p1] : List Value).toArray) zB RX9 := ⟨hx, hb, hml, hown, hz⟩
  have hD := hD0.self (sz := s.heap.size)
  generalize hAe : va_A (cw_X9_thinkAgain cI h h_now g_book g_places g_power g_spite g_ways g_milky g_sights g_sight g_signs g_pad g_offAt g_offWho g_reason g_acts g_enough g_rows g_counts g_pours g_image g_isKept f_now) s.heap.size = A at hD ⊢
  have hA : ∀ q : Nat, s.heap.size ≤ q → A q := fun q h => by rw [← hAe]; exact Or.inr h
  have hS : va_S A s.heap s.heap [] := va_S.rf
  have hP : va_P D vwCl (cw_X9_thinkAgain cI h h_now g_book g_places g_power g_spite g_ways g_milky g_sights g_sight g_signs g_pad g_offAt g_offWho g_reason g_acts g_enough g_rows g_counts g_pours g_image g_isKept f_now) s.heap := hP
  have hl := lv_entry ([.ref h, .int p1]) (n := 2) (Nat.le_of_ble_eq_true rfl)
  rw [lg_entry_eq]
  generalize (lg_sl ([.ref h, .int p1]) ++ List.replicate (2 - (lg_sl ([.ref h, .int p1])).length) Slot.unset).toArray = ls at hl ⊢
  have hl : lv_has ls 2 [(0, .ref h), (1, .int p1)] := hl
  unfold w_X9_thinkAgain at hw
  refine lv_aload_n hx hb dX9_thinkAgain_0 rfl (lv_at hl 0 rfl) ?_
  refine lv_iload_n hx hb dX9_thinkAgain_1 rfl (lv_at hl 1 rfl) ?_
  refine z_ri (z_runV (As := [.int p1]) (rest := []) hF (c_X9_sits l D cI cC cZ h h_now g_book g_places g_power g_spite g_ways g_milky g_sights g_sight g_signs g_pad g_offAt g_offWho g_reason g_acts g_enough g_rows g_counts g_pours g_image g_isKept f_now p1 _ _ hw) (cwV 1 hz (z_gV z4_38 z4_40 zp_19 z1_10 z4_41) rfl rfl rfl hd_X9_sits ⟨Nat.le_of_ble_eq_true rfl, Nat.le_of_ble_eq_true rfl⟩) hK hP hD [0, 1] rfl rfl 0 9 rfl rfl rfl rfl hl.1 rfl (Nat.le_of_ble_eq_true rfl) dX9_thinkAgain_2 ⟨Nat.zero_le _, Nat.zero_le _⟩) hP hD hS hA [0, 1] rfl (fun _ => rfl) (fun _ => cw_X9_thinkAgain cI h h_now g_book g_places g_power g_spite g_ways g_milky g_sights g_sight g_signs g_pad g_offAt g_offWho g_reason g_acts g_enough g_rows g_counts g_pours g_image g_isKept f_now) (fun _ => rfl) (fun r2 u2 H locs hw hP hD hS => ?_)
  obtain ⟨hn2, hw⟩ := hw
  try dsimp only at hw
  refine lv_if_ne (tgt := 10) hx hb dX9_thinkAgain_5 (by decide) (fun c5 => ?_) (fun c5 => ?_)
  · have hw := hw.2 c5
    refine lv_aload_n hx hb dX9_thinkAgain_10 rfl (lv_at hl 0 rfl) ?_
    refine va_get (D := D) (ci := 9) (v := .ref h_now) (C := RX9) (T := TX9) (N := 21) hx hb hz hX_X9 hown hK.1 hP 0 rfl rfl 1 (by decide) (hz _ z3_157) (fun _ h9 => h9) rfl dX9_thinkAgain_11 ?_
    refine lv_bipush (v := (9 : Int32)) hx hb dX9_thinkAgain_14 (by decide) ?_
    refine lv_dup2_11 hx hb dX9_thinkAgain_16 rfl rfl ?_
    refine va_iald hx hb hK.1 hP 1 0 rfl rfl (z_in rfl) dX9_thinkAgain_17 ?_
    refine lv_iconst (v := (1 : Int32)) hx hb dX9_thinkAgain_18 (by decide) ?_
    refine lv_iload_n hx hb dX9_thinkAgain_19 rfl (lv_at hl 1 rfl) ?_
    refine lv_ishl hx hb dX9_thinkAgain_20 ?_
    refine lv_ixor hx hb dX9_thinkAgain_21 ?_
    refine va_iast hx hb hK.1 hP hD hS 1 0 rfl rfl (z_in rfl) dX9_thinkAgain_22 (fun H locs hP hD hS => ?_)
    have hP : va_P D vwCl (cw_X9_thinkAgain cI h h_now g_book g_places g_power g_spite g_ways g_milky g_sights g_sight g_signs g_pad g_offAt g_offWho g_reason g_acts g_enough g_rows g_counts g_pours g_image g_isKept (upd f_now (9 : Int32).toNatClampNeg ((f_now (9 : Int32).toNatClampNeg) ^^^ ((1 : Int32) <<< (p1 &&& 31))))) H := hP
    have hD : va_D A (cw_X9_thinkAgain cI h h_now g_book g_places g_power g_spite g_ways g_milky g_sights g_sight g_signs g_pad g_offAt g_offWho g_reason g_acts g_enough g_rows g_counts g_pours g_image g_isKept (upd f_now (9 : Int32).toNatClampNeg ((f_now (9 : Int32).toNatClampNeg) ^^^ ((1 : Int32) <<< (p1 &&& 31))))) := hD
    refine lv_iconst (v := (0 : Int32)) hx hb dX9_thinkAgain_23 (by decide) ?_
    exact z_iret hx hb hr hlocks (upd f_now (9 : Int32).toNatClampNeg ((f_now (9 : Int32).toNatClampNeg) ^^^ ((1 : Int32) <<< (p1 &&& 31)))) hw hP hS dX9_thinkAgain_24
  have hw := hw.1 c5
  refine lv_iconst (v := (1 : Int32)) hx hb dX9_thinkAgain_8 (by decide) ?_
  exact z_iret hx hb hr hlocks f_now hw hP hS dX9_thinkAgain_9
abbrev cw_X9_letGo (cI : ClassId) (h h_now : Nat) (g_book g_places g_power g_spite g_ways g_milky g_sights g_sight g_signs g_pad g_offAt g_offWho g_reason g_acts g_enough g_rows g_counts g_pours g_image g_isKept : Value) (f_now : Nat → Int32) : va_W := [(h, .inr (9, [g_book, .ref h_now, g_places, g_power, g_spite, g_ways, g_milky, g_sights, g_sight, g_signs, g_pad, g_offAt, g_offWho, g_reason, g_acts, g_enough, g_rows, g_counts, g_pours, g_image, g_isKept])), (h_now, .inl (cI, 12, .inl f_now))]
abbrev q_X9_letGo (D : va_G) (cI : ClassId) (h h_now : Nat) (g_book g_places g_power g_spite g_ways g_milky g_sights g_sight g_signs g_pad g_offAt g_offWho g_reason g_acts g_enough g_rows g_counts g_pours g_image g_isKept : Value) (post : Int32 → (Nat → Int32) → Prop) (A : Nat → Prop) : Array Value → State → Outcome → State → Prop := va_Qi (S := (Nat → Int32)) (fun r u => post r u) (fun u t => va_P D vwCl (cw_X9_letGo cI h h_now g_book g_places g_power g_spite g_ways g_milky g_sights g_sight g_signs g_pad g_offAt g_offWho g_reason g_acts g_enough g_rows g_counts g_pours g_image g_isKept u) t.heap) A
abbrev v_X9_letGo : List Cond := .code yX9_letGo cX9_letGo 2 (some .int) :: zB
theorem hd_X9_letGo : yX9_letGo.cls = RX9 ∧ yX9_letGo.cls ≠ "java/lang/invoke/MethodHandle" ∧ yX9_letGo.cls ≠ "java/lang/invoke/VarHandle" ∧ (parseMethodDescriptor yX9_letGo.desc).map (fun d => d.parameters.length) = some 1 := by decide +kernel
set_option maxHeartbeats 4000000 in
set_option maxRecDepth 100000 in
theorem c_X9_letGo (l : Launch) (D : va_G) (cI cC cZ : ClassId) (h h_now : Nat) (g_book g_places g_power g_spite g_ways g_milky g_sights g_sight g_signs g_pad g_offAt g_offWho g_reason g_acts g_enough g_rows g_counts g_pours g_image g_isKept : Value) (f_now : Nat → Int32) (p1 : Int32) (sz : Nat) (post : Int32 → (Nat → Int32) → Prop) (hw : w_X9_letGo post f_now p1) : Met l yX9_letGo v_X9_letGo ({ frames := 2, cells := 0, slots := 0, locals := 43 } : Room) (va_Pc [.ref h, .int p1] (zPre D (zT cI cC cZ) sz (cw_X9_letGo cI h h_now g_book g_places g_power g_spite g_ways g_milky g_sights g_sight g_signs g_pad g_offAt g_offWho g_reason g_acts g_enough g_rows g_counts g_pours g_image g_isKept f_now))) (q_X9_letGo D cI h h_now g_book g_places g_power g_spite g_ways g_milky g_sights g_sight g_signs g_pad g_offAt g_offWho g_reason g_acts g_enough g_rows g_counts g_pours g_image g_isKept post (va_A (cw_X9_letGo cI h h_now g_book g_places g_power g_spite g_ways g_milky g_sights g_sight g_signs g_pad g_offAt g_offWho g_reason g_acts g_enough g_rows g_counts g_pours g_image g_isKept f_now) sz)) 0 0 (va_A (cw_X9_letGo cI h h_now g_book g_places g_power g_spite g_ways g_milky g_sights g_sight g_signs g_pad g_offAt g_offWho g_reason g_acts g_enough g_rows g_counts g_pours g_image g_isKept f_now) sz) := by
  refine Met.ofW (cc := cX9_letGo) (maxL := 2) (ret := (some .int)) (by decide) rfl ?_
  intro p e s m args below meth c s₁ B hml hv
  obtain ⟨rfl, hsz, hP, hK, hD0⟩ := hv
  subst hsz
  have hx := B.exec
  have hb := B.bytes
  have hr := B.returns
  have hz : ∀ w ∈ zB, w.before _ s = true := fun w h => atoms_spec (ws := v_X9_letGo) B.pre w (List.mem_cons_of_mem _ h)
  have hown : s.vm.findClass RX9 = some m.cls := findClass_of_methodNamed B.named
  have hlocks := B.notSynchronized
  have hF : CallFix p m c cX9_letGo 2 s (([.ref h, .int p1] : List Value).toArray) zB RX9 := ⟨hx, hb, hml, hown, hz⟩
  have hD := hD0.self (sz := s.heap.size)
  generalize hAe : va_A (cw_X9_letGo cI h h_now g_book g_places g_power g_spite g_ways g_milky g_sights g_sight g_signs g_pad g_offAt g_offWho g_reason g_acts g_enough g_rows g_counts g_pours g_image g_isKept f_now) s.heap.size = A at hD ⊢
  have hA : ∀ q : Nat, s.heap.size ≤ q → A q := fun q h => by rw [← hAe]; exact Or.inr h
  have hS : va_S A s.heap s.heap [] := va_S.rf
  have hP : va_P D vwCl (cw_X9_letGo cI h h_now g_book g_places g_power g_spite g_ways g_milky g_sights g_sight g_signs g_pad g_offAt g_offWho g_reason g_acts g_enough g_rows g_counts g_pours g_image g_isKept f_now) s.heap := hP
  have hl := lv_entry ([.ref h, .int p1]) (n := 2) (Nat.le_of_ble_eq_true rfl)
  rw [lg_entry_eq]
  generalize (lg_sl ([.ref h, .int p1]) ++ List.replicate (2 - (lg_sl ([.ref h, .int p1])).length) Slot.unset).toArray = ls at hl ⊢
  have hl : lv_has ls 2 [(0, .ref h), (1, .int p1)] := hl
  unfold w_X9_letGo at hw
  refine lv_aload_n hx hb dX9_letGo_0 rfl (lv_at hl 0 rfl) ?_
  refine lv_iload_n hx hb dX9_letGo_1 rfl (lv_at hl 1 rfl) ?_
  refine z_ri (z_runV (As := [.int p1]) (rest := []) hF (c_X9_sits l D cI cC cZ h h_now g_book g_places g_power g_spite g_ways g_milky g_sights g_sight g_signs g_pad g_offAt g_offWho g_reason g_acts g_enough g_rows g_counts g_pours g_image g_isKept f_now p1 _ _ hw) (cwV 1 hz (z_gV z4_38 z4_40 zp_19 z1_10 z4_41) rfl rfl rfl hd_X9_sits ⟨Nat.le_of_ble_eq_true rfl, Nat.le_of_ble_eq_true rfl⟩) hK hP hD [0, 1] rfl rfl 0 9 rfl rfl rfl rfl hl.1 rfl (Nat.le_of_ble_eq_true rfl) dX9_letGo_2 ⟨Nat.zero_le _, Nat.zero_le _⟩) hP hD hS hA [0, 1] rfl (fun _ => rfl) (fun _ => cw_X9_letGo cI h h_now g_book g_places g_power g_spite g_ways g_milky g_sights g_sight g_signs g_pad g_offAt g_offWho g_reason g_acts g_enough g_rows g_counts g_pours g_image g_isKept f_now) (fun _ => rfl) (fun r2 u2 H locs hw hP hD hS => ?_)
  obtain ⟨hn2, hw⟩ := hw
  try dsimp only at hw
  refine lv_if_ne (tgt := 10) hx hb dX9_letGo_5 (by decide) (fun c5 => ?_) (fun c5 => ?_)
  · have hw := hw.2 c5
    refine lv_aload_n hx hb dX9_letGo_10 rfl (lv_at hl 0 rfl) ?_
    refine va_get (D := D) (ci := 9) (v := .ref h_now) (C := RX9) (T := TX9) (N := 21) hx hb hz hX_X9 hown hK.1 hP 0 rfl rfl 1 (by decide) (hz _ z3_157) (fun _ h9 => h9) rfl dX9_letGo_11 ?_
    refine lv_bipush (v := (8 : Int32)) hx hb dX9_letGo_14 (by decide) ?_
    refine lv_dup2_11 hx hb dX9_letGo_16 rfl rfl ?_
    refine va_iald hx hb hK.1 hP 1 0 rfl rfl (z_in rfl) dX9_letGo_17 ?_
    refine lv_iconst (v := (1 : Int32)) hx hb dX9_letGo_18 (by decide) ?_
    refine lv_iload_n hx hb dX9_letGo_19 rfl (lv_at hl 1 rfl) ?_
    refine lv_ishl hx hb dX9_letGo_20 ?_
    refine lv_iconst (v := (-1 : Int32)) hx hb dX9_letGo_21 (by decide) ?_
    refine lv_ixor hx hb dX9_letGo_22 ?_
    refine lv_iand hx hb dX9_letGo_23 ?_
    refine va_iast hx hb hK.1 hP hD hS 1 0 rfl rfl (z_in rfl) dX9_letGo_24 (fun H locs hP hD hS => ?_)
    have hP : va_P D vwCl (cw_X9_letGo cI h h_now g_book g_places g_power g_spite g_ways g_milky g_sights g_sight g_signs g_pad g_offAt g_offWho g_reason g_acts g_enough g_rows g_counts g_pours g_image g_isKept (upd f_now (8 : Int32).toNatClampNeg ((f_now (8 : Int32).toNatClampNeg) &&& (((1 : Int32) <<< (p1 &&& 31)) ^^^ (-1 : Int32))))) H := hP
    have hD : va_D A (cw_X9_letGo cI h h_now g_book g_places g_power g_spite g_ways g_milky g_sights g_sight g_signs g_pad g_offAt g_offWho g_reason g_acts g_enough g_rows g_counts g_pours g_image g_isKept (upd f_now (8 : Int32).toNatClampNeg ((f_now (8 : Int32).toNatClampNeg) &&& (((1 : Int32) <<< (p1 &&& 31)) ^^^ (-1 : Int32))))) := hD
    refine lv_iconst (v := (0 : Int32)) hx hb dX9_letGo_25 (by decide) ?_
    exact z_iret hx hb hr hlocks (upd f_now (8 : Int32).toNatClampNeg ((f_now (8 : Int32).toNatClampNeg) &&& (((1 : Int32) <<< (p1 &&& 31)) ^^^ (-1 : Int32)))) hw hP hS dX9_letGo_26
  have hw := hw.1 c5
  refine lv_iconst (v := (1 : Int32)) hx hb dX9_letGo_8 (by decide) ?_
  exact z_iret hx hb hr hlocks f_now hw hP hS dX9_letGo_9
