abbrev cw_X5_allowGuess (cI : ClassId) (h h_saucers h_losses : Nat) (f_saucers : Nat → Int32) (f_losses : Nat → Int32) (f_count : Int32) : va_W := [(h, .inr (5, [.ref h_saucers, .ref h_losses, .int f_count])), (h_saucers, .inl (cI, 8, .inl f_saucers)), (h_losses, .inl (cI, 8, .inl f_losses))]
abbrev q_X5_allowGuess (D : va_G) (cI : ClassId) (h h_saucers h_losses : Nat) (post : Int32 → Prop) (f_saucers : Nat → Int32) (f_losses : Nat → Int32) (f_count : Int32) (A : Nat → Prop) : Array Value → State → Outcome → State → Prop := va_Qi (S := Unit) (fun r _ => narrow .boolean (.int r) = .int r ∧ post r ) (fun _ t => va_P D vwCl (cw_X5_allowGuess cI h h_saucers h_losses f_saucers f_losses f_count) t.heap) A
abbrev v_X5_allowGuess : List Cond := .code yX5_allowGuess cX5_allowGuess 3 (some .boolean) :: zB
theorem hd_X5_allowGuess : yX5_allowGuess.cls = RX5 ∧ yX5_allowGuess.cls ≠ "java/lang/invoke/MethodHandle" ∧ yX5_allowGuess.cls ≠ "java/lang/invoke/VarHandle" ∧ (parseMethodDescriptor yX5_allowGuess.desc).map (fun d => d.parameters.length) = some 1 := by decide +kernel
set_option maxHeartbeats 4000000 in
set_option maxRecDepth 100000 in
theorem c_X5_allowGuess (l : Launch) (D : va_G) (cI cC cZ : ClassId) (h h_saucers h_losses : Nat) (f_saucers : Nat → Int32) (f_losses : Nat → Int32) (f_count : Int32) (p1 : Int32) (sz : Nat) (post : Int32 → Prop) (hw : w_X5_allowGuess post f_saucers f_losses f_count p1) : Met l yX5_allowGuess v_X5_allowGuess ({ frames := 2, cells := 0, slots := 0, locals := 44 } : Room) (va_Pc [.ref h, .int p1] (zPre D (zT cI cC cZ) sz (cw_X5_allowGuess cI h h_saucers h_losses f_saucers f_losses f_count))) (q_X5_allowGuess D cI h h_saucers h_losses post f_saucers f_losses f_count (va_A (cw_X5_allowGuess cI h h_saucers h_losses f_saucers f_losses f_count) sz)) 0 0 (va_A (cw_X5_allowGuess cI h h_saucers h_losses f_saucers f_losses f_count) sz) := by
  refine Met.ofW (cc := cX5_allowGuess) (maxL := 3) (ret := (some .boolean)) (by decide) rfl ?_
  intro p e s m args below meth c s₁ B hml hv
  obtain ⟨rfl, hsz, hP, hK, hD0⟩ := hv
  subst hsz
  have hx := B.exec
  have hb := B.bytes
  have hr := B.returns
  have hz : ∀ w ∈ zB, w.before _ s = true := fun w h => atoms_spec (ws := v_X5_allowGuess) B.pre w (List.mem_cons_of_mem _ h)
  have hown : s.vm.findClass RX5 = some m.cls := findClass_of_methodNamed B.named
  have hlocks := B.notSynchronized
  have hF : CallFix p m c cX5_allowGuess 3 s (([.ref h, .int p1] : List Value).toArray) zB RX5 := ⟨hx, hb, hml, hown, hz⟩
  have hD := hD0.self (sz := s.heap.size)
  generalize hAe : va_A (cw_X5_allowGuess cI h h_saucers h_losses f_saucers f_losses f_count) s.heap.size = A at hD ⊢
  have hA : ∀ q : Nat, s.heap.size ≤ q → A q := fun q h => by rw [← hAe]; exact Or.inr h
  have hS : va_S A s.heap s.heap [] := va_S.rf
  have hP : va_P D vwCl (cw_X5_allowGuess cI h h_saucers h_losses f_saucers f_losses f_count) s.heap := hP
  have hl := lv_entry ([.ref h, .int p1]) (n := 3) (Nat.le_of_ble_eq_true rfl)
  rw [lg_entry_eq]
  generalize (lg_sl ([.ref h, .int p1]) ++ List.replicate (3 - (lg_sl ([.ref h, .int p1])).length) Slot.unset).toArray = ls at hl ⊢
  have hl : lv_has ls 3 [(0, .ref h), (1, .int p1)] := hl
  have L2 : ∀ (n2 : Nat) (x2 : Int32) (H : Heap) (locs : List Loc) (ls : Array Slot) (hw : w_X5_allowGuess_B2 post f_saucers f_losses f_count p1 n2 x2) (hP : va_P D vwCl (cw_X5_allowGuess cI h h_saucers h_losses f_saucers f_losses f_count) H) (hD : va_D A (cw_X5_allowGuess cI h h_saucers h_losses f_saucers f_losses f_count)) (hS : va_S A s.heap H locs) (hl : lv_has ls 3 [(0, .ref h), (1, .int p1), (2, .int x2)]), W p l e (headSpec v_X5_allowGuess ({ frames := 2, cells := 0, slots := 0, locals := 44 } : Room)).room s m (([.ref h, .int p1] : List Value).toArray) below meth c H locs 0 0 (MQ below (q_X5_allowGuess D cI h h_saucers h_losses post f_saucers f_losses f_count A) (([.ref h, .int p1] : List Value).toArray) s 0 0 A) (F0 m 2 ls []) := by
    intro n2
    induction n2 with
    | zero => intro x2 H locs ls hw; exact False.elim hw
    | succ n2 ih2 =>
      intro x2 H locs ls hw hP hD hS hl
      unfold w_X5_allowGuess_B2 at hw
      refine lv_iload_n hx hb dX5_allowGuess_2 rfl (lv_at hl 2 rfl) ?_
      refine lv_aload_n hx hb dX5_allowGuess_3 rfl (lv_at hl 0 rfl) ?_
      refine va_get (D := D) (ci := 5) (v := .int f_count) (C := RX5) (T := TX5) (N := 3) hx hb hz hX_X5 hown hK.1 hP 0 rfl rfl 2 (by decide) (hz _ z1_88) (fun _ h9 => h9) rfl dX5_allowGuess_4 ?_
      refine lv_icmp_ge (tgt := 43) hx hb dX5_allowGuess_7 (by decide) (fun c7 => ?_) (fun c7 => ?_)
      · have hw := hw.1 c7
        refine lv_iconst (v := (1 : Int32)) hx hb dX5_allowGuess_43 (by decide) ?_
        exact z_zret hx hb hr hlocks rfl () hw hP hS dX5_allowGuess_44
      have hw := hw.2 c7
      refine lv_iload_n hx hb dX5_allowGuess_10 rfl (lv_at hl 2 rfl) ?_
      refine lv_bipush (v := (8 : Int32)) hx hb dX5_allowGuess_11 (by decide) ?_
      refine lv_icmp_ge (tgt := 43) hx hb dX5_allowGuess_13 (by decide) (fun c13 => ?_) (fun c13 => ?_)
      · have hw := hw.1 c13
        refine lv_iconst (v := (1 : Int32)) hx hb dX5_allowGuess_43 (by decide) ?_
        exact z_zret hx hb hr hlocks rfl () hw hP hS dX5_allowGuess_44
      have hw := hw.2 c13
      refine lv_iload_n hx hb dX5_allowGuess_16 rfl (lv_at hl 1 rfl) ?_
      refine lv_aload_n hx hb dX5_allowGuess_17 rfl (lv_at hl 0 rfl) ?_
      refine va_get (D := D) (ci := 5) (v := .ref h_saucers) (C := RX5) (T := TX5) (N := 3) hx hb hz hX_X5 hown hK.1 hP 0 rfl rfl 0 (by decide) (hz _ z1_86) (fun _ h9 => h9) rfl dX5_allowGuess_18 ?_
      refine lv_iload_n hx hb dX5_allowGuess_21 rfl (lv_at hl 2 rfl) ?_
      obtain ⟨hi22, hw⟩ := hw
      refine va_iald hx hb hK.1 hP 1 0 rfl rfl hi22 dX5_allowGuess_22 ?_
      refine z_ri (z_runS (As := [.int p1, .int (f_saucers x2.toNatClampNeg)]) (rest := []) hF (c_X5_lossIf l D cI cC cZ p1 (f_saucers x2.toNatClampNeg) _ _ hw) (va_cwS 2 hz (z_gS z3_45 z3_46 z1_5 z3_47) rfl rfl rfl hd_X5_lossIf ⟨Nat.le_of_ble_eq_true rfl, Nat.le_of_ble_eq_true rfl⟩) hK hP hD [] rfl rfl rfl hl.1 rfl (Nat.le_of_ble_eq_true rfl) dX5_allowGuess_23 ⟨Nat.zero_le _, Nat.zero_le _⟩) hP hD hS hA [] rfl (fun _ => rfl) (fun _ => cw_X5_allowGuess cI h h_saucers h_losses f_saucers f_losses f_count) (fun _ => rfl) (fun r23 u23 H locs hw hP hD hS => ?_)
      try dsimp only at hw
      refine lv_aload_n hx hb dX5_allowGuess_26 rfl (lv_at hl 0 rfl) ?_
      refine va_get (D := D) (ci := 5) (v := .ref h_losses) (C := RX5) (T := TX5) (N := 3) hx hb hz hX_X5 hown hK.1 hP 0 rfl rfl 1 (by decide) (hz _ z1_87) (fun _ h9 => h9) rfl dX5_allowGuess_27 ?_
      refine lv_iload_n hx hb dX5_allowGuess_30 rfl (lv_at hl 2 rfl) ?_
      obtain ⟨hi31, hw⟩ := hw
      refine va_iald hx hb hK.1 hP 2 0 rfl rfl hi31 dX5_allowGuess_31 ?_
      refine lv_icmp_eq (tgt := 37) hx hb dX5_allowGuess_32 (by decide) (fun c32 => ?_) (fun c32 => ?_)
      · have hw := hw.1 c32
        refine lv_iinc (k := 2) (v := (x2 + 1)) (lv' := [(2, .int (x2 + 1)), (0, .ref h), (1, .int p1)]) hx hb dX5_allowGuess_37 hl rfl rfl (by decide) rfl (fun ls hl => ?_)
        refine lv_goto (tgt := 2) hx hb dX5_allowGuess_40 (by decide) ?_
        exact ih2 (x2 + 1) _ _ _ hw hP hD hS (lv_sub hl [1, 2, 0] rfl)
      have hw := hw.2 c32
      refine lv_iconst (v := (0 : Int32)) hx hb dX5_allowGuess_35 (by decide) ?_
      exact z_zret hx hb hr hlocks rfl () hw hP hS dX5_allowGuess_36
  unfold w_X5_allowGuess at hw
  refine lv_iconst (v := (0 : Int32)) hx hb dX5_allowGuess_0 (by decide) ?_
  refine lv_istore_n (lv' := [(2, .int (0 : Int32)), (0, .ref h), (1, .int p1)]) hx hb dX5_allowGuess_1 rfl hl (by decide) rfl (fun ls hl => ?_)
  obtain ⟨n2, hw⟩ := hw
  exact L2 n2 (0 : Int32) _ _ _ hw hP hD hS (lv_sub hl [1, 2, 0] rfl)
abbrev cw_X2_gather (cI : ClassId) (h h_fitting ha1 ha1_saucers ha1_losses : Nat) (g_tally : Value) (f_fitting : Nat → Int32) (f_count : Int32) (f_a1_saucers : Nat → Int32) (f_a1_losses : Nat → Int32) (f_a1_count : Int32) : va_W := [(h, .inr (2, [.ref h_fitting, g_tally, .int f_count])), (h_fitting, .inl (cI, 100, .inl f_fitting)), (ha1, .inr (5, [.ref ha1_saucers, .ref ha1_losses, .int f_a1_count])), (ha1_saucers, .inl (cI, 8, .inl f_a1_saucers)), (ha1_losses, .inl (cI, 8, .inl f_a1_losses))]
abbrev q_X2_gather (D : va_G) (cI : ClassId) (h h_fitting ha1 ha1_saucers ha1_losses : Nat) (g_tally : Value) (post : (Nat → Int32) → Int32 → Prop) (f_a1_saucers : Nat → Int32) (f_a1_losses : Nat → Int32) (f_a1_count : Int32) (A : Nat → Prop) : Array Value → State → Outcome → State → Prop := va_Qv (S := (Nat → Int32) × Int32) (fun u => post u.1 u.2) (fun u t => va_P D vwCl (cw_X2_gather cI h h_fitting ha1 ha1_saucers ha1_losses g_tally u.1 u.2 f_a1_saucers f_a1_losses f_a1_count) t.heap) A
abbrev v_X2_gather : List Cond := .code yX2_gather cX2_gather 3 none :: zB
theorem hd_X2_gather : yX2_gather.cls = RX2 ∧ yX2_gather.cls ≠ "java/lang/invoke/MethodHandle" ∧ yX2_gather.cls ≠ "java/lang/invoke/VarHandle" ∧ (parseMethodDescriptor yX2_gather.desc).map (fun d => d.parameters.length) = some 1 := by decide +kernel
set_option maxHeartbeats 4000000 in
set_option maxRecDepth 100000 in
theorem c_X2_gather (l : Launch) (D : va_G) (cI cC cZ : ClassId) (h h_fitting ha1 ha1_saucers ha1_losses : Nat) (g_tally : Value) (f_fitting : Nat → Int32) (f_count : Int32) (f_a1_saucers : Nat → Int32) (f_a1_losses : Nat → Int32) (f_a1_count : Int32) (sz : Nat) (post : (Nat → Int32) → Int32 → Prop) (hw : w_X2_gather post f_fitting f_count f_a1_saucers f_a1_losses f_a1_count) : Met l yX2_gather v_X2_gather ({ frames := 3, cells := 0, slots := 0, locals := 66 } : Room) (va_Pc [.ref h, .ref ha1] (zPre D (zT cI cC cZ) sz (cw_X2_gather cI h h_fitting ha1 ha1_saucers ha1_losses g_tally f_fitting f_count f_a1_saucers f_a1_losses f_a1_count))) (q_X2_gather D cI h h_fitting ha1 ha1_saucers ha1_losses g_tally post f_a1_saucers f_a1_losses f_a1_count (va_A (cw_X2_gather cI h h_fitting ha1 ha1_saucers ha1_losses g_tally f_fitting f_count f_a1_saucers f_a1_losses f_a1_count) sz)) 0 0 (va_A (cw_X2_gather cI h h_fitting ha1 ha1_saucers ha1_losses g_tally f_fitting f_count f_a1_saucers f_a1_losses f_a1_count) sz) := by
  refine Met.ofW (cc := cX2_gather) (maxL := 3) (ret := none) (by decide) rfl ?_
  intro p e s m args below meth c s₁ B hml hv
  obtain ⟨rfl, hsz, hP, hK, hD0⟩ := hv
  subst hsz
  have hx := B.exec
  have hb := B.bytes
  have hr := B.returns
  have hz : ∀ w ∈ zB, w.before _ s = true := fun w h => atoms_spec (ws := v_X2_gather) B.pre w (List.mem_cons_of_mem _ h)
  have hown : s.vm.findClass RX2 = some m.cls := findClass_of_methodNamed B.named
  have hlocks := B.notSynchronized
  have hF : CallFix p m c cX2_gather 3 s (([.ref h, .ref ha1] : List Value).toArray) zB RX2 := ⟨hx, hb, hml, hown, hz⟩
  have hD := hD0.self (sz := s.heap.size)
  generalize hAe : va_A (cw_X2_gather cI h h_fitting ha1 ha1_saucers ha1_losses g_tally f_fitting f_count f_a1_saucers f_a1_losses f_a1_count) s.heap.size = A at hD ⊢
  have hA : ∀ q : Nat, s.heap.size ≤ q → A q := fun q h => by rw [← hAe]; exact Or.inr h
  have hS : va_S A s.heap s.heap [] := va_S.rf
  have hP : va_P D vwCl (cw_X2_gather cI h h_fitting ha1 ha1_saucers ha1_losses g_tally f_fitting f_count f_a1_saucers f_a1_losses f_a1_count) s.heap := hP
  have hl := lv_entry ([.ref h, .ref ha1]) (n := 3) (Nat.le_of_ble_eq_true rfl)
  rw [lg_entry_eq]
  generalize (lg_sl ([.ref h, .ref ha1]) ++ List.replicate (3 - (lg_sl ([.ref h, .ref ha1])).length) Slot.unset).toArray = ls at hl ⊢
  have hl : lv_has ls 3 [(0, .ref h), (1, .ref ha1)] := hl
  have L7 : ∀ (n7 : Nat) (f_fitting : Nat → Int32) (f_count : Int32) (x2 : Int32) (H : Heap) (locs : List Loc) (ls : Array Slot) (hw : w_X2_gather_B7 post f_a1_saucers f_a1_losses f_a1_count n7 f_fitting f_count x2) (hP : va_P D vwCl (cw_X2_gather cI h h_fitting ha1 ha1_saucers ha1_losses g_tally f_fitting f_count f_a1_saucers f_a1_losses f_a1_count) H) (hD : va_D A (cw_X2_gather cI h h_fitting ha1 ha1_saucers ha1_losses g_tally f_fitting f_count f_a1_saucers f_a1_losses f_a1_count)) (hS : va_S A s.heap H locs) (hl : lv_has ls 3 [(0, .ref h), (1, .ref ha1), (2, .int x2)]), W p l e (headSpec v_X2_gather ({ frames := 3, cells := 0, slots := 0, locals := 66 } : Room)).room s m (([.ref h, .ref ha1] : List Value).toArray) below meth c H locs 0 0 (MQ below (q_X2_gather D cI h h_fitting ha1 ha1_saucers ha1_losses g_tally post f_a1_saucers f_a1_losses f_a1_count A) (([.ref h, .ref ha1] : List Value).toArray) s 0 0 A) (F0 m 7 ls []) := by
    intro n7
    induction n7 with
    | zero => intro f_fitting f_count x2 H locs ls hw; exact False.elim hw
    | succ n7 ih7 =>
      intro f_fitting f_count x2 H locs ls hw hP hD hS hl
      unfold w_X2_gather_B7 at hw
      refine lv_iload_n hx hb dX2_gather_7 rfl (lv_at hl 2 rfl) ?_
      refine lv_bipush (v := (100 : Int32)) hx hb dX2_gather_8 (by decide) ?_
      refine lv_icmp_ge (tgt := 56) hx hb dX2_gather_10 (by decide) (fun c10 => ?_) (fun c10 => ?_)
      · have hw := hw.1 c10
        exact z_vret hx hb hr hlocks (f_fitting, f_count) hw hP hS dX2_gather_56
      have hw := hw.2 c10
      refine lv_aload_n hx hb dX2_gather_13 rfl (lv_at hl 0 rfl) ?_
      refine va_get (D := D) (ci := 2) (v := .int f_count) (C := RX2) (T := TX2) (N := 3) hx hb hz hX_X2 hown hK.1 hP 0 rfl rfl 2 (by decide) (hz _ z1_174) (fun _ h9 => h9) rfl dX2_gather_14 ?_
      refine lv_bipush (v := (100 : Int32)) hx hb dX2_gather_17 (by decide) ?_
      refine lv_icmp_ge (tgt := 50) hx hb dX2_gather_19 (by decide) (fun c19 => ?_) (fun c19 => ?_)
      · have hw := hw.1 c19
        refine lv_iinc (k := 2) (v := (x2 + 1)) (lv' := [(2, .int (x2 + 1)), (0, .ref h), (1, .ref ha1)]) hx hb dX2_gather_50 hl rfl rfl (by decide) rfl (fun ls hl => ?_)
        refine lv_goto (tgt := 7) hx hb dX2_gather_53 (by decide) ?_
        exact ih7 f_fitting f_count (x2 + 1) _ _ _ hw hP hD hS (lv_sub hl [1, 2, 0] rfl)
      have hw := hw.2 c19
      refine lv_aload_n hx hb dX2_gather_22 rfl (lv_at hl 1 rfl) ?_
      refine lv_iload_n hx hb dX2_gather_23 rfl (lv_at hl 2 rfl) ?_
      refine z_ri (z_runV (As := [.int x2]) (rest := []) hF (c_X5_allowGuess l D cI cC cZ ha1 ha1_saucers ha1_losses f_a1_saucers f_a1_losses f_a1_count x2 _ _ hw) (cwV 1 hz (z_gV z3_41 z3_42 z3_43 z1_5 z3_44) rfl rfl rfl hd_X5_allowGuess ⟨Nat.le_of_ble_eq_true rfl, Nat.le_of_ble_eq_true rfl⟩) hK hP hD [2, 3, 4] rfl rfl 2 5 rfl rfl rfl rfl hl.1 rfl (Nat.le_of_ble_eq_true rfl) dX2_gather_24 ⟨Nat.zero_le _, Nat.zero_le _⟩) hP hD hS hA [2, 3, 4] rfl (fun _ => rfl) (fun _ => cw_X2_gather cI h h_fitting ha1 ha1_saucers ha1_losses g_tally f_fitting f_count f_a1_saucers f_a1_losses f_a1_count) (fun _ => rfl) (fun r24 u24 H locs hw hP hD hS => ?_)
      obtain ⟨hn24, hw⟩ := hw
      try dsimp only at hw
      refine lv_if_eq (tgt := 50) hx hb dX2_gather_27 (by decide) (fun c27 => ?_) (fun c27 => ?_)
      · have hw := hw.1 c27
        refine lv_iinc (k := 2) (v := (x2 + 1)) (lv' := [(2, .int (x2 + 1)), (0, .ref h), (1, .ref ha1)]) hx hb dX2_gather_50 hl rfl rfl (by decide) rfl (fun ls hl => ?_)
        refine lv_goto (tgt := 7) hx hb dX2_gather_53 (by decide) ?_
        exact ih7 f_fitting f_count (x2 + 1) _ _ _ hw hP hD hS (lv_sub hl [1, 2, 0] rfl)
      have hw := hw.2 c27
      refine lv_aload_n hx hb dX2_gather_30 rfl (lv_at hl 0 rfl) ?_
      refine va_get (D := D) (ci := 2) (v := .ref h_fitting) (C := RX2) (T := TX2) (N := 3) hx hb hz hX_X2 hown hK.1 hP 0 rfl rfl 0 (by decide) (hz _ z1_172) (fun _ h9 => h9) rfl dX2_gather_31 ?_
      refine lv_aload_n hx hb dX2_gather_34 rfl (lv_at hl 0 rfl) ?_
      refine va_get (D := D) (ci := 2) (v := .int f_count) (C := RX2) (T := TX2) (N := 3) hx hb hz hX_X2 hown hK.1 hP 0 rfl rfl 2 (by decide) (hz _ z1_174) (fun _ h9 => h9) rfl dX2_gather_35 ?_
      refine lv_iload_n hx hb dX2_gather_38 rfl (lv_at hl 2 rfl) ?_
      obtain ⟨hi39, hw⟩ := hw
      refine va_iast hx hb hK.1 hP hD hS 1 0 rfl rfl hi39 dX2_gather_39 (fun H locs hP hD hS => ?_)
      have hP : va_P D vwCl (cw_X2_gather cI h h_fitting ha1 ha1_saucers ha1_losses g_tally (upd f_fitting f_count.toNatClampNeg x2) f_count f_a1_saucers f_a1_losses f_a1_count) H := hP
      have hD : va_D A (cw_X2_gather cI h h_fitting ha1 ha1_saucers ha1_losses g_tally (upd f_fitting f_count.toNatClampNeg x2) f_count f_a1_saucers f_a1_losses f_a1_count) := hD
      refine lv_aload_n hx hb dX2_gather_40 rfl (lv_at hl 0 rfl) ?_
      refine lv_dup hx hb dX2_gather_41 rfl ?_
      refine va_get (D := D) (ci := 2) (v := .int f_count) (C := RX2) (T := TX2) (N := 3) hx hb hz hX_X2 hown hK.1 hP 0 rfl rfl 2 (by decide) (hz _ z1_174) (fun _ h9 => h9) rfl dX2_gather_42 ?_
      refine lv_iconst (v := (1 : Int32)) hx hb dX2_gather_45 (by decide) ?_
      refine lv_iadd hx hb dX2_gather_46 ?_
      refine va_put (D := D) (ci := 2) (v := .int (f_count + (1 : Int32))) (ty := .int) (C := RX2) (T := TX2) (N := 3) hx hb hz hX_X2 tyX2 tyX2_ok nmX2 hown hK.1 hP hD hS 0 rfl rfl 2 (by decide) (hz _ z1_174) (fun _ h9 => h9) rfl (tyX2_ok 2 (by decide)) rfl rfl (Nat.le_of_ble_eq_true rfl) dX2_gather_47 (fun H locs hP hD hS => ?_)
      have hP : va_P D vwCl (cw_X2_gather cI h h_fitting ha1 ha1_saucers ha1_losses g_tally (upd f_fitting f_count.toNatClampNeg x2) (f_count + (1 : Int32)) f_a1_saucers f_a1_losses f_a1_count) H := hP
      have hD : va_D A (cw_X2_gather cI h h_fitting ha1 ha1_saucers ha1_losses g_tally (upd f_fitting f_count.toNatClampNeg x2) (f_count + (1 : Int32)) f_a1_saucers f_a1_losses f_a1_count) := hD
      refine lv_iinc (k := 2) (v := (x2 + 1)) (lv' := [(2, .int (x2 + 1)), (0, .ref h), (1, .ref ha1)]) hx hb dX2_gather_50 hl rfl rfl (by decide) rfl (fun ls hl => ?_)
      refine lv_goto (tgt := 7) hx hb dX2_gather_53 (by decide) ?_
      exact ih7 (upd f_fitting f_count.toNatClampNeg x2) (f_count + (1 : Int32)) (x2 + 1) _ _ _ hw hP hD hS (lv_sub hl [1, 2, 0] rfl)
  unfold w_X2_gather at hw
  refine lv_aload_n hx hb dX2_gather_0 rfl (lv_at hl 0 rfl) ?_
  refine lv_iconst (v := (0 : Int32)) hx hb dX2_gather_1 (by decide) ?_
  refine va_put (D := D) (ci := 2) (v := .int (0 : Int32)) (ty := .int) (C := RX2) (T := TX2) (N := 3) hx hb hz hX_X2 tyX2 tyX2_ok nmX2 hown hK.1 hP hD hS 0 rfl rfl 2 (by decide) (hz _ z1_174) (fun _ h9 => h9) rfl (tyX2_ok 2 (by decide)) rfl rfl (Nat.le_of_ble_eq_true rfl) dX2_gather_2 (fun H locs hP hD hS => ?_)
  have hP : va_P D vwCl (cw_X2_gather cI h h_fitting ha1 ha1_saucers ha1_losses g_tally f_fitting (0 : Int32) f_a1_saucers f_a1_losses f_a1_count) H := hP
  have hD : va_D A (cw_X2_gather cI h h_fitting ha1 ha1_saucers ha1_losses g_tally f_fitting (0 : Int32) f_a1_saucers f_a1_losses f_a1_count) := hD
  refine lv_iconst (v := (0 : Int32)) hx hb dX2_gather_5 (by decide) ?_
  refine lv_istore_n (lv' := [(2, .int (0 : Int32)), (0, .ref h), (1, .ref ha1)]) hx hb dX2_gather_6 rfl hl (by decide) rfl (fun ls hl => ?_)
  obtain ⟨n7, hw⟩ := hw
  exact L7 n7 f_fitting (0 : Int32) (0 : Int32) _ _ _ hw hP hD hS (lv_sub hl [1, 2, 0] rfl)
abbrev cw_X2_guessAt (cI : ClassId) (h h_fitting : Nat) (g_tally : Value) (f_fitting : Nat → Int32) (f_count : Int32) : va_W := [(h, .inr (2, [.ref h_fitting, g_tally, .int f_count])), (h_fitting, .inl (cI, 100, .inl f_fitting))]
abbrev q_X2_guessAt (D : va_G) (cI : ClassId) (h h_fitting : Nat) (g_tally : Value) (post : Int32 → Prop) (f_fitting : Nat → Int32) (f_count : Int32) (A : Nat → Prop) : Array Value → State → Outcome → State → Prop := va_Qi (S := Unit) (fun r _ => post r ) (fun _ t => va_P D vwCl (cw_X2_guessAt cI h h_fitting g_tally f_fitting f_count) t.heap) A
abbrev v_X2_guessAt : List Cond := .code yX2_guessAt cX2_guessAt 2 (some .int) :: zB
theorem hd_X2_guessAt : yX2_guessAt.cls = RX2 ∧ yX2_guessAt.cls ≠ "java/lang/invoke/MethodHandle" ∧ yX2_guessAt.cls ≠ "java/lang/invoke/VarHandle" ∧ (parseMethodDescriptor yX2_guessAt.desc).map (fun d => d.parameters.length) = some 1 := by decide +kernel
set_option maxHeartbeats 4000000 in
set_option maxRecDepth 100000 in
theorem c_X2_guessAt (l : Launch) (D : va_G) (cI cC cZ : ClassId) (h h_fitting : Nat) (g_tally : Value) (f_fitting : Nat → Int32) (f_count : Int32) (p1 : Int32) (sz : Nat) (post : Int32 → Prop) (hw : w_X2_guessAt post f_fitting f_count p1) : Met l yX2_guessAt v_X2_guessAt ({ frames := 0, cells := 0, slots := 0, locals := 0 } : Room) (va_Pc [.ref h, .int p1] (zPre D (zT cI cC cZ) sz (cw_X2_guessAt cI h h_fitting g_tally f_fitting f_count))) (q_X2_guessAt D cI h h_fitting g_tally post f_fitting f_count (va_A (cw_X2_guessAt cI h h_fitting g_tally f_fitting f_count) sz)) 0 0 (va_A (cw_X2_guessAt cI h h_fitting g_tally f_fitting f_count) sz) := by
  refine Met.ofW (cc := cX2_guessAt) (maxL := 2) (ret := (some .int)) (by decide) rfl ?_
  intro p e s m args below meth c s₁ B hml hv
  obtain ⟨rfl, hsz, hP, hK, hD0⟩ := hv
  subst hsz
  have hx := B.exec
  have hb := B.bytes
  have hr := B.returns
  have hz : ∀ w ∈ zB, w.before _ s = true := fun w h => atoms_spec (ws := v_X2_guessAt) B.pre w (List.mem_cons_of_mem _ h)
  have hown : s.vm.findClass RX2 = some m.cls := findClass_of_methodNamed B.named
  have hlocks := B.notSynchronized
  have hF : CallFix p m c cX2_guessAt 2 s (([.ref h, .int p1] : List Value).toArray) zB RX2 := ⟨hx, hb, hml, hown, hz⟩
  have hD := hD0.self (sz := s.heap.size)
  generalize hAe : va_A (cw_X2_guessAt cI h h_fitting g_tally f_fitting f_count) s.heap.size = A at hD ⊢
  have hA : ∀ q : Nat, s.heap.size ≤ q → A q := fun q h => by rw [← hAe]; exact Or.inr h
  have hS : va_S A s.heap s.heap [] := va_S.rf
  have hP : va_P D vwCl (cw_X2_guessAt cI h h_fitting g_tally f_fitting f_count) s.heap := hP
  have hl := lv_entry ([.ref h, .int p1]) (n := 2) (Nat.le_of_ble_eq_true rfl)
  rw [lg_entry_eq]
  generalize (lg_sl ([.ref h, .int p1]) ++ List.replicate (2 - (lg_sl ([.ref h, .int p1])).length) Slot.unset).toArray = ls at hl ⊢
  have hl : lv_has ls 2 [(0, .ref h), (1, .int p1)] := hl
  have J27 : ∀ (H : Heap) (locs : List Loc) (ls : Array Slot) (hw : w_X2_guessAt_B27 post f_fitting f_count p1) (hP : va_P D vwCl (cw_X2_guessAt cI h h_fitting g_tally f_fitting f_count) H) (hD : va_D A (cw_X2_guessAt cI h h_fitting g_tally f_fitting f_count)) (hS : va_S A s.heap H locs) (hl : lv_has ls 2 []), W p l e (headSpec v_X2_guessAt ({ frames := 0, cells := 0, slots := 0, locals := 0 } : Room)).room s m (([.ref h, .int p1] : List Value).toArray) below meth c H locs 0 0 (MQ below (q_X2_guessAt D cI h h_fitting g_tally post f_fitting f_count A) (([.ref h, .int p1] : List Value).toArray) s 0 0 A) (F0 m 27 ls []) := by
    intro H locs ls hw hP hD hS hl
    unfold w_X2_guessAt_B27 at hw
    refine lv_bipush (v := (-6 : Int32)) hx hb dX2_guessAt_27 (by decide) ?_
    exact z_iret hx hb hr hlocks () hw hP hS dX2_guessAt_29
  unfold w_X2_guessAt at hw
  refine lv_iload_n hx hb dX2_guessAt_0 rfl (lv_at hl 1 rfl) ?_
  refine lv_if_lt (tgt := 27) hx hb dX2_guessAt_1 (by decide) (fun c1 => ?_) (fun c1 => ?_)
  · have hw := hw.1 c1
    exact J27 _ _ _ hw hP hD hS (lv_sub hl [] rfl)
  have hw := hw.2 c1
  refine lv_iload_n hx hb dX2_guessAt_4 rfl (lv_at hl 1 rfl) ?_
  refine lv_aload_n hx hb dX2_guessAt_5 rfl (lv_at hl 0 rfl) ?_
  refine va_get (D := D) (ci := 2) (v := .int f_count) (C := RX2) (T := TX2) (N := 3) hx hb hz hX_X2 hown hK.1 hP 0 rfl rfl 2 (by decide) (hz _ z1_174) (fun _ h9 => h9) rfl dX2_guessAt_6 ?_
  refine lv_icmp_ge (tgt := 27) hx hb dX2_guessAt_9 (by decide) (fun c9 => ?_) (fun c9 => ?_)
  · have hw := hw.1 c9
    exact J27 _ _ _ hw hP hD hS (lv_sub hl [] rfl)
  have hw := hw.2 c9
  refine lv_iload_n hx hb dX2_guessAt_12 rfl (lv_at hl 1 rfl) ?_
  refine lv_bipush (v := (100 : Int32)) hx hb dX2_guessAt_13 (by decide) ?_
  refine lv_icmp_ge (tgt := 27) hx hb dX2_guessAt_15 (by decide) (fun c15 => ?_) (fun c15 => ?_)
  · have hw := hw.1 c15
    exact J27 _ _ _ hw hP hD hS (lv_sub hl [] rfl)
  have hw := hw.2 c15
  refine lv_aload_n hx hb dX2_guessAt_18 rfl (lv_at hl 0 rfl) ?_
  refine va_get (D := D) (ci := 2) (v := .ref h_fitting) (C := RX2) (T := TX2) (N := 3) hx hb hz hX_X2 hown hK.1 hP 0 rfl rfl 0 (by decide) (hz _ z1_172) (fun _ h9 => h9) rfl dX2_guessAt_19 ?_
  refine lv_iload_n hx hb dX2_guessAt_22 rfl (lv_at hl 1 rfl) ?_
  obtain ⟨hi23, hw⟩ := hw
  refine va_iald hx hb hK.1 hP 1 0 rfl rfl hi23 dX2_guessAt_23 ?_
  refine lv_goto (tgt := 29) hx hb dX2_guessAt_24 (by decide) ?_
  exact z_iret hx hb hr hlocks () hw hP hS dX2_guessAt_29
abbrev cw_X8_so (cI : ClassId) (h h_world h_world_sights h_world_sights_saucers h_world_sights_losses h_guesses h_guesses_fitting : Nat) (g_images g_pad g_hearing g_bowls g_world_court g_world_town g_guesses_tally : Value) (f_world_sights_saucers : Nat → Int32) (f_world_sights_losses : Nat → Int32) (f_world_sights_count : Int32) (f_guesses_fitting : Nat → Int32) (f_guesses_count : Int32) : va_W := [(h, .inr (8, [.ref h_world, g_images, g_pad, g_hearing, g_bowls, .ref h_guesses])), (h_world, .inr (7, [g_world_court, g_world_town, .ref h_world_sights])), (h_world_sights, .inr (5, [.ref h_world_sights_saucers, .ref h_world_sights_losses, .int f_world_sights_count])), (h_world_sights_saucers, .inl (cI, 8, .inl f_world_sights_saucers)), (h_world_sights_losses, .inl (cI, 8, .inl f_world_sights_losses)), (h_guesses, .inr (2, [.ref h_guesses_fitting, g_guesses_tally, .int f_guesses_count])), (h_guesses_fitting, .inl (cI, 100, .inl f_guesses_fitting))]
abbrev q_X8_so (D : va_G) (cI : ClassId) (h h_world h_world_sights h_world_sights_saucers h_world_sights_losses h_guesses h_guesses_fitting : Nat) (g_images g_pad g_hearing g_bowls g_world_court g_world_town g_guesses_tally : Value) (post : Int32 → (Nat → Int32) → Int32 → Prop) (f_world_sights_saucers : Nat → Int32) (f_world_sights_losses : Nat → Int32) (f_world_sights_count : Int32) (A : Nat → Prop) : Array Value → State → Outcome → State → Prop := va_Qi (S := (Nat → Int32) × Int32) (fun r u => post r u.1 u.2) (fun u t => va_P D vwCl (cw_X8_so cI h h_world h_world_sights h_world_sights_saucers h_world_sights_losses h_guesses h_guesses_fitting g_images g_pad g_hearing g_bowls g_world_court g_world_town g_guesses_tally f_world_sights_saucers f_world_sights_losses f_world_sights_count u.1 u.2) t.heap) A
abbrev v_X8_so : List Cond := .code yX8_so cX8_so 2 (some .int) :: zB
theorem hd_X8_so : yX8_so.cls = RX8 ∧ yX8_so.cls ≠ "java/lang/invoke/MethodHandle" ∧ yX8_so.cls ≠ "java/lang/invoke/VarHandle" ∧ (parseMethodDescriptor yX8_so.desc).map (fun d => d.parameters.length) = some 1 := by decide +kernel
set_option maxHeartbeats 4000000 in
set_option maxRecDepth 100000 in
theorem c_X8_so (l : Launch) (D : va_G) (cI cC cZ : ClassId) (h h_world h_world_sights h_world_sights_saucers h_world_sights_losses h_guesses h_guesses_fitting : Nat) (g_images g_pad g_hearing g_bowls g_world_court g_world_town g_guesses_tally : Value) (f_world_sights_saucers : Nat → Int32) (f_world_sights_losses : Nat → Int32) (f_world_sights_count : Int32) (f_guesses_fitting : Nat → Int32) (f_guesses_count : Int32) (p1 : Int32) (sz : Nat) (post : Int32 → (Nat → Int32) → Int32 → Prop) (hw : w_X8_so post f_world_sights_saucers f_world_sights_losses f_world_sights_count f_guesses_fitting f_guesses_count p1) : Met l yX8_so v_X8_so ({ frames := 4, cells := 0, slots := 0, locals := 88 } : Room) (va_Pc [.ref h, .int p1] (zPre D (zT cI cC cZ) sz (cw_X8_so cI h h_world h_world_sights h_world_sights_saucers h_world_sights_losses h_guesses h_guesses_fitting g_images g_pad g_hearing g_bowls g_world_court g_world_town g_guesses_tally f_world_sights_saucers f_world_sights_losses f_world_sights_count f_guesses_fitting f_guesses_count))) (q_X8_so D cI h h_world h_world_sights h_world_sights_saucers h_world_sights_losses h_guesses h_guesses_fitting g_images g_pad g_hearing g_bowls g_world_court g_world_town g_guesses_tally post f_world_sights_saucers f_world_sights_losses f_world_sights_count (va_A (cw_X8_so cI h h_world h_world_sights h_world_sights_saucers h_world_sights_losses h_guesses h_guesses_fitting g_images g_pad g_hearing g_bowls g_world_court g_world_town g_guesses_tally f_world_sights_saucers f_world_sights_losses f_world_sights_count f_guesses_fitting f_guesses_count) sz)) 0 0 (va_A (cw_X8_so cI h h_world h_world_sights h_world_sights_saucers h_world_sights_losses h_guesses h_guesses_fitting g_images g_pad g_hearing g_bowls g_world_court g_world_town g_guesses_tally f_world_sights_saucers f_world_sights_losses f_world_sights_count f_guesses_fitting f_guesses_count) sz) := by
  refine Met.ofW (cc := cX8_so) (maxL := 2) (ret := (some .int)) (by decide) rfl ?_
  intro p e s m args below meth c s₁ B hml hv
  obtain ⟨rfl, hsz, hP, hK, hD0⟩ := hv
  subst hsz
  have hx := B.exec
  have hb := B.bytes
  have hr := B.returns
  have hz : ∀ w ∈ zB, w.before _ s = true := fun w h => atoms_spec (ws := v_X8_so) B.pre w (List.mem_cons_of_mem _ h)
  have hown : s.vm.findClass RX8 = some m.cls := findClass_of_methodNamed B.named
  have hlocks := B.notSynchronized
  have hF : CallFix p m c cX8_so 2 s (([.ref h, .int p1] : List Value).toArray) zB RX8 := ⟨hx, hb, hml, hown, hz⟩
  have hD := hD0.self (sz := s.heap.size)
  generalize hAe : va_A (cw_X8_so cI h h_world h_world_sights h_world_sights_saucers h_world_sights_losses h_guesses h_guesses_fitting g_images g_pad g_hearing g_bowls g_world_court g_world_town g_guesses_tally f_world_sights_saucers f_world_sights_losses f_world_sights_count f_guesses_fitting f_guesses_count) s.heap.size = A at hD ⊢
  have hA : ∀ q : Nat, s.heap.size ≤ q → A q := fun q h => by rw [← hAe]; exact Or.inr h
  have hS : va_S A s.heap s.heap [] := va_S.rf
  have hP : va_P D vwCl (cw_X8_so cI h h_world h_world_sights h_world_sights_saucers h_world_sights_losses h_guesses h_guesses_fitting g_images g_pad g_hearing g_bowls g_world_court g_world_town g_guesses_tally f_world_sights_saucers f_world_sights_losses f_world_sights_count f_guesses_fitting f_guesses_count) s.heap := hP
  have hl := lv_entry ([.ref h, .int p1]) (n := 2) (Nat.le_of_ble_eq_true rfl)
  rw [lg_entry_eq]
  generalize (lg_sl ([.ref h, .int p1]) ++ List.replicate (2 - (lg_sl ([.ref h, .int p1])).length) Slot.unset).toArray = ls at hl ⊢
  have hl : lv_has ls 2 [(0, .ref h), (1, .int p1)] := hl
  unfold w_X8_so at hw
  refine lv_aload_n hx hb dX8_so_0 rfl (lv_at hl 0 rfl) ?_
  refine va_get (D := D) (ci := 8) (v := .ref h_guesses) (C := RX8) (T := TX8) (N := 6) hx hb hz hX_X8 hown hK.1 hP 0 rfl rfl 5 (by decide) (hz _ z1_188) (fun _ h9 => h9) rfl dX8_so_1 ?_
  refine lv_aload_n hx hb dX8_so_4 rfl (lv_at hl 0 rfl) ?_
  refine va_get (D := D) (ci := 8) (v := .ref h_world) (C := RX8) (T := TX8) (N := 6) hx hb hz hX_X8 hown hK.1 hP 0 rfl rfl 0 (by decide) (hz _ z1_183) (fun _ h9 => h9) rfl dX8_so_5 ?_
  refine va_getN (D := D) (ci := 7) (v := .ref h_world_sights) (C := RX7) (T := TX7) (N := 3) hx hb hz hX_X7 hown hK.1 hP 1 rfl rfl 2 (by decide) (va_Nw.use rfl (hK.2.1 _ (List.mem_of_getElem? (i := 9) rfl))) (fun _ h9 => h9) rfl dX8_so_8 ?_
  refine z_rv (z_runV (As := [.ref h_world_sights]) (rest := []) hF (c_X2_gather l D cI cC cZ h_guesses h_guesses_fitting h_world_sights h_world_sights_saucers h_world_sights_losses g_guesses_tally f_guesses_fitting f_guesses_count f_world_sights_saucers f_world_sights_losses f_world_sights_count _ _ hw) (cwV 1 hz (z_gV z3_37 z3_38 z3_39 z1_9 z3_40) rfl rfl rfl hd_X2_gather ⟨Nat.le_of_ble_eq_true rfl, Nat.le_of_ble_eq_true rfl⟩) hK hP hD [5, 6, 2, 3, 4] rfl rfl 5 2 rfl rfl rfl rfl hl.1 rfl (Nat.le_of_ble_eq_true rfl) dX8_so_11 ⟨Nat.zero_le _, Nat.zero_le _⟩) hP hD hS hA [5, 6, 2, 3, 4] rfl (fun _ => rfl) (fun u => cw_X8_so cI h h_world h_world_sights h_world_sights_saucers h_world_sights_losses h_guesses h_guesses_fitting g_images g_pad g_hearing g_bowls g_world_court g_world_town g_guesses_tally f_world_sights_saucers f_world_sights_losses f_world_sights_count u.1 u.2) (fun _ => rfl) (fun u11 H locs hw hP hD hS => ?_)
  obtain ⟨u11_0, u11_1⟩ := u11
  try dsimp only at hw
  have hP : va_P D vwCl (cw_X8_so cI h h_world h_world_sights h_world_sights_saucers h_world_sights_losses h_guesses h_guesses_fitting g_images g_pad g_hearing g_bowls g_world_court g_world_town g_guesses_tally f_world_sights_saucers f_world_sights_losses f_world_sights_count u11_0 u11_1) H := hP
  have hD : va_D A (cw_X8_so cI h h_world h_world_sights h_world_sights_saucers h_world_sights_losses h_guesses h_guesses_fitting g_images g_pad g_hearing g_bowls g_world_court g_world_town g_guesses_tally f_world_sights_saucers f_world_sights_losses f_world_sights_count u11_0 u11_1) := hD
  refine lv_iload_n hx hb dX8_so_14 rfl (lv_at hl 1 rfl) ?_
  refine lv_iconst (v := (-1 : Int32)) hx hb dX8_so_15 (by decide) ?_
  refine lv_icmp_ne (tgt := 29) hx hb dX8_so_16 (by decide) (fun c16 => ?_) (fun c16 => ?_)
  · have hw := hw.2 c16
    refine lv_aload_n hx hb dX8_so_29 rfl (lv_at hl 0 rfl) ?_
    refine va_get (D := D) (ci := 8) (v := .ref h_guesses) (C := RX8) (T := TX8) (N := 6) hx hb hz hX_X8 hown hK.1 hP 0 rfl rfl 5 (by decide) (hz _ z1_188) (fun _ h9 => h9) rfl dX8_so_30 ?_
    refine lv_iload_n hx hb dX8_so_33 rfl (lv_at hl 1 rfl) ?_
    refine z_ri (z_runV (As := [.int p1]) (rest := []) hF (c_X2_guessAt l D cI cC cZ h_guesses h_guesses_fitting g_guesses_tally u11_0 u11_1 p1 _ _ hw) (cwV 1 hz (z_gV z3_49 z3_50 z3_51 z1_9 z3_52) rfl rfl rfl hd_X2_guessAt ⟨Nat.le_of_ble_eq_true rfl, Nat.le_of_ble_eq_true rfl⟩) hK hP hD [5, 6] rfl rfl 5 2 rfl rfl rfl rfl hl.1 rfl (Nat.le_of_ble_eq_true rfl) dX8_so_34 ⟨Nat.zero_le _, Nat.zero_le _⟩) hP hD hS hA [5, 6] rfl (fun _ => rfl) (fun _ => cw_X8_so cI h h_world h_world_sights h_world_sights_saucers h_world_sights_losses h_guesses h_guesses_fitting g_images g_pad g_hearing g_bowls g_world_court g_world_town g_guesses_tally f_world_sights_saucers f_world_sights_losses f_world_sights_count u11_0 u11_1) (fun _ => rfl) (fun r34 u34 H locs hw hP hD hS => ?_)
    try dsimp only at hw
    exact z_iret hx hb hr hlocks (u11_0, u11_1) hw hP hS dX8_so_37
  have hw := hw.1 c16
  refine lv_aload_n hx hb dX8_so_19 rfl (lv_at hl 0 rfl) ?_
  refine va_get (D := D) (ci := 8) (v := .ref h_guesses) (C := RX8) (T := TX8) (N := 6) hx hb hz hX_X8 hown hK.1 hP 0 rfl rfl 5 (by decide) (hz _ z1_188) (fun _ h9 => h9) rfl dX8_so_20 ?_
  refine va_getN (D := D) (ci := 2) (v := .int u11_1) (C := RX2) (T := TX2) (N := 3) hx hb hz hX_X2 hown hK.1 hP 5 rfl rfl 2 (by decide) (va_Nw.use rfl (hK.2.1 _ (List.mem_of_getElem? (i := 17) rfl))) (fun _ h9 => h9) rfl dX8_so_23 ?_
  refine lv_goto (tgt := 37) hx hb dX8_so_26 (by decide) ?_
  exact z_iret hx hb hr hlocks (u11_0, u11_1) hw hP hS dX8_so_37
abbrev cw_J7_fill_53178 (cI : ClassId) (ha0 : Nat) (f_a0 : Nat → Int32) : va_W := [(ha0, .inl (cI, 46, .inl f_a0))]
abbrev q_J7_fill_53178 (D : va_G) (cI : ClassId) (ha0 : Nat) (post : (Nat → Int32) → Prop) (A : Nat → Prop) : Array Value → State → Outcome → State → Prop := va_Qv (S := (Nat → Int32)) (fun u => post u) (fun u t => va_P D vwCl (cw_J7_fill_53178 cI ha0 u) t.heap) A
abbrev v_J7_fill_53178 : List Cond := .code yJ7_fill_53178 cJ7_fill_53178 4 none :: zB
theorem hd_J7_fill_53178 : yJ7_fill_53178.cls ≠ "java/lang/invoke/MethodHandle" ∧ yJ7_fill_53178.cls ≠ "java/lang/invoke/VarHandle" ∧ (parseMethodDescriptor yJ7_fill_53178.desc).map (fun d => d.parameters.length) = some 2 := by decide +kernel
set_option maxHeartbeats 4000000 in
set_option maxRecDepth 100000 in
theorem c_J7_fill_53178 (l : Launch) (D : va_G) (cI cC cZ : ClassId) (ha0 : Nat) (f_a0 : Nat → Int32) (p1 : Int32) (sz : Nat) (post : (Nat → Int32) → Prop) (hw : w_J7_fill_53178 post f_a0 p1) : Met l yJ7_fill_53178 v_J7_fill_53178 ({ frames := 0, cells := 0, slots := 0, locals := 0 } : Room) (va_Pc [.ref ha0, .int p1] (zPre D (zT cI cC cZ) sz (cw_J7_fill_53178 cI ha0 f_a0))) (q_J7_fill_53178 D cI ha0 post (va_A (cw_J7_fill_53178 cI ha0 f_a0) sz)) 0 0 (va_A (cw_J7_fill_53178 cI ha0 f_a0) sz) := by
  refine Met.ofW (cc := cJ7_fill_53178) (maxL := 4) (ret := none) (by decide) rfl ?_
  intro p e s m args below meth c s₁ B hml hv
  obtain ⟨rfl, hsz, hP, hK, hD0⟩ := hv
  subst hsz
  have hx := B.exec
  have hb := B.bytes
  have hr := B.returns
  have hz : ∀ w ∈ zB, w.before _ s = true := fun w h => atoms_spec (ws := v_J7_fill_53178) B.pre w (List.mem_cons_of_mem _ h)
  have hown : s.vm.findClass RJ7 = some m.cls := findClass_of_methodNamed B.named
  have hlocks := B.notSynchronized
  have hF : CallFix p m c cJ7_fill_53178 4 s (([.ref ha0, .int p1] : List Value).toArray) zB RJ7 := ⟨hx, hb, hml, hown, hz⟩
  have hD := hD0.self (sz := s.heap.size)
  generalize hAe : va_A (cw_J7_fill_53178 cI ha0 f_a0) s.heap.size = A at hD ⊢
  have hA : ∀ q : Nat, s.heap.size ≤ q → A q := fun q h => by rw [← hAe]; exact Or.inr h
  have hS : va_S A s.heap s.heap [] := va_S.rf
  have hP : va_P D vwCl (cw_J7_fill_53178 cI ha0 f_a0) s.heap := hP
  have hl := lv_entry ([.ref ha0, .int p1]) (n := 4) (Nat.le_of_ble_eq_true rfl)
  rw [lg_entry_eq]
  generalize (lg_sl ([.ref ha0, .int p1]) ++ List.replicate (4 - (lg_sl ([.ref ha0, .int p1])).length) Slot.unset).toArray = ls at hl ⊢
  have hl : lv_has ls 4 [(0, .ref ha0), (1, .int p1)] := hl
  have L5 : ∀ (n5 : Nat) (f_a0 : Nat → Int32) (x2 : Int32) (x3 : Int32) (H : Heap) (locs : List Loc) (ls : Array Slot) (hw : w_J7_fill_53178_B5 post p1 n5 f_a0 x2 x3) (hP : va_P D vwCl (cw_J7_fill_53178 cI ha0 f_a0) H) (hD : va_D A (cw_J7_fill_53178 cI ha0 f_a0)) (hS : va_S A s.heap H locs) (hl : lv_has ls 4 [(0, .ref ha0), (1, .int p1), (2, .int x2), (3, .int x3)]), W p l e (headSpec v_J7_fill_53178 ({ frames := 0, cells := 0, slots := 0, locals := 0 } : Room)).room s m (([.ref ha0, .int p1] : List Value).toArray) below meth c H locs 0 0 (MQ below (q_J7_fill_53178 D cI ha0 post A) (([.ref ha0, .int p1] : List Value).toArray) s 0 0 A) (F0 m 5 ls []) := by
    intro n5
    induction n5 with
    | zero => intro f_a0 x2 x3 H locs ls hw; exact False.elim hw
    | succ n5 ih5 =>
      intro f_a0 x2 x3 H locs ls hw hP hD hS hl
      unfold w_J7_fill_53178_B5 at hw
      refine lv_iload_n hx hb dJ7_fill_53178_5 rfl (lv_at hl 2 rfl) ?_
      refine lv_iload_n hx hb dJ7_fill_53178_6 rfl (lv_at hl 3 rfl) ?_
      refine lv_icmp_ge (tgt := 20) hx hb dJ7_fill_53178_7 (by decide) (fun c7 => ?_) (fun c7 => ?_)
      · have hw := hw.1 c7
        exact z_vret hx hb hr hlocks f_a0 hw hP hS dJ7_fill_53178_20
      have hw := hw.2 c7
      refine lv_aload_n hx hb dJ7_fill_53178_10 rfl (lv_at hl 0 rfl) ?_
      refine lv_iload_n hx hb dJ7_fill_53178_11 rfl (lv_at hl 2 rfl) ?_
      refine lv_iload_n hx hb dJ7_fill_53178_12 rfl (lv_at hl 1 rfl) ?_
      obtain ⟨hi13, hw⟩ := hw
      refine va_iast hx hb hK.1 hP hD hS 0 0 rfl rfl hi13 dJ7_fill_53178_13 (fun H locs hP hD hS => ?_)
      have hP : va_P D vwCl (cw_J7_fill_53178 cI ha0 (upd f_a0 x2.toNatClampNeg p1)) H := hP
      have hD : va_D A (cw_J7_fill_53178 cI ha0 (upd f_a0 x2.toNatClampNeg p1)) := hD
      refine lv_iinc (k := 2) (v := (x2 + 1)) (lv' := [(2, .int (x2 + 1)), (0, .ref ha0), (1, .int p1), (3, .int x3)]) hx hb dJ7_fill_53178_14 hl rfl rfl (by decide) rfl (fun ls hl => ?_)
      refine lv_goto (tgt := 5) hx hb dJ7_fill_53178_17 (by decide) ?_
      exact ih5 (upd f_a0 x2.toNatClampNeg p1) (x2 + 1) x3 _ _ _ hw hP hD hS (lv_sub hl [1, 2, 0, 3] rfl)
  unfold w_J7_fill_53178 at hw
  refine lv_iconst (v := (0 : Int32)) hx hb dJ7_fill_53178_0 (by decide) ?_
  refine lv_istore_n (lv' := [(2, .int (0 : Int32)), (0, .ref ha0), (1, .int p1)]) hx hb dJ7_fill_53178_1 rfl hl (by decide) rfl (fun ls hl => ?_)
  refine lv_aload_n hx hb dJ7_fill_53178_2 rfl (lv_at hl 1 rfl) ?_
  refine va_alen (v := (46 : Int32)) hx hb hK.1 hP 0 0 rfl rfl rfl dJ7_fill_53178_3 ?_
  refine lv_istore_n (lv' := [(3, .int (46 : Int32)), (2, .int (0 : Int32)), (0, .ref ha0), (1, .int p1)]) hx hb dJ7_fill_53178_4 rfl hl (by decide) rfl (fun ls hl => ?_)
  obtain ⟨n5, hw⟩ := hw
  exact L5 n5 f_a0 (0 : Int32) (46 : Int32) _ _ _ hw hP hD hS (lv_sub hl [2, 3, 1, 0] rfl)
abbrev cw_X2_leftAtMost (cI : ClassId) (h h_fitting h_tally : Nat) (f_fitting : Nat → Int32) (f_tally : Nat → Int32) (f_count : Int32) : va_W := [(h, .inr (2, [.ref h_fitting, .ref h_tally, .int f_count])), (h_fitting, .inl (cI, 100, .inl f_fitting)), (h_tally, .inl (cI, 46, .inl f_tally))]
abbrev q_X2_leftAtMost (D : va_G) (cI : ClassId) (h h_fitting h_tally : Nat) (post : Int32 → (Nat → Int32) → Prop) (f_fitting : Nat → Int32) (f_count : Int32) (A : Nat → Prop) : Array Value → State → Outcome → State → Prop := va_Qi (S := (Nat → Int32)) (fun r u => post r u) (fun u t => va_P D vwCl (cw_X2_leftAtMost cI h h_fitting h_tally f_fitting u f_count) t.heap) A
abbrev v_X2_leftAtMost : List Cond := .code yX2_leftAtMost cX2_leftAtMost 5 (some .int) :: zB
theorem hd_X2_leftAtMost : yX2_leftAtMost.cls = RX2 ∧ yX2_leftAtMost.cls ≠ "java/lang/invoke/MethodHandle" ∧ yX2_leftAtMost.cls ≠ "java/lang/invoke/VarHandle" ∧ (parseMethodDescriptor yX2_leftAtMost.desc).map (fun d => d.parameters.length) = some 1 := by decide +kernel
set_option maxHeartbeats 4000000 in
set_option maxRecDepth 100000 in
theorem c_X2_leftAtMost (l : Launch) (D : va_G) (cI cC cZ : ClassId) (h h_fitting h_tally : Nat) (f_fitting : Nat → Int32) (f_tally : Nat → Int32) (f_count : Int32) (p1 : Int32) (sz : Nat) (post : Int32 → (Nat → Int32) → Prop) (hw : w_X2_leftAtMost post f_fitting f_tally f_count p1) : Met l yX2_leftAtMost v_X2_leftAtMost ({ frames := 2, cells := 0, slots := 0, locals := 44 } : Room) (va_Pc [.ref h, .int p1] (zPre D (zT cI cC cZ) sz (cw_X2_leftAtMost cI h h_fitting h_tally f_fitting f_tally f_count))) (q_X2_leftAtMost D cI h h_fitting h_tally post f_fitting f_count (va_A (cw_X2_leftAtMost cI h h_fitting h_tally f_fitting f_tally f_count) sz)) 0 0 (va_A (cw_X2_leftAtMost cI h h_fitting h_tally f_fitting f_tally f_count) sz) := by
  refine Met.ofW (cc := cX2_leftAtMost) (maxL := 5) (ret := (some .int)) (by decide) rfl ?_
  intro p e s m args below meth c s₁ B hml hv
  obtain ⟨rfl, hsz, hP, hK, hD0⟩ := hv
  subst hsz
  have hx := B.exec
  have hb := B.bytes
  have hr := B.returns
  have hz : ∀ w ∈ zB, w.before _ s = true := fun w h => atoms_spec (ws := v_X2_leftAtMost) B.pre w (List.mem_cons_of_mem _ h)
  have hown : s.vm.findClass RX2 = some m.cls := findClass_of_methodNamed B.named
  have hlocks := B.notSynchronized
  have hF : CallFix p m c cX2_leftAtMost 5 s (([.ref h, .int p1] : List Value).toArray) zB RX2 := ⟨hx, hb, hml, hown, hz⟩
  have hD := hD0.self (sz := s.heap.size)
  generalize hAe : va_A (cw_X2_leftAtMost cI h h_fitting h_tally f_fitting f_tally f_count) s.heap.size = A at hD ⊢
  have hA : ∀ q : Nat, s.heap.size ≤ q → A q := fun q h => by rw [← hAe]; exact Or.inr h
  have hS : va_S A s.heap s.heap [] := va_S.rf
  have hP : va_P D vwCl (cw_X2_leftAtMost cI h h_fitting h_tally f_fitting f_tally f_count) s.heap := hP
  have hl := lv_entry ([.ref h, .int p1]) (n := 5) (Nat.le_of_ble_eq_true rfl)
  rw [lg_entry_eq]
  generalize (lg_sl ([.ref h, .int p1]) ++ List.replicate (5 - (lg_sl ([.ref h, .int p1])).length) Slot.unset).toArray = ls at hl ⊢
  have hl : lv_has ls 5 [(0, .ref h), (1, .int p1)] := hl
  have L12 : ∀ (n12 : Nat) (f_tally : Nat → Int32) (x2 : Int32) (x3 : Int32) (H : Heap) (locs : List Loc) (ls : Array Slot) (hw : w_X2_leftAtMost_B12 post f_fitting f_count p1 n12 f_tally x2 x3) (hP : va_P D vwCl (cw_X2_leftAtMost cI h h_fitting h_tally f_fitting f_tally f_count) H) (hD : va_D A (cw_X2_leftAtMost cI h h_fitting h_tally f_fitting f_tally f_count)) (hS : va_S A s.heap H locs) (hl : lv_has ls 5 [(0, .ref h), (1, .int p1), (2, .int x2), (3, .int x3)]), W p l e (headSpec v_X2_leftAtMost ({ frames := 2, cells := 0, slots := 0, locals := 44 } : Room)).room s m (([.ref h, .int p1] : List Value).toArray) below meth c H locs 0 0 (MQ below (q_X2_leftAtMost D cI h h_fitting h_tally post f_fitting f_count A) (([.ref h, .int p1] : List Value).toArray) s 0 0 A) (F0 m 12 ls []) := by
    intro n12
    induction n12 with
    | zero => intro f_tally x2 x3 H locs ls hw; exact False.elim hw
    | succ n12 ih12 =>
      intro f_tally x2 x3 H locs ls hw hP hD hS hl
      unfold w_X2_leftAtMost_B12 at hw
      refine lv_iload_n hx hb dX2_leftAtMost_12 rfl (lv_at hl 3 rfl) ?_
      refine lv_aload_n hx hb dX2_leftAtMost_13 rfl (lv_at hl 0 rfl) ?_
      refine va_get (D := D) (ci := 2) (v := .int f_count) (C := RX2) (T := TX2) (N := 3) hx hb hz hX_X2 hown hK.1 hP 0 rfl rfl 2 (by decide) (hz _ z1_174) (fun _ h9 => h9) rfl dX2_leftAtMost_14 ?_
      refine lv_icmp_ge (tgt := 78) hx hb dX2_leftAtMost_17 (by decide) (fun c17 => ?_) (fun c17 => ?_)
      · have hw := hw.1 c17
        refine lv_iload_n hx hb dX2_leftAtMost_78 rfl (lv_at hl 2 rfl) ?_
        exact z_iret hx hb hr hlocks f_tally hw hP hS dX2_leftAtMost_79
      have hw := hw.2 c17
      refine lv_iload_n hx hb dX2_leftAtMost_20 rfl (lv_at hl 3 rfl) ?_
      refine lv_bipush (v := (100 : Int32)) hx hb dX2_leftAtMost_21 (by decide) ?_
      refine lv_icmp_ge (tgt := 78) hx hb dX2_leftAtMost_23 (by decide) (fun c23 => ?_) (fun c23 => ?_)
      · have hw := hw.1 c23
        refine lv_iload_n hx hb dX2_leftAtMost_78 rfl (lv_at hl 2 rfl) ?_
        exact z_iret hx hb hr hlocks f_tally hw hP hS dX2_leftAtMost_79
      have hw := hw.2 c23
      refine lv_aload_n hx hb dX2_leftAtMost_26 rfl (lv_at hl 0 rfl) ?_
      refine va_get (D := D) (ci := 2) (v := .ref h_fitting) (C := RX2) (T := TX2) (N := 3) hx hb hz hX_X2 hown hK.1 hP 0 rfl rfl 0 (by decide) (hz _ z1_172) (fun _ h9 => h9) rfl dX2_leftAtMost_27 ?_
      refine lv_iload_n hx hb dX2_leftAtMost_30 rfl (lv_at hl 3 rfl) ?_
      obtain ⟨hi31, hw⟩ := hw
      refine va_iald hx hb hK.1 hP 1 0 rfl rfl hi31 dX2_leftAtMost_31 ?_
      refine lv_iload_n hx hb dX2_leftAtMost_32 rfl (lv_at hl 1 rfl) ?_
      refine z_ri (z_runS (As := [.int (f_fitting x3.toNatClampNeg), .int p1]) (rest := []) hF (c_X5_lossIf l D cI cC cZ (f_fitting x3.toNatClampNeg) p1 _ _ hw) (va_cwS 2 hz (z_gS z3_68 z3_46 z1_5 z3_47) rfl rfl rfl hd_X5_lossIf ⟨Nat.le_of_ble_eq_true rfl, Nat.le_of_ble_eq_true rfl⟩) hK hP hD [] rfl rfl rfl hl.1 rfl (Nat.le_of_ble_eq_true rfl) dX2_leftAtMost_33 ⟨Nat.zero_le _, Nat.zero_le _⟩) hP hD hS hA [] rfl (fun _ => rfl) (fun _ => cw_X2_leftAtMost cI h h_fitting h_tally f_fitting f_tally f_count) (fun _ => rfl) (fun r33 u33 H locs hw hP hD hS => ?_)
      try dsimp only at hw
      refine lv_istore (lv' := [(4, .int r33), (0, .ref h), (1, .int p1), (2, .int x2), (3, .int x3)]) hx hb dX2_leftAtMost_36 hl (by decide) rfl (fun ls hl => ?_)
      refine lv_iload hx hb dX2_leftAtMost_38 (lv_at hl 0 rfl) ?_
      refine lv_iconst (v := (0 : Int32)) hx hb dX2_leftAtMost_40 (by decide) ?_
      refine lv_bipush (v := (45 : Int32)) hx hb dX2_leftAtMost_41 (by decide) ?_
      refine z_ri (z_runSN (As := [.int r33, .int (0 : Int32), .int (45 : Int32)]) (rest := []) hF (c_X8_within l D cI cC cZ r33 (0 : Int32) (45 : Int32) _ _ hw) ⟨va_cnB 3 hz (z_gN z1_214) rfl rfl rfl (hK.2.1 _ (List.mem_of_getElem? (i := 27) rfl)) (hz _ z1_1) hd_X8_within ⟨Nat.le_of_ble_eq_true rfl, Nat.le_of_ble_eq_true rfl⟩, (hz _ z1_213), trivial⟩ hK hP hD [] rfl rfl rfl hl.1 rfl (Nat.le_of_ble_eq_true rfl) dX2_leftAtMost_43 ⟨Nat.zero_le _, Nat.zero_le _⟩) hP hD hS hA [] rfl (fun _ => rfl) (fun _ => cw_X2_leftAtMost cI h h_fitting h_tally f_fitting f_tally f_count) (fun _ => rfl) (fun r43 u43 H locs hw hP hD hS => ?_)
      obtain ⟨hn43, hw⟩ := hw
      try dsimp only at hw
      refine lv_if_eq (tgt := 72) hx hb dX2_leftAtMost_46 (by decide) (fun c46 => ?_) (fun c46 => ?_)
      · have hw := hw.1 c46
        refine lv_iinc (k := 4) (v := (x3 + 1)) (lv' := [(3, .int (x3 + 1)), (4, .int r33), (0, .ref h), (1, .int p1), (2, .int x2)]) hx hb dX2_leftAtMost_72 hl rfl rfl (by decide) rfl (fun ls hl => ?_)
        refine lv_goto (tgt := 12) hx hb dX2_leftAtMost_75 (by decide) ?_
        exact ih12 f_tally x2 (x3 + 1) _ _ _ hw hP hD hS (lv_sub hl [2, 3, 4, 0] rfl)
      have hw := hw.2 c46
      refine lv_aload_n hx hb dX2_leftAtMost_49 rfl (lv_at hl 1 rfl) ?_
      refine va_get (D := D) (ci := 2) (v := .ref h_tally) (C := RX2) (T := TX2) (N := 3) hx hb hz hX_X2 hown hK.1 hP 0 rfl rfl 1 (by decide) (hz _ z1_173) (fun _ h9 => h9) rfl dX2_leftAtMost_50 ?_
      refine lv_iload hx hb dX2_leftAtMost_53 (lv_at hl 0 rfl) ?_
      refine lv_dup2_11 hx hb dX2_leftAtMost_55 rfl rfl ?_
      obtain ⟨hi56, hw⟩ := hw
      refine va_iald hx hb hK.1 hP 2 0 rfl rfl hi56 dX2_leftAtMost_56 ?_
      refine lv_iconst (v := (1 : Int32)) hx hb dX2_leftAtMost_57 (by decide) ?_
      refine lv_iadd hx hb dX2_leftAtMost_58 ?_
      obtain ⟨hi59, hw⟩ := hw
      refine va_iast hx hb hK.1 hP hD hS 2 0 rfl rfl hi59 dX2_leftAtMost_59 (fun H locs hP hD hS => ?_)
      have hP : va_P D vwCl (cw_X2_leftAtMost cI h h_fitting h_tally f_fitting (upd f_tally r33.toNatClampNeg ((f_tally r33.toNatClampNeg) + (1 : Int32))) f_count) H := hP
      have hD : va_D A (cw_X2_leftAtMost cI h h_fitting h_tally f_fitting (upd f_tally r33.toNatClampNeg ((f_tally r33.toNatClampNeg) + (1 : Int32))) f_count) := hD
      refine lv_iload_n hx hb dX2_leftAtMost_60 rfl (lv_at hl 3 rfl) ?_
      refine lv_aload_n hx hb dX2_leftAtMost_61 rfl (lv_at hl 1 rfl) ?_
      refine va_get (D := D) (ci := 2) (v := .ref h_tally) (C := RX2) (T := TX2) (N := 3) hx hb hz hX_X2 hown hK.1 hP 0 rfl rfl 1 (by decide) (hz _ z1_173) (fun _ h9 => h9) rfl dX2_leftAtMost_62 ?_
      refine lv_iload hx hb dX2_leftAtMost_65 (lv_at hl 0 rfl) ?_
      obtain ⟨hi67, hw⟩ := hw
      refine va_iald hx hb hK.1 hP 2 0 rfl rfl hi67 dX2_leftAtMost_67 ?_
      refine va_mmax hx hb (hml.trans hl.1.symm) hown (hz _ z3_70) (hz _ z2_137) (hz _ z1_13) (hz _ z2_138) (Nat.le_of_ble_eq_true rfl) (Nat.le_of_ble_eq_true rfl) (Nat.zero_le _) (Nat.zero_le _) dX2_leftAtMost_68 ?_
      refine lv_topi (fun y71 ey71 => ?_)
      have hw := hw y71 ey71
      refine lv_istore_n (lv' := [(2, .int y71), (4, .int r33), (0, .ref h), (1, .int p1), (3, .int x3)]) hx hb dX2_leftAtMost_71 rfl hl (by decide) rfl (fun ls hl => ?_)
      refine lv_iinc (k := 4) (v := (x3 + 1)) (lv' := [(3, .int (x3 + 1)), (2, .int y71), (4, .int r33), (0, .ref h), (1, .int p1)]) hx hb dX2_leftAtMost_72 hl rfl rfl (by decide) rfl (fun ls hl => ?_)
      refine lv_goto (tgt := 12) hx hb dX2_leftAtMost_75 (by decide) ?_
      exact ih12 (upd f_tally r33.toNatClampNeg ((f_tally r33.toNatClampNeg) + (1 : Int32))) y71 (x3 + 1) _ _ _ hw hP hD hS (lv_sub hl [3, 4, 1, 0] rfl)
  unfold w_X2_leftAtMost at hw
  refine lv_aload_n hx hb dX2_leftAtMost_0 rfl (lv_at hl 0 rfl) ?_
  refine va_get (D := D) (ci := 2) (v := .ref h_tally) (C := RX2) (T := TX2) (N := 3) hx hb hz hX_X2 hown hK.1 hP 0 rfl rfl 1 (by decide) (hz _ z1_173) (fun _ h9 => h9) rfl dX2_leftAtMost_1 ?_
  refine lv_iconst (v := (0 : Int32)) hx hb dX2_leftAtMost_4 (by decide) ?_
  refine z_rv (z_runS (As := [.ref h_tally, .int (0 : Int32)]) (rest := []) hF (c_J7_fill_53178 l D cI cC cZ h_tally f_tally (0 : Int32) _ _ hw) (va_cwS 2 hz (z_gS z3_65 z3_66 z1_14 z3_67) rfl rfl rfl hd_J7_fill_53178 ⟨Nat.le_of_ble_eq_true rfl, Nat.le_of_ble_eq_true rfl⟩) hK hP hD [2] rfl rfl rfl hl.1 rfl (Nat.le_of_ble_eq_true rfl) dX2_leftAtMost_5 ⟨Nat.zero_le _, Nat.zero_le _⟩) hP hD hS hA [2] rfl (fun _ => rfl) (fun u => cw_X2_leftAtMost cI h h_fitting h_tally f_fitting u f_count) (fun _ => rfl) (fun u5_0 H locs hw hP hD hS => ?_)
  try dsimp only at hw
  have hP : va_P D vwCl (cw_X2_leftAtMost cI h h_fitting h_tally f_fitting u5_0 f_count) H := hP
  have hD : va_D A (cw_X2_leftAtMost cI h h_fitting h_tally f_fitting u5_0 f_count) := hD
  refine lv_iconst (v := (0 : Int32)) hx hb dX2_leftAtMost_8 (by decide) ?_
  refine lv_istore_n (lv' := [(2, .int (0 : Int32)), (0, .ref h), (1, .int p1)]) hx hb dX2_leftAtMost_9 rfl hl (by decide) rfl (fun ls hl => ?_)
  refine lv_iconst (v := (0 : Int32)) hx hb dX2_leftAtMost_10 (by decide) ?_
  refine lv_istore_n (lv' := [(3, .int (0 : Int32)), (2, .int (0 : Int32)), (0, .ref h), (1, .int p1)]) hx hb dX2_leftAtMost_11 rfl hl (by decide) rfl (fun ls hl => ?_)
  obtain ⟨n12, hw⟩ := hw
  exact L12 n12 u5_0 (0 : Int32) (0 : Int32) _ _ _ hw hP hD hS (lv_sub hl [2, 3, 1, 0] rfl)
abbrev cw_X2_bestSaucer (cI : ClassId) (h h_fitting h_tally : Nat) (f_fitting : Nat → Int32) (f_tally : Nat → Int32) (f_count : Int32) : va_W := [(h, .inr (2, [.ref h_fitting, .ref h_tally, .int f_count])), (h_fitting, .inl (cI, 100, .inl f_fitting)), (h_tally, .inl (cI, 46, .inl f_tally))]
abbrev q_X2_bestSaucer (D : va_G) (cI : ClassId) (h h_fitting h_tally : Nat) (post : Int32 → (Nat → Int32) → Prop) (f_fitting : Nat → Int32) (f_count : Int32) (A : Nat → Prop) : Array Value → State → Outcome → State → Prop := va_Qi (S := (Nat → Int32)) (fun r u => post r u) (fun u t => va_P D vwCl (cw_X2_bestSaucer cI h h_fitting h_tally f_fitting u f_count) t.heap) A
abbrev v_X2_bestSaucer : List Cond := .code yX2_bestSaucer cX2_bestSaucer 4 (some .int) :: zB
theorem hd_X2_bestSaucer : yX2_bestSaucer.cls = RX2 ∧ yX2_bestSaucer.cls ≠ "java/lang/invoke/MethodHandle" ∧ yX2_bestSaucer.cls ≠ "java/lang/invoke/VarHandle" ∧ (parseMethodDescriptor yX2_bestSaucer.desc).map (fun d => d.parameters.length) = some 0 := by decide +kernel
set_option maxHeartbeats 4000000 in
set_option maxRecDepth 100000 in
theorem c_X2_bestSaucer (l : Launch) (D : va_G) (cI cC cZ : ClassId) (h h_fitting h_tally : Nat) (f_fitting : Nat → Int32) (f_tally : Nat → Int32) (f_count : Int32) (sz : Nat) (post : Int32 → (Nat → Int32) → Prop) (hw : w_X2_bestSaucer post f_fitting f_tally f_count) : Met l yX2_bestSaucer v_X2_bestSaucer ({ frames := 3, cells := 0, slots := 0, locals := 68 } : Room) (va_Pc [.ref h] (zPre D (zT cI cC cZ) sz (cw_X2_bestSaucer cI h h_fitting h_tally f_fitting f_tally f_count))) (q_X2_bestSaucer D cI h h_fitting h_tally post f_fitting f_count (va_A (cw_X2_bestSaucer cI h h_fitting h_tally f_fitting f_tally f_count) sz)) 0 0 (va_A (cw_X2_bestSaucer cI h h_fitting h_tally f_fitting f_tally f_count) sz) := by
  refine Met.ofW (cc := cX2_bestSaucer) (maxL := 4) (ret := (some .int)) (by decide) rfl ?_
  intro p e s m args below meth c s₁ B hml hv
  obtain ⟨rfl, hsz, hP, hK, hD0⟩ := hv
  subst hsz
  have hx := B.exec
  have hb := B.bytes
  have hr := B.returns
  have hz : ∀ w ∈ zB, w.before _ s = true := fun w h => atoms_spec (ws := v_X2_bestSaucer) B.pre w (List.mem_cons_of_mem _ h)
  have hown : s.vm.findClass RX2 = some m.cls := findClass_of_methodNamed B.named
  have hlocks := B.notSynchronized
  have hF : CallFix p m c cX2_bestSaucer 4 s (([.ref h] : List Value).toArray) zB RX2 := ⟨hx, hb, hml, hown, hz⟩
  have hD := hD0.self (sz := s.heap.size)
  generalize hAe : va_A (cw_X2_bestSaucer cI h h_fitting h_tally f_fitting f_tally f_count) s.heap.size = A at hD ⊢
  have hA : ∀ q : Nat, s.heap.size ≤ q → A q := fun q h => by rw [← hAe]; exact Or.inr h
  have hS : va_S A s.heap s.heap [] := va_S.rf
  have hP : va_P D vwCl (cw_X2_bestSaucer cI h h_fitting h_tally f_fitting f_tally f_count) s.heap := hP
  have hl := lv_entry ([.ref h]) (n := 4) (Nat.le_of_ble_eq_true rfl)
  rw [lg_entry_eq]
  generalize (lg_sl ([.ref h]) ++ List.replicate (4 - (lg_sl ([.ref h])).length) Slot.unset).toArray = ls at hl ⊢
  have hl : lv_has ls 4 [(0, .ref h)] := hl
  have L4 : ∀ (n4 : Nat) (f_tally : Nat → Int32) (x1 : Int32) (x2 : Int32) (H : Heap) (locs : List Loc) (ls : Array Slot) (hw : w_X2_bestSaucer_B4 post f_fitting f_count n4 f_tally x1 x2) (hP : va_P D vwCl (cw_X2_bestSaucer cI h h_fitting h_tally f_fitting f_tally f_count) H) (hD : va_D A (cw_X2_bestSaucer cI h h_fitting h_tally f_fitting f_tally f_count)) (hS : va_S A s.heap H locs) (hl : lv_has ls 4 [(0, .ref h), (1, .int x1), (2, .int x2)]), W p l e (headSpec v_X2_bestSaucer ({ frames := 3, cells := 0, slots := 0, locals := 68 } : Room)).room s m (([.ref h] : List Value).toArray) below meth c H locs 0 0 (MQ below (q_X2_bestSaucer D cI h h_fitting h_tally post f_fitting f_count A) (([.ref h] : List Value).toArray) s 0 0 A) (F0 m 4 ls []) := by
    intro n4
    induction n4 with
    | zero => intro f_tally x1 x2 H locs ls hw; exact False.elim hw
    | succ n4 ih4 =>
      have L14 : ∀ (n14 : Nat) (f_tally : Nat → Int32) (x1 : Int32) (x2 : Int32) (x3 : Int32) (H : Heap) (locs : List Loc) (ls : Array Slot) (hw : w_X2_bestSaucer_B14 post f_fitting f_count (fun f_tally x1 x2 => w_X2_bestSaucer_B4 post f_fitting f_count n4 f_tally x1 x2) n14 f_tally x1 x2 x3) (hP : va_P D vwCl (cw_X2_bestSaucer cI h h_fitting h_tally f_fitting f_tally f_count) H) (hD : va_D A (cw_X2_bestSaucer cI h h_fitting h_tally f_fitting f_tally f_count)) (hS : va_S A s.heap H locs) (hl : lv_has ls 4 [(0, .ref h), (1, .int x1), (2, .int x2), (3, .int x3)]), W p l e (headSpec v_X2_bestSaucer ({ frames := 3, cells := 0, slots := 0, locals := 68 } : Room)).room s m (([.ref h] : List Value).toArray) below meth c H locs 0 0 (MQ below (q_X2_bestSaucer D cI h h_fitting h_tally post f_fitting f_count A) (([.ref h] : List Value).toArray) s 0 0 A) (F0 m 14 ls []) := by
        intro n14
        induction n14 with
        | zero => intro f_tally x1 x2 x3 H locs ls hw; exact False.elim hw
        | succ n14 ih14 =>
          intro f_tally x1 x2 x3 H locs ls hw hP hD hS hl
          unfold w_X2_bestSaucer_B14 at hw
          refine lv_iload_n hx hb dX2_bestSaucer_14 rfl (lv_at hl 3 rfl) ?_
          refine lv_bipush (v := (10 : Int32)) hx hb dX2_bestSaucer_15 (by decide) ?_
          refine lv_iload_n hx hb dX2_bestSaucer_17 rfl (lv_at hl 2 rfl) ?_
          refine lv_imul hx hb dX2_bestSaucer_18 ?_
          refine lv_iconst (v := (1 : Int32)) hx hb dX2_bestSaucer_19 (by decide) ?_
          refine lv_iadd hx hb dX2_bestSaucer_20 ?_
          refine lv_icmp_gt (tgt := 45) hx hb dX2_bestSaucer_21 (by decide) (fun c21 => ?_) (fun c21 => ?_)
          · have hw := hw.1 c21
            refine lv_iinc (k := 2) (v := (x2 + 1)) (lv' := [(2, .int (x2 + 1)), (0, .ref h), (1, .int x1), (3, .int x3)]) hx hb dX2_bestSaucer_45 hl rfl rfl (by decide) rfl (fun ls hl => ?_)
            refine lv_goto (tgt := 4) hx hb dX2_bestSaucer_48 (by decide) ?_
            exact ih4 f_tally x1 (x2 + 1) _ _ _ hw hP hD hS (lv_sub hl [1, 2, 0] rfl)
          have hw := hw.2 c21
          refine lv_aload_n hx hb dX2_bestSaucer_24 rfl (lv_at hl 0 rfl) ?_
          refine lv_iload_n hx hb dX2_bestSaucer_25 rfl (lv_at hl 3 rfl) ?_
          refine z_ri (z_runV (As := [.int x3]) (rest := []) hF (c_X2_leftAtMost l D cI cC cZ h h_fitting h_tally f_fitting f_tally f_count x3 _ _ hw) (cwV 1 hz (z_gV z3_61 z3_62 z3_63 z1_9 z3_64) rfl rfl rfl hd_X2_leftAtMost ⟨Nat.le_of_ble_eq_true rfl, Nat.le_of_ble_eq_true rfl⟩) hK hP hD [0, 1, 2] rfl rfl 0 2 rfl rfl rfl rfl hl.1 rfl (Nat.le_of_ble_eq_true rfl) dX2_bestSaucer_26 ⟨Nat.zero_le _, Nat.zero_le _⟩) hP hD hS hA [0, 1, 2] rfl (fun _ => rfl) (fun u => cw_X2_bestSaucer cI h h_fitting h_tally f_fitting u f_count) (fun _ => rfl) (fun r26 u26_0 H locs hw hP hD hS => ?_)
          try dsimp only at hw
          have hP : va_P D vwCl (cw_X2_bestSaucer cI h h_fitting h_tally f_fitting u26_0 f_count) H := hP
          have hD : va_D A (cw_X2_bestSaucer cI h h_fitting h_tally f_fitting u26_0 f_count) := hD
          refine lv_aload_n hx hb dX2_bestSaucer_29 rfl (lv_at hl 0 rfl) ?_
          refine lv_iload_n hx hb dX2_bestSaucer_30 rfl (lv_at hl 1 rfl) ?_
          refine z_ri (z_runV (As := [.int x1]) (rest := [.int r26]) hF (c_X2_leftAtMost l D cI cC cZ h h_fitting h_tally f_fitting u26_0 f_count x1 _ _ hw) (cwV 1 hz (z_gV z3_61 z3_62 z3_63 z1_9 z3_64) rfl rfl rfl hd_X2_leftAtMost ⟨Nat.le_of_ble_eq_true rfl, Nat.le_of_ble_eq_true rfl⟩) hK hP hD [0, 1, 2] rfl rfl 0 2 rfl rfl rfl rfl hl.1 rfl (Nat.le_of_ble_eq_true rfl) dX2_bestSaucer_31 ⟨Nat.zero_le _, Nat.zero_le _⟩) hP hD hS hA [0, 1, 2] rfl (fun _ => rfl) (fun u => cw_X2_bestSaucer cI h h_fitting h_tally f_fitting u f_count) (fun _ => rfl) (fun r31 u31_0 H locs hw hP hD hS => ?_)
          try dsimp only at hw
          have hP : va_P D vwCl (cw_X2_bestSaucer cI h h_fitting h_tally f_fitting u31_0 f_count) H := hP
          have hD : va_D A (cw_X2_bestSaucer cI h h_fitting h_tally f_fitting u31_0 f_count) := hD
          refine lv_icmp_ge (tgt := 39) hx hb dX2_bestSaucer_34 (by decide) (fun c34 => ?_) (fun c34 => ?_)
          · have hw := hw.1 c34
            refine lv_iinc (k := 3) (v := (x3 + 1)) (lv' := [(3, .int (x3 + 1)), (0, .ref h), (1, .int x1), (2, .int x2)]) hx hb dX2_bestSaucer_39 hl rfl rfl (by decide) rfl (fun ls hl => ?_)
            refine lv_goto (tgt := 14) hx hb dX2_bestSaucer_42 (by decide) ?_
            exact ih14 u31_0 x1 x2 (x3 + 1) _ _ _ hw hP hD hS (lv_sub hl [1, 2, 3, 0] rfl)
          have hw := hw.2 c34
          refine lv_iload_n hx hb dX2_bestSaucer_37 rfl (lv_at hl 3 rfl) ?_
          refine lv_istore_n (lv' := [(1, .int x3), (0, .ref h), (2, .int x2), (3, .int x3)]) hx hb dX2_bestSaucer_38 rfl hl (by decide) rfl (fun ls hl => ?_)
          refine lv_iinc (k := 3) (v := (x3 + 1)) (lv' := [(3, .int (x3 + 1)), (1, .int x3), (0, .ref h), (2, .int x2)]) hx hb dX2_bestSaucer_39 hl rfl rfl (by decide) rfl (fun ls hl => ?_)
          refine lv_goto (tgt := 14) hx hb dX2_bestSaucer_42 (by decide) ?_
          exact ih14 u31_0 x3 x2 (x3 + 1) _ _ _ hw hP hD hS (lv_sub hl [2, 1, 3, 0] rfl)
      intro f_tally x1 x2 H locs ls hw hP hD hS hl
      unfold w_X2_bestSaucer_B4 at hw
      refine lv_iload_n hx hb dX2_bestSaucer_4 rfl (lv_at hl 2 rfl) ?_
      refine lv_iconst (v := (3 : Int32)) hx hb dX2_bestSaucer_5 (by decide) ?_
      refine lv_icmp_gt (tgt := 51) hx hb dX2_bestSaucer_6 (by decide) (fun c6 => ?_) (fun c6 => ?_)
      · have hw := hw.1 c6
        refine lv_iload_n hx hb dX2_bestSaucer_51 rfl (lv_at hl 1 rfl) ?_
        exact z_iret hx hb hr hlocks f_tally hw hP hS dX2_bestSaucer_52
      have hw := hw.2 c6
      refine lv_bipush (v := (10 : Int32)) hx hb dX2_bestSaucer_9 (by decide) ?_
      refine lv_iload_n hx hb dX2_bestSaucer_11 rfl (lv_at hl 2 rfl) ?_
      refine lv_imul hx hb dX2_bestSaucer_12 ?_
      refine lv_istore_n (lv' := [(3, .int ((10 : Int32) * x2)), (0, .ref h), (1, .int x1), (2, .int x2)]) hx hb dX2_bestSaucer_13 rfl hl (by decide) rfl (fun ls hl => ?_)
      obtain ⟨n14, hw⟩ := hw
      exact L14 n14 f_tally x1 x2 ((10 : Int32) * x2) _ _ _ hw hP hD hS (lv_sub hl [1, 2, 3, 0] rfl)
  unfold w_X2_bestSaucer at hw
  refine lv_iconst (v := (0 : Int32)) hx hb dX2_bestSaucer_0 (by decide) ?_
  refine lv_istore_n (lv' := [(1, .int (0 : Int32)), (0, .ref h)]) hx hb dX2_bestSaucer_1 rfl hl (by decide) rfl (fun ls hl => ?_)
  refine lv_iconst (v := (0 : Int32)) hx hb dX2_bestSaucer_2 (by decide) ?_
  refine lv_istore_n (lv' := [(2, .int (0 : Int32)), (1, .int (0 : Int32)), (0, .ref h)]) hx hb dX2_bestSaucer_3 rfl hl (by decide) rfl (fun ls hl => ?_)
  obtain ⟨n4, hw⟩ := hw
  exact L4 n4 f_tally (0 : Int32) (0 : Int32) _ _ _ hw hP hD hS (lv_sub hl [2, 1, 0] rfl)
abbrev cw_X8_ask (cI : ClassId) (h h_world h_world_sights h_world_sights_saucers h_world_sights_losses h_guesses h_guesses_fitting h_guesses_tally : Nat) (g_images g_pad g_hearing g_bowls g_world_court g_world_town : Value) (f_world_sights_saucers : Nat → Int32) (f_world_sights_losses : Nat → Int32) (f_world_sights_count : Int32) (f_guesses_fitting : Nat → Int32) (f_guesses_tally : Nat → Int32) (f_guesses_count : Int32) : va_W := [(h, .inr (8, [.ref h_world, g_images, g_pad, g_hearing, g_bowls, .ref h_guesses])), (h_world, .inr (7, [g_world_court, g_world_town, .ref h_world_sights])), (h_world_sights, .inr (5, [.ref h_world_sights_saucers, .ref h_world_sights_losses, .int f_world_sights_count])), (h_world_sights_saucers, .inl (cI, 8, .inl f_world_sights_saucers)), (h_world_sights_losses, .inl (cI, 8, .inl f_world_sights_losses)), (h_guesses, .inr (2, [.ref h_guesses_fitting, .ref h_guesses_tally, .int f_guesses_count])), (h_guesses_fitting, .inl (cI, 100, .inl f_guesses_fitting)), (h_guesses_tally, .inl (cI, 46, .inl f_guesses_tally))]
abbrev q_X8_ask (D : va_G) (cI : ClassId) (h h_world h_world_sights h_world_sights_saucers h_world_sights_losses h_guesses h_guesses_fitting h_guesses_tally : Nat) (g_images g_pad g_hearing g_bowls g_world_court g_world_town : Value) (post : Int32 → (Nat → Int32) → (Nat → Int32) → Int32 → Prop) (f_world_sights_saucers : Nat → Int32) (f_world_sights_losses : Nat → Int32) (f_world_sights_count : Int32) (A : Nat → Prop) : Array Value → State → Outcome → State → Prop := va_Qi (S := (Nat → Int32) × (Nat → Int32) × Int32) (fun r u => post r u.1 u.2.1 u.2.2) (fun u t => va_P D vwCl (cw_X8_ask cI h h_world h_world_sights h_world_sights_saucers h_world_sights_losses h_guesses h_guesses_fitting h_guesses_tally g_images g_pad g_hearing g_bowls g_world_court g_world_town f_world_sights_saucers f_world_sights_losses f_world_sights_count u.1 u.2.1 u.2.2) t.heap) A
abbrev v_X8_ask : List Cond := .code yX8_ask cX8_ask 3 (some .int) :: zB
theorem hd_X8_ask : yX8_ask.cls = RX8 ∧ yX8_ask.cls ≠ "java/lang/invoke/MethodHandle" ∧ yX8_ask.cls ≠ "java/lang/invoke/VarHandle" ∧ (parseMethodDescriptor yX8_ask.desc).map (fun d => d.parameters.length) = some 1 := by decide +kernel
set_option maxHeartbeats 4000000 in
set_option maxRecDepth 100000 in
theorem c_X8_ask (l : Launch) (D : va_G) (cI cC cZ : ClassId) (h h_world h_world_sights h_world_sights_saucers h_world_sights_losses h_guesses h_guesses_fitting h_guesses_tally : Nat) (g_images g_pad g_hearing g_bowls g_world_court g_world_town : Value) (f_world_sights_saucers : Nat → Int32) (f_world_sights_losses : Nat → Int32) (f_world_sights_count : Int32) (f_guesses_fitting : Nat → Int32) (f_guesses_tally : Nat → Int32) (f_guesses_count : Int32) (p1 : Int32) (sz : Nat) (post : Int32 → (Nat → Int32) → (Nat → Int32) → Int32 → Prop) (hw : w_X8_ask post f_world_sights_saucers f_world_sights_losses f_world_sights_count f_guesses_fitting f_guesses_tally f_guesses_count p1) : Met l yX8_ask v_X8_ask ({ frames := 4, cells := 0, slots := 0, locals := 91 } : Room) (va_Pc [.ref h, .int p1] (zPre D (zT cI cC cZ) sz (cw_X8_ask cI h h_world h_world_sights h_world_sights_saucers h_world_sights_losses h_guesses h_guesses_fitting h_guesses_tally g_images g_pad g_hearing g_bowls g_world_court g_world_town f_world_sights_saucers f_world_sights_losses f_world_sights_count f_guesses_fitting f_guesses_tally f_guesses_count))) (q_X8_ask D cI h h_world h_world_sights h_world_sights_saucers h_world_sights_losses h_guesses h_guesses_fitting h_guesses_tally g_images g_pad g_hearing g_bowls g_world_court g_world_town post f_world_sights_saucers f_world_sights_losses f_world_sights_count (va_A (cw_X8_ask cI h h_world h_world_sights h_world_sights_saucers h_world_sights_losses h_guesses h_guesses_fitting h_guesses_tally g_images g_pad g_hearing g_bowls g_world_court g_world_town f_world_sights_saucers f_world_sights_losses f_world_sights_count f_guesses_fitting f_guesses_tally f_guesses_count) sz)) 0 0 (va_A (cw_X8_ask cI h h_world h_world_sights h_world_sights_saucers h_world_sights_losses h_guesses h_guesses_fitting h_guesses_tally g_images g_pad g_hearing g_bowls g_world_court g_world_town f_world_sights_saucers f_world_sights_losses f_world_sights_count f_guesses_fitting f_guesses_tally f_guesses_count) sz) := by
  refine Met.ofW (cc := cX8_ask) (maxL := 3) (ret := (some .int)) (by decide) rfl ?_
  intro p e s m args below meth c s₁ B hml hv
  obtain ⟨rfl, hsz, hP, hK, hD0⟩ := hv
  subst hsz
  have hx := B.exec
  have hb := B.bytes
  have hr := B.returns
  have hz : ∀ w ∈ zB, w.before _ s = true := fun w h => atoms_spec (ws := v_X8_ask) B.pre w (List.mem_cons_of_mem _ h)
  have hown : s.vm.findClass RX8 = some m.cls := findClass_of_methodNamed B.named
  have hlocks := B.notSynchronized
  have hF : CallFix p m c cX8_ask 3 s (([.ref h, .int p1] : List Value).toArray) zB RX8 := ⟨hx, hb, hml, hown, hz⟩
  have hD := hD0.self (sz := s.heap.size)
  generalize hAe : va_A (cw_X8_ask cI h h_world h_world_sights h_world_sights_saucers h_world_sights_losses h_guesses h_guesses_fitting h_guesses_tally g_images g_pad g_hearing g_bowls g_world_court g_world_town f_world_sights_saucers f_world_sights_losses f_world_sights_count f_guesses_fitting f_guesses_tally f_guesses_count) s.heap.size = A at hD ⊢
  have hA : ∀ q : Nat, s.heap.size ≤ q → A q := fun q h => by rw [← hAe]; exact Or.inr h
  have hS : va_S A s.heap s.heap [] := va_S.rf
  have hP : va_P D vwCl (cw_X8_ask cI h h_world h_world_sights h_world_sights_saucers h_world_sights_losses h_guesses h_guesses_fitting h_guesses_tally g_images g_pad g_hearing g_bowls g_world_court g_world_town f_world_sights_saucers f_world_sights_losses f_world_sights_count f_guesses_fitting f_guesses_tally f_guesses_count) s.heap := hP
  have hl := lv_entry ([.ref h, .int p1]) (n := 3) (Nat.le_of_ble_eq_true rfl)
  rw [lg_entry_eq]
  generalize (lg_sl ([.ref h, .int p1]) ++ List.replicate (3 - (lg_sl ([.ref h, .int p1])).length) Slot.unset).toArray = ls at hl ⊢
  have hl : lv_has ls 3 [(0, .ref h), (1, .int p1)] := hl
  unfold w_X8_ask at hw
  refine lv_iload_n hx hb dX8_ask_0 rfl (lv_at hl 1 rfl) ?_
  refine lv_iconst (v := (0 : Int32)) hx hb dX8_ask_1 (by decide) ?_
  refine lv_iconst (v := (1 : Int32)) hx hb dX8_ask_2 (by decide) ?_
  refine z_ri (z_runS (As := [.int p1, .int (0 : Int32), .int (1 : Int32)]) (rest := []) hF (c_X8_within l D cI cC cZ p1 (0 : Int32) (1 : Int32) _ _ hw) (va_cwS 3 hz (z_gS z1_212 z1_213 z1_1 z1_214) rfl rfl rfl hd_X8_within ⟨Nat.le_of_ble_eq_true rfl, Nat.le_of_ble_eq_true rfl⟩) hK hP hD [] rfl rfl rfl hl.1 rfl (Nat.le_of_ble_eq_true rfl) dX8_ask_3 ⟨Nat.zero_le _, Nat.zero_le _⟩) hP hD hS hA [] rfl (fun _ => rfl) (fun _ => cw_X8_ask cI h h_world h_world_sights h_world_sights_saucers h_world_sights_losses h_guesses h_guesses_fitting h_guesses_tally g_images g_pad g_hearing g_bowls g_world_court g_world_town f_world_sights_saucers f_world_sights_losses f_world_sights_count f_guesses_fitting f_guesses_tally f_guesses_count) (fun _ => rfl) (fun r3 u3 H locs hw hP hD hS => ?_)
  obtain ⟨hn3, hw⟩ := hw
  try dsimp only at hw
  refine lv_if_ne (tgt := 12) hx hb dX8_ask_6 (by decide) (fun c6 => ?_) (fun c6 => ?_)
  · have hw := hw.2 c6
    refine lv_aload_n hx hb dX8_ask_12 rfl (lv_at hl 0 rfl) ?_
    refine va_get (D := D) (ci := 8) (v := .ref h_guesses) (C := RX8) (T := TX8) (N := 6) hx hb hz hX_X8 hown hK.1 hP 0 rfl rfl 5 (by decide) (hz _ z1_188) (fun _ h9 => h9) rfl dX8_ask_13 ?_
    refine lv_aload_n hx hb dX8_ask_16 rfl (lv_at hl 0 rfl) ?_
    refine va_get (D := D) (ci := 8) (v := .ref h_world) (C := RX8) (T := TX8) (N := 6) hx hb hz hX_X8 hown hK.1 hP 0 rfl rfl 0 (by decide) (hz _ z1_183) (fun _ h9 => h9) rfl dX8_ask_17 ?_
    refine va_getN (D := D) (ci := 7) (v := .ref h_world_sights) (C := RX7) (T := TX7) (N := 3) hx hb hz hX_X7 hown hK.1 hP 1 rfl rfl 2 (by decide) (va_Nw.use rfl (hK.2.1 _ (List.mem_of_getElem? (i := 9) rfl))) (fun _ h9 => h9) rfl dX8_ask_20 ?_
    refine z_rv (z_runV (As := [.ref h_world_sights]) (rest := []) hF (c_X2_gather l D cI cC cZ h_guesses h_guesses_fitting h_world_sights h_world_sights_saucers h_world_sights_losses (.ref h_guesses_tally) f_guesses_fitting f_guesses_count f_world_sights_saucers f_world_sights_losses f_world_sights_count _ _ hw) (cwV 1 hz (z_gV z3_37 z3_38 z3_39 z1_9 z3_40) rfl rfl rfl hd_X2_gather ⟨Nat.le_of_ble_eq_true rfl, Nat.le_of_ble_eq_true rfl⟩) hK hP hD [5, 6, 2, 3, 4] rfl rfl 5 2 rfl rfl rfl rfl hl.1 rfl (Nat.le_of_ble_eq_true rfl) dX8_ask_23 ⟨Nat.zero_le _, Nat.zero_le _⟩) hP hD hS hA [5, 6, 2, 3, 4] rfl (fun _ => rfl) (fun u => cw_X8_ask cI h h_world h_world_sights h_world_sights_saucers h_world_sights_losses h_guesses h_guesses_fitting h_guesses_tally g_images g_pad g_hearing g_bowls g_world_court g_world_town f_world_sights_saucers f_world_sights_losses f_world_sights_count u.1 f_guesses_tally u.2) (fun _ => rfl) (fun u23 H locs hw hP hD hS => ?_)
    obtain ⟨u23_0, u23_1⟩ := u23
    try dsimp only at hw
    have hP : va_P D vwCl (cw_X8_ask cI h h_world h_world_sights h_world_sights_saucers h_world_sights_losses h_guesses h_guesses_fitting h_guesses_tally g_images g_pad g_hearing g_bowls g_world_court g_world_town f_world_sights_saucers f_world_sights_losses f_world_sights_count u23_0 f_guesses_tally u23_1) H := hP
    have hD : va_D A (cw_X8_ask cI h h_world h_world_sights h_world_sights_saucers h_world_sights_losses h_guesses h_guesses_fitting h_guesses_tally g_images g_pad g_hearing g_bowls g_world_court g_world_town f_world_sights_saucers f_world_sights_losses f_world_sights_count u23_0 f_guesses_tally u23_1) := hD
    refine lv_aload_n hx hb dX8_ask_26 rfl (lv_at hl 0 rfl) ?_
    refine va_get (D := D) (ci := 8) (v := .ref h_guesses) (C := RX8) (T := TX8) (N := 6) hx hb hz hX_X8 hown hK.1 hP 0 rfl rfl 5 (by decide) (hz _ z1_188) (fun _ h9 => h9) rfl dX8_ask_27 ?_
    refine va_getN (D := D) (ci := 2) (v := .int u23_1) (C := RX2) (T := TX2) (N := 3) hx hb hz hX_X2 hown hK.1 hP 5 rfl rfl 2 (by decide) (va_Nw.use rfl (hK.2.1 _ (List.mem_of_getElem? (i := 17) rfl))) (fun _ h9 => h9) rfl dX8_ask_30 ?_
    refine lv_if_ne (tgt := 39) hx hb dX8_ask_33 (by decide) (fun c33 => ?_) (fun c33 => ?_)
    · have hw := hw.2 c33
      refine lv_aload_n hx hb dX8_ask_39 rfl (lv_at hl 0 rfl) ?_
      refine va_get (D := D) (ci := 8) (v := .ref h_guesses) (C := RX8) (T := TX8) (N := 6) hx hb hz hX_X8 hown hK.1 hP 0 rfl rfl 5 (by decide) (hz _ z1_188) (fun _ h9 => h9) rfl dX8_ask_40 ?_
      refine z_ri (z_runV (As := []) (rest := []) hF (c_X2_bestSaucer l D cI cC cZ h_guesses h_guesses_fitting h_guesses_tally u23_0 f_guesses_tally u23_1 _ _ hw) (cwV 0 hz (z_gV z3_57 z3_58 z3_59 z1_9 z3_60) rfl rfl rfl hd_X2_bestSaucer ⟨Nat.le_of_ble_eq_true rfl, Nat.le_of_ble_eq_true rfl⟩) hK hP hD [5, 6, 7] rfl rfl 5 2 rfl rfl rfl rfl hl.1 rfl (Nat.le_of_ble_eq_true rfl) dX8_ask_43 ⟨Nat.zero_le _, Nat.zero_le _⟩) hP hD hS hA [5, 6, 7] rfl (fun _ => rfl) (fun u => cw_X8_ask cI h h_world h_world_sights h_world_sights_saucers h_world_sights_losses h_guesses h_guesses_fitting h_guesses_tally g_images g_pad g_hearing g_bowls g_world_court g_world_town f_world_sights_saucers f_world_sights_losses f_world_sights_count u23_0 u u23_1) (fun _ => rfl) (fun r43 u43_0 H locs hw hP hD hS => ?_)
      try dsimp only at hw
      have hP : va_P D vwCl (cw_X8_ask cI h h_world h_world_sights h_world_sights_saucers h_world_sights_losses h_guesses h_guesses_fitting h_guesses_tally g_images g_pad g_hearing g_bowls g_world_court g_world_town f_world_sights_saucers f_world_sights_losses f_world_sights_count u23_0 u43_0 u23_1) H := hP
      have hD : va_D A (cw_X8_ask cI h h_world h_world_sights h_world_sights_saucers h_world_sights_losses h_guesses h_guesses_fitting h_guesses_tally g_images g_pad g_hearing g_bowls g_world_court g_world_town f_world_sights_saucers f_world_sights_losses f_world_sights_count u23_0 u43_0 u23_1) := hD
      refine lv_istore_n (lv' := [(2, .int r43), (0, .ref h), (1, .int p1)]) hx hb dX8_ask_46 rfl hl (by decide) rfl (fun ls hl => ?_)
      refine lv_iload_n hx hb dX8_ask_47 rfl (lv_at hl 2 rfl) ?_
      refine lv_if_ne (tgt := 55) hx hb dX8_ask_48 (by decide) (fun c48 => ?_) (fun c48 => ?_)
      · have hw := hw.2 c48
        refine lv_aload_n hx hb dX8_ask_55 rfl (lv_at hl 1 rfl) ?_
        refine va_get (D := D) (ci := 8) (v := .ref h_guesses) (C := RX8) (T := TX8) (N := 6) hx hb hz hX_X8 hown hK.1 hP 0 rfl rfl 5 (by decide) (hz _ z1_188) (fun _ h9 => h9) rfl dX8_ask_56 ?_
        refine lv_iload_n hx hb dX8_ask_59 rfl (lv_at hl 0 rfl) ?_
        refine z_ri (z_runV (As := [.int r43]) (rest := []) hF (c_X2_leftAtMost l D cI cC cZ h_guesses h_guesses_fitting h_guesses_tally u23_0 u43_0 u23_1 r43 _ _ hw) (cwV 1 hz (z_gV z3_71 z3_62 z3_63 z1_9 z3_64) rfl rfl rfl hd_X2_leftAtMost ⟨Nat.le_of_ble_eq_true rfl, Nat.le_of_ble_eq_true rfl⟩) hK hP hD [5, 6, 7] rfl rfl 5 2 rfl rfl rfl rfl hl.1 rfl (Nat.le_of_ble_eq_true rfl) dX8_ask_60 ⟨Nat.zero_le _, Nat.zero_le _⟩) hP hD hS hA [5, 6, 7] rfl (fun _ => rfl) (fun u => cw_X8_ask cI h h_world h_world_sights h_world_sights_saucers h_world_sights_losses h_guesses h_guesses_fitting h_guesses_tally g_images g_pad g_hearing g_bowls g_world_court g_world_town f_world_sights_saucers f_world_sights_losses f_world_sights_count u23_0 u u23_1) (fun _ => rfl) (fun r60 u60_0 H locs hw hP hD hS => ?_)
        try dsimp only at hw
        have hP : va_P D vwCl (cw_X8_ask cI h h_world h_world_sights h_world_sights_saucers h_world_sights_losses h_guesses h_guesses_fitting h_guesses_tally g_images g_pad g_hearing g_bowls g_world_court g_world_town f_world_sights_saucers f_world_sights_losses f_world_sights_count u23_0 u60_0 u23_1) H := hP
        have hD : va_D A (cw_X8_ask cI h h_world h_world_sights h_world_sights_saucers h_world_sights_losses h_guesses h_guesses_fitting h_guesses_tally g_images g_pad g_hearing g_bowls g_world_court g_world_town f_world_sights_saucers f_world_sights_losses f_world_sights_count u23_0 u60_0 u23_1) := hD
        exact z_iret hx hb hr hlocks (u23_0, u60_0, u23_1) hw hP hS dX8_ask_63
      have hw := hw.1 c48
      refine lv_iload_n hx hb dX8_ask_51 rfl (lv_at hl 0 rfl) ?_
      refine lv_goto (tgt := 63) hx hb dX8_ask_52 (by decide) ?_
      exact z_iret hx hb hr hlocks (u23_0, u43_0, u23_1) hw hP hS dX8_ask_63
    have hw := hw.1 c33
    refine lv_bipush (v := (-6 : Int32)) hx hb dX8_ask_36 (by decide) ?_
    exact z_iret hx hb hr hlocks (u23_0, f_guesses_tally, u23_1) hw hP hS dX8_ask_38
  have hw := hw.1 c6
  refine lv_bipush (v := (-2 : Int32)) hx hb dX8_ask_9 (by decide) ?_
  exact z_iret hx hb hr hlocks (f_guesses_fitting, f_guesses_tally, f_guesses_count) hw hP hS dX8_ask_11
abbrev cw_X8_nextWins : va_W := []
abbrev q_X8_nextWins (D : va_G) (post : Int32 → Prop) (A : Nat → Prop) : Array Value → State → Outcome → State → Prop := va_Qi (S := Unit) (fun r _ => narrow .boolean (.int r) = .int r ∧ post r ) (fun _ t => va_P D vwCl (cw_X8_nextWins) t.heap) A
abbrev v_X8_nextWins : List Cond := .code yX8_nextWins cX8_nextWins 7 (some .boolean) :: zB
theorem hd_X8_nextWins : yX8_nextWins.cls ≠ "java/lang/invoke/MethodHandle" ∧ yX8_nextWins.cls ≠ "java/lang/invoke/VarHandle" ∧ (parseMethodDescriptor yX8_nextWins.desc).map (fun d => d.parameters.length) = some 2 := by decide +kernel
set_option maxHeartbeats 4000000 in
set_option maxRecDepth 100000 in
theorem c_X8_nextWins (l : Launch) (D : va_G) (cI cC cZ : ClassId) (p0 : Int32) (p1 : Int32) (sz : Nat) (post : Int32 → Prop) (hw : w_X8_nextWins post p0 p1) : Met l yX8_nextWins v_X8_nextWins ({ frames := 0, cells := 0, slots := 0, locals := 0 } : Room) (va_Pc [.int p0, .int p1] (zPre D (zT cI cC cZ) sz (cw_X8_nextWins))) (q_X8_nextWins D post (va_A (cw_X8_nextWins) sz)) 0 0 (va_A (cw_X8_nextWins) sz) := by
  refine Met.ofW (cc := cX8_nextWins) (maxL := 7) (ret := (some .boolean)) (by decide) rfl ?_
  intro p e s m args below meth c s₁ B hml hv
  obtain ⟨rfl, hsz, hP, hK, hD0⟩ := hv
  subst hsz
  have hx := B.exec
  have hb := B.bytes
  have hr := B.returns
  have hz : ∀ w ∈ zB, w.before _ s = true := fun w h => atoms_spec (ws := v_X8_nextWins) B.pre w (List.mem_cons_of_mem _ h)
  have hown : s.vm.findClass RX8 = some m.cls := findClass_of_methodNamed B.named
  have hlocks := B.notSynchronized
  have hF : CallFix p m c cX8_nextWins 7 s (([.int p0, .int p1] : List Value).toArray) zB RX8 := ⟨hx, hb, hml, hown, hz⟩
  have hD := hD0.self (sz := s.heap.size)
  generalize hAe : va_A (cw_X8_nextWins) s.heap.size = A at hD ⊢
  have hA : ∀ q : Nat, s.heap.size ≤ q → A q := fun q h => by rw [← hAe]; exact Or.inr h
  have hS : va_S A s.heap s.heap [] := va_S.rf
  have hP : va_P D vwCl (cw_X8_nextWins) s.heap := hP
  have hl := lv_entry ([.int p0, .int p1]) (n := 7) (Nat.le_of_ble_eq_true rfl)
  rw [lg_entry_eq]
  generalize (lg_sl ([.int p0, .int p1]) ++ List.replicate (7 - (lg_sl ([.int p0, .int p1])).length) Slot.unset).toArray = ls at hl ⊢
  have hl : lv_has ls 7 [(0, .int p0), (1, .int p1)] := hl
  have J59 : ∀ (x4 : Int32) (H : Heap) (locs : List Loc) (ls : Array Slot) (hw : w_X8_nextWins_B59 post p0 p1 x4) (hP : va_P D vwCl (cw_X8_nextWins) H) (hD : va_D A (cw_X8_nextWins)) (hS : va_S A s.heap H locs) (hl : lv_has ls 7 [(4, .int x4)]), W p l e (headSpec v_X8_nextWins ({ frames := 0, cells := 0, slots := 0, locals := 0 } : Room)).room s m (([.int p0, .int p1] : List Value).toArray) below meth c H locs 0 0 (MQ below (q_X8_nextWins D post A) (([.int p0, .int p1] : List Value).toArray) s 0 0 A) (F0 m 59 ls []) := by
    intro x4 H locs ls hw hP hD hS hl
    unfold w_X8_nextWins_B59 at hw
    refine lv_iload hx hb dX8_nextWins_59 (lv_at hl 0 rfl) ?_
    refine lv_if_ne (tgt := 68) hx hb dX8_nextWins_61 (by decide) (fun c61 => ?_) (fun c61 => ?_)
    · have hw := hw.2 c61
      refine lv_iconst (v := (0 : Int32)) hx hb dX8_nextWins_68 (by decide) ?_
      exact z_zret hx hb hr hlocks rfl () hw hP hS dX8_nextWins_69
    have hw := hw.1 c61
    refine lv_iconst (v := (1 : Int32)) hx hb dX8_nextWins_64 (by decide) ?_
    refine lv_goto (tgt := 69) hx hb dX8_nextWins_65 (by decide) ?_
    exact z_zret hx hb hr hlocks rfl () hw hP hS dX8_nextWins_69
  have L10 : ∀ (n10 : Nat) (x2 : Int32) (x3 : Int32) (x4 : Int32) (x5 : Int32) (H : Heap) (locs : List Loc) (ls : Array Slot) (hw : w_X8_nextWins_B10 post p0 p1 n10 x2 x3 x4 x5) (hP : va_P D vwCl (cw_X8_nextWins) H) (hD : va_D A (cw_X8_nextWins)) (hS : va_S A s.heap H locs) (hl : lv_has ls 7 [(2, .int x2), (3, .int x3), (4, .int x4), (5, .int x5)]), W p l e (headSpec v_X8_nextWins ({ frames := 0, cells := 0, slots := 0, locals := 0 } : Room)).room s m (([.int p0, .int p1] : List Value).toArray) below meth c H locs 0 0 (MQ below (q_X8_nextWins D post A) (([.int p0, .int p1] : List Value).toArray) s 0 0 A) (F0 m 10 ls []) := by
    intro n10
    induction n10 with
    | zero => intro x2 x3 x4 x5 H locs ls hw; exact False.elim hw
    | succ n10 ih10 =>
      have J51 : ∀ (x2 : Int32) (x3 : Int32) (x5 : Int32) (s0 : Int32) (H : Heap) (locs : List Loc) (ls : Array Slot) (hw : w_X8_nextWins_B51 post p0 p1 (fun x2 x3 x4 x5 => w_X8_nextWins_B10 post p0 p1 n10 x2 x3 x4 x5) x2 x3 x5 s0) (hP : va_P D vwCl (cw_X8_nextWins) H) (hD : va_D A (cw_X8_nextWins)) (hS : va_S A s.heap H locs) (hl : lv_has ls 7 [(2, .int x2), (3, .int x3), (5, .int x5)]), W p l e (headSpec v_X8_nextWins ({ frames := 0, cells := 0, slots := 0, locals := 0 } : Room)).room s m (([.int p0, .int p1] : List Value).toArray) below meth c H locs 0 0 (MQ below (q_X8_nextWins D post A) (([.int p0, .int p1] : List Value).toArray) s 0 0 A) (F0 m 51 ls [.int s0]) := by
        intro x2 x3 x5 s0 H locs ls hw hP hD hS hl
        unfold w_X8_nextWins_B51 at hw
        refine lv_istore (lv' := [(4, .int s0), (2, .int x2), (3, .int x3), (5, .int x5)]) hx hb dX8_nextWins_51 hl (by decide) rfl (fun ls hl => ?_)
        refine lv_iinc (k := 3) (v := (x5 + 1)) (lv' := [(5, .int (x5 + 1)), (4, .int s0), (2, .int x2), (3, .int x3)]) hx hb dX8_nextWins_53 hl rfl rfl (by decide) rfl (fun ls hl => ?_)
        refine lv_goto (tgt := 10) hx hb dX8_nextWins_56 (by decide) ?_
        exact ih10 x2 x3 s0 (x5 + 1) _ _ _ hw hP hD hS (lv_sub hl [2, 3, 1, 0] rfl)
      intro x2 x3 x4 x5 H locs ls hw hP hD hS hl
      unfold w_X8_nextWins_B10 at hw
      refine lv_iload hx hb dX8_nextWins_10 (lv_at hl 3 rfl) ?_
      refine lv_bipush (v := (99 : Int32)) hx hb dX8_nextWins_12 (by decide) ?_
      refine lv_icmp_gt (tgt := 59) hx hb dX8_nextWins_14 (by decide) (fun c14 => ?_) (fun c14 => ?_)
      · have hw := hw.1 c14
        exact J59 x4 _ _ _ hw hP hD hS (lv_sub hl [2] rfl)
      have hw := hw.2 c14
      refine lv_iload_n hx hb dX8_nextWins_17 rfl (lv_at hl 1 rfl) ?_
      refine lv_if_le (tgt := 59) hx hb dX8_nextWins_18 (by decide) (fun c18 => ?_) (fun c18 => ?_)
      · have hw := hw.1 c18
        exact J59 x4 _ _ _ hw hP hD hS (lv_sub hl [2] rfl)
      have hw := hw.2 c18
      refine lv_iload_n hx hb dX8_nextWins_21 rfl (lv_at hl 0 rfl) ?_
      refine lv_iload_n hx hb dX8_nextWins_22 rfl (lv_at hl 1 rfl) ?_
      obtain ⟨hz23, hw⟩ := hw
      refine lv_idiv hx hb dX8_nextWins_23 hz23 ?_
      refine lv_iconst (v := (2 : Int32)) hx hb dX8_nextWins_24 (by decide) ?_
      refine lv_icmp_lt (tgt := 31) hx hb dX8_nextWins_25 (by decide) (fun c25 => ?_) (fun c25 => ?_)
      · have hw := hw.1 c25
        refine lv_iload_n hx hb dX8_nextWins_31 rfl (lv_at hl 0 rfl) ?_
        refine lv_iload_n hx hb dX8_nextWins_32 rfl (lv_at hl 1 rfl) ?_
        refine lv_isub hx hb dX8_nextWins_33 ?_
        refine lv_istore (lv' := [(6, .int (x2 - x3)), (2, .int x2), (3, .int x3), (4, .int x4), (5, .int x5)]) hx hb dX8_nextWins_34 hl (by decide) rfl (fun ls hl => ?_)
        refine lv_iload_n hx hb dX8_nextWins_36 rfl (lv_at hl 2 rfl) ?_
        refine lv_istore_n (lv' := [(2, .int x3), (6, .int (x2 - x3)), (3, .int x3), (4, .int x4), (5, .int x5)]) hx hb dX8_nextWins_37 rfl hl (by decide) rfl (fun ls hl => ?_)
        refine lv_iload hx hb dX8_nextWins_38 (lv_at hl 1 rfl) ?_
        refine lv_istore_n (lv' := [(3, .int (x2 - x3)), (2, .int x3), (6, .int (x2 - x3)), (4, .int x4), (5, .int x5)]) hx hb dX8_nextWins_40 rfl hl (by decide) rfl (fun ls hl => ?_)
        refine lv_iload hx hb dX8_nextWins_41 (lv_at hl 3 rfl) ?_
        refine lv_if_ne (tgt := 50) hx hb dX8_nextWins_43 (by decide) (fun c43 => ?_) (fun c43 => ?_)
        · have hw := hw.2 c43
          refine lv_iconst (v := (0 : Int32)) hx hb dX8_nextWins_50 (by decide) ?_
          exact J51 x3 (x2 - x3) x5 (0 : Int32) _ _ _ hw hP hD hS (lv_sub hl [1, 0, 4] rfl)
        have hw := hw.1 c43
        refine lv_iconst (v := (1 : Int32)) hx hb dX8_nextWins_46 (by decide) ?_
        refine lv_goto (tgt := 51) hx hb dX8_nextWins_47 (by decide) ?_
        exact J51 x3 (x2 - x3) x5 (1 : Int32) _ _ _ hw hP hD hS (lv_sub hl [1, 0, 4] rfl)
      have hw := hw.2 c25
      refine lv_iload hx hb dX8_nextWins_28 (lv_at hl 2 rfl) ?_
      obtain ⟨hn, hw⟩ := hw
      exact z_zret hx hb hr hlocks hn () hw hP hS dX8_nextWins_30
  unfold w_X8_nextWins at hw
  refine lv_iload_n hx hb dX8_nextWins_0 rfl (lv_at hl 0 rfl) ?_
  refine lv_istore_n (lv' := [(2, .int p0), (0, .int p0), (1, .int p1)]) hx hb dX8_nextWins_1 rfl hl (by decide) rfl (fun ls hl => ?_)
  refine lv_iload_n hx hb dX8_nextWins_2 rfl (lv_at hl 2 rfl) ?_
  refine lv_istore_n (lv' := [(3, .int p1), (2, .int p0), (0, .int p0), (1, .int p1)]) hx hb dX8_nextWins_3 rfl hl (by decide) rfl (fun ls hl => ?_)
  refine lv_iconst (v := (1 : Int32)) hx hb dX8_nextWins_4 (by decide) ?_
  refine lv_istore (lv' := [(4, .int (1 : Int32)), (3, .int p1), (2, .int p0), (0, .int p0), (1, .int p1)]) hx hb dX8_nextWins_5 hl (by decide) rfl (fun ls hl => ?_)
  refine lv_iconst (v := (0 : Int32)) hx hb dX8_nextWins_7 (by decide) ?_
  refine lv_istore (lv' := [(5, .int (0 : Int32)), (4, .int (1 : Int32)), (3, .int p1), (2, .int p0), (0, .int p0), (1, .int p1)]) hx hb dX8_nextWins_8 hl (by decide) rfl (fun ls hl => ?_)
  obtain ⟨n10, hw⟩ := hw
  exact L10 n10 p0 p1 (1 : Int32) (0 : Int32) _ _ _ hw hP hD hS (lv_sub hl [3, 2, 1, 0] rfl)
abbrev cw_X8_leastWinningTimes : va_W := []
abbrev q_X8_leastWinningTimes (D : va_G) (post : Int32 → Prop) (A : Nat → Prop) : Array Value → State → Outcome → State → Prop := va_Qi (S := Unit) (fun r _ => post r ) (fun _ t => va_P D vwCl (cw_X8_leastWinningTimes) t.heap) A
abbrev v_X8_leastWinningTimes : List Cond := .code yX8_leastWinningTimes cX8_leastWinningTimes 4 (some .int) :: zB
theorem hd_X8_leastWinningTimes : yX8_leastWinningTimes.cls ≠ "java/lang/invoke/MethodHandle" ∧ yX8_leastWinningTimes.cls ≠ "java/lang/invoke/VarHandle" ∧ (parseMethodDescriptor yX8_leastWinningTimes.desc).map (fun d => d.parameters.length) = some 2 := by decide +kernel
set_option maxHeartbeats 4000000 in
set_option maxRecDepth 100000 in
theorem c_X8_leastWinningTimes (l : Launch) (D : va_G) (cI cC cZ : ClassId) (p0 : Int32) (p1 : Int32) (sz : Nat) (post : Int32 → Prop) (hw : w_X8_leastWinningTimes post p0 p1) : Met l yX8_leastWinningTimes v_X8_leastWinningTimes ({ frames := 1, cells := 0, slots := 0, locals := 30 } : Room) (va_Pc [.int p0, .int p1] (zPre D (zT cI cC cZ) sz (cw_X8_leastWinningTimes))) (q_X8_leastWinningTimes D post (va_A (cw_X8_leastWinningTimes) sz)) 0 0 (va_A (cw_X8_leastWinningTimes) sz) := by
  refine Met.ofW (cc := cX8_leastWinningTimes) (maxL := 4) (ret := (some .int)) (by decide) rfl ?_
  intro p e s m args below meth c s₁ B hml hv
  obtain ⟨rfl, hsz, hP, hK, hD0⟩ := hv
  subst hsz
  have hx := B.exec
  have hb := B.bytes
  have hr := B.returns
  have hz : ∀ w ∈ zB, w.before _ s = true := fun w h => atoms_spec (ws := v_X8_leastWinningTimes) B.pre w (List.mem_cons_of_mem _ h)
  have hown : s.vm.findClass RX8 = some m.cls := findClass_of_methodNamed B.named
  have hlocks := B.notSynchronized
  have hF : CallFix p m c cX8_leastWinningTimes 4 s (([.int p0, .int p1] : List Value).toArray) zB RX8 := ⟨hx, hb, hml, hown, hz⟩
  have hD := hD0.self (sz := s.heap.size)
  generalize hAe : va_A (cw_X8_leastWinningTimes) s.heap.size = A at hD ⊢
  have hA : ∀ q : Nat, s.heap.size ≤ q → A q := fun q h => by rw [← hAe]; exact Or.inr h
  have hS : va_S A s.heap s.heap [] := va_S.rf
  have hP : va_P D vwCl (cw_X8_leastWinningTimes) s.heap := hP
  have hl := lv_entry ([.int p0, .int p1]) (n := 4) (Nat.le_of_ble_eq_true rfl)
  rw [lg_entry_eq]
  generalize (lg_sl ([.int p0, .int p1]) ++ List.replicate (4 - (lg_sl ([.int p0, .int p1])).length) Slot.unset).toArray = ls at hl ⊢
  have hl : lv_has ls 4 [(0, .int p0), (1, .int p1)] := hl
  have L9 : ∀ (n9 : Nat) (x2 : Int32) (H : Heap) (locs : List Loc) (ls : Array Slot) (hw : w_X8_leastWinningTimes_B9 post p0 p1 n9 x2) (hP : va_P D vwCl (cw_X8_leastWinningTimes) H) (hD : va_D A (cw_X8_leastWinningTimes)) (hS : va_S A s.heap H locs) (hl : lv_has ls 4 [(0, .int p0), (1, .int p1), (2, .int x2)]), W p l e (headSpec v_X8_leastWinningTimes ({ frames := 1, cells := 0, slots := 0, locals := 30 } : Room)).room s m (([.int p0, .int p1] : List Value).toArray) below meth c H locs 0 0 (MQ below (q_X8_leastWinningTimes D post A) (([.int p0, .int p1] : List Value).toArray) s 0 0 A) (F0 m 9 ls []) := by
    intro n9
    induction n9 with
    | zero => intro x2 H locs ls hw; exact False.elim hw
    | succ n9 ih9 =>
      intro x2 H locs ls hw hP hD hS hl
      unfold w_X8_leastWinningTimes_B9 at hw
      refine lv_iload_n hx hb dX8_leastWinningTimes_9 rfl (lv_at hl 2 rfl) ?_
      refine lv_iload_n hx hb dX8_leastWinningTimes_10 rfl (lv_at hl 0 rfl) ?_
      refine lv_iload_n hx hb dX8_leastWinningTimes_11 rfl (lv_at hl 1 rfl) ?_
      obtain ⟨hz12, hw⟩ := hw
      refine lv_idiv hx hb dX8_leastWinningTimes_12 hz12 ?_
      refine lv_icmp_gt (tgt := 46) hx hb dX8_leastWinningTimes_13 (by decide) (fun c13 => ?_) (fun c13 => ?_)
      · have hw := hw.1 c13
        refine lv_bipush (v := (-6 : Int32)) hx hb dX8_leastWinningTimes_46 (by decide) ?_
        exact z_iret hx hb hr hlocks () hw hP hS dX8_leastWinningTimes_48
      have hw := hw.2 c13
      refine lv_iload_n hx hb dX8_leastWinningTimes_16 rfl (lv_at hl 0 rfl) ?_
      refine lv_iload_n hx hb dX8_leastWinningTimes_17 rfl (lv_at hl 2 rfl) ?_
      refine lv_iload_n hx hb dX8_leastWinningTimes_18 rfl (lv_at hl 1 rfl) ?_
      refine lv_imul hx hb dX8_leastWinningTimes_19 ?_
      refine lv_isub hx hb dX8_leastWinningTimes_20 ?_
      refine lv_istore_n (lv' := [(3, .int (p0 - (x2 * p1))), (0, .int p0), (1, .int p1), (2, .int x2)]) hx hb dX8_leastWinningTimes_21 rfl hl (by decide) rfl (fun ls hl => ?_)
      refine lv_iload_n hx hb dX8_leastWinningTimes_22 rfl (lv_at hl 0 rfl) ?_
      refine lv_iload_n hx hb dX8_leastWinningTimes_23 rfl (lv_at hl 2 rfl) ?_
      refine va_mmax hx hb (hml.trans hl.1.symm) hown (hz _ z3_76) (hz _ z2_137) (hz _ z1_13) (hz _ z2_138) (Nat.le_of_ble_eq_true rfl) (Nat.le_of_ble_eq_true rfl) (Nat.zero_le _) (Nat.zero_le _) dX8_leastWinningTimes_24 ?_
      refine lv_iload_n hx hb dX8_leastWinningTimes_27 rfl (lv_at hl 0 rfl) ?_
      refine lv_iload_n hx hb dX8_leastWinningTimes_28 rfl (lv_at hl 2 rfl) ?_
      refine va_mmin hx hb (hml.trans hl.1.symm) hown (hz _ z3_77) (hz _ z2_200) (hz _ z1_13) (hz _ z2_201) (Nat.le_of_ble_eq_true rfl) (Nat.le_of_ble_eq_true rfl) (Nat.zero_le _) (Nat.zero_le _) dX8_leastWinningTimes_29 ?_
      refine z_ri (z_runS (As := [.int (if (p0 - (x2 * p1)) < p1 then p1 else (p0 - (x2 * p1))), .int (if p1 < (p0 - (x2 * p1)) then p1 else (p0 - (x2 * p1)))]) (rest := []) hF (c_X8_nextWins l D cI cC cZ (if (p0 - (x2 * p1)) < p1 then p1 else (p0 - (x2 * p1))) (if p1 < (p0 - (x2 * p1)) then p1 else (p0 - (x2 * p1))) _ _ hw) (va_cwS 2 hz (z_gS z3_81 z3_82 z1_1 z3_83) rfl rfl rfl hd_X8_nextWins ⟨Nat.le_of_ble_eq_true rfl, Nat.le_of_ble_eq_true rfl⟩) hK hP hD [] rfl rfl rfl hl.1 rfl (Nat.le_of_ble_eq_true rfl) dX8_leastWinningTimes_32 ⟨Nat.zero_le _, Nat.zero_le _⟩) hP hD hS hA [] rfl (fun _ => rfl) (fun _ => cw_X8_leastWinningTimes) (fun _ => rfl) (fun r32 u32 H locs hw hP hD hS => ?_)
      obtain ⟨hn32, hw⟩ := hw
      try dsimp only at hw
      refine lv_if_ne (tgt := 40) hx hb dX8_leastWinningTimes_35 (by decide) (fun c35 => ?_) (fun c35 => ?_)
      · have hw := hw.2 c35
        refine lv_iinc (k := 3) (v := (x2 + 1)) (lv' := [(2, .int (x2 + 1)), (3, .int (p0 - (x2 * p1))), (0, .int p0), (1, .int p1)]) hx hb dX8_leastWinningTimes_40 hl rfl rfl (by decide) rfl (fun ls hl => ?_)
        refine lv_goto (tgt := 9) hx hb dX8_leastWinningTimes_43 (by decide) ?_
        exact ih9 (x2 + 1) _ _ _ hw hP hD hS (lv_sub hl [2, 3, 0] rfl)
      have hw := hw.1 c35
      refine lv_iload_n hx hb dX8_leastWinningTimes_38 rfl (lv_at hl 3 rfl) ?_
      exact z_iret hx hb hr hlocks () hw hP hS dX8_leastWinningTimes_39
  unfold w_X8_leastWinningTimes at hw
  refine lv_iload_n hx hb dX8_leastWinningTimes_0 rfl (lv_at hl 1 rfl) ?_
  refine lv_if_gt (tgt := 7) hx hb dX8_leastWinningTimes_1 (by decide) (fun c1 => ?_) (fun c1 => ?_)
  · have hw := hw.1 c1
    refine lv_iconst (v := (1 : Int32)) hx hb dX8_leastWinningTimes_7 (by decide) ?_
    refine lv_istore_n (lv' := [(2, .int (1 : Int32)), (0, .int p0), (1, .int p1)]) hx hb dX8_leastWinningTimes_8 rfl hl (by decide) rfl (fun ls hl => ?_)
    obtain ⟨n9, hw⟩ := hw
    exact L9 n9 (1 : Int32) _ _ _ hw hP hD hS (lv_sub hl [1, 2, 0] rfl)
  have hw := hw.2 c1
  refine lv_bipush (v := (-6 : Int32)) hx hb dX8_leastWinningTimes_4 (by decide) ?_
  exact z_iret hx hb hr hlocks () hw hP hS dX8_leastWinningTimes_6
abbrev cw_X8_jugs (h : Nat) (g_world g_images g_pad g_hearing g_bowls g_guesses : Value) : va_W := [(h, .inr (8, [g_world, g_images, g_pad, g_hearing, g_bowls, g_guesses]))]
abbrev q_X8_jugs (D : va_G) (h : Nat) (g_world g_images g_pad g_hearing g_bowls g_guesses : Value) (post : Int32 → Prop) (A : Nat → Prop) : Array Value → State → Outcome → State → Prop := va_Qi (S := Unit) (fun r _ => post r ) (fun _ t => va_P D vwCl (cw_X8_jugs h g_world g_images g_pad g_hearing g_bowls g_guesses) t.heap) A
abbrev v_X8_jugs : List Cond := .code yX8_jugs cX8_jugs 5 (some .int) :: zB
theorem hd_X8_jugs : yX8_jugs.cls = RX8 ∧ yX8_jugs.cls ≠ "java/lang/invoke/MethodHandle" ∧ yX8_jugs.cls ≠ "java/lang/invoke/VarHandle" ∧ (parseMethodDescriptor yX8_jugs.desc).map (fun d => d.parameters.length) = some 3 := by decide +kernel
set_option maxHeartbeats 4000000 in
set_option maxRecDepth 100000 in
theorem c_X8_jugs (l : Launch) (D : va_G) (cI cC cZ : ClassId) (h : Nat) (g_world g_images g_pad g_hearing g_bowls g_guesses : Value) (p1 : Int32) (p2 : Int32) (p3 : Int32) (sz : Nat) (post : Int32 → Prop) (hw : w_X8_jugs post p1 p2 p3) : Met l yX8_jugs v_X8_jugs ({ frames := 2, cells := 0, slots := 0, locals := 53 } : Room) (va_Pc [.ref h, .int p1, .int p2, .int p3] (zPre D (zT cI cC cZ) sz (cw_X8_jugs h g_world g_images g_pad g_hearing g_bowls g_guesses))) (q_X8_jugs D h g_world g_images g_pad g_hearing g_bowls g_guesses post (va_A (cw_X8_jugs h g_world g_images g_pad g_hearing g_bowls g_guesses) sz)) 0 0 (va_A (cw_X8_jugs h g_world g_images g_pad g_hearing g_bowls g_guesses) sz) := by
  refine Met.ofW (cc := cX8_jugs) (maxL := 5) (ret := (some .int)) (by decide) rfl ?_
  intro p e s m args below meth c s₁ B hml hv
  obtain ⟨rfl, hsz, hP, hK, hD0⟩ := hv
  subst hsz
  have hx := B.exec
  have hb := B.bytes
  have hr := B.returns
  have hz : ∀ w ∈ zB, w.before _ s = true := fun w h => atoms_spec (ws := v_X8_jugs) B.pre w (List.mem_cons_of_mem _ h)
  have hown : s.vm.findClass RX8 = some m.cls := findClass_of_methodNamed B.named
  have hlocks := B.notSynchronized
  have hF : CallFix p m c cX8_jugs 5 s (([.ref h, .int p1, .int p2, .int p3] : List Value).toArray) zB RX8 := ⟨hx, hb, hml, hown, hz⟩
  have hD := hD0.self (sz := s.heap.size)
  generalize hAe : va_A (cw_X8_jugs h g_world g_images g_pad g_hearing g_bowls g_guesses) s.heap.size = A at hD ⊢
  have hA : ∀ q : Nat, s.heap.size ≤ q → A q := fun q h => by rw [← hAe]; exact Or.inr h
  have hS : va_S A s.heap s.heap [] := va_S.rf
  have hP : va_P D vwCl (cw_X8_jugs h g_world g_images g_pad g_hearing g_bowls g_guesses) s.heap := hP
  have hl := lv_entry ([.ref h, .int p1, .int p2, .int p3]) (n := 5) (Nat.le_of_ble_eq_true rfl)
  rw [lg_entry_eq]
  generalize (lg_sl ([.ref h, .int p1, .int p2, .int p3]) ++ List.replicate (5 - (lg_sl ([.ref h, .int p1, .int p2, .int p3])).length) Slot.unset).toArray = ls at hl ⊢
  have hl : lv_has ls 5 [(0, .ref h), (1, .int p1), (2, .int p2), (3, .int p3)] := hl
  have J63 : ∀ (s0 : Int32) (H : Heap) (locs : List Loc) (ls : Array Slot) (hw : w_X8_jugs_B63 post p1 p2 p3 s0) (hP : va_P D vwCl (cw_X8_jugs h g_world g_images g_pad g_hearing g_bowls g_guesses) H) (hD : va_D A (cw_X8_jugs h g_world g_images g_pad g_hearing g_bowls g_guesses)) (hS : va_S A s.heap H locs) (hl : lv_has ls 5 []), W p l e (headSpec v_X8_jugs ({ frames := 2, cells := 0, slots := 0, locals := 53 } : Room)).room s m (([.ref h, .int p1, .int p2, .int p3] : List Value).toArray) below meth c H locs 0 0 (MQ below (q_X8_jugs D h g_world g_images g_pad g_hearing g_bowls g_guesses post A) (([.ref h, .int p1, .int p2, .int p3] : List Value).toArray) s 0 0 A) (F0 m 63 ls [.int s0]) := by
    intro s0 H locs ls hw hP hD hS hl
    unfold w_X8_jugs_B63 at hw
    refine z_ri (z_runS (As := [.int s0]) (rest := []) hF (c_X8_asNumber l D cI cC cZ s0 _ _ hw) (va_cwS 1 hz (z_gS z2_164 z2_165 z1_1 z2_166) rfl rfl rfl hd_X8_asNumber ⟨Nat.le_of_ble_eq_true rfl, Nat.le_of_ble_eq_true rfl⟩) hK hP hD [] rfl rfl rfl hl.1 rfl (Nat.le_of_ble_eq_true rfl) dX8_jugs_63 ⟨Nat.zero_le _, Nat.zero_le _⟩) hP hD hS hA [] rfl (fun _ => rfl) (fun _ => cw_X8_jugs h g_world g_images g_pad g_hearing g_bowls g_guesses) (fun _ => rfl) (fun r63 u63 H locs hw hP hD hS => ?_)
    try dsimp only at hw
    refine lv_goto (tgt := 71) hx hb dX8_jugs_66 (by decide) ?_
    exact z_iret hx hb hr hlocks () hw hP hS dX8_jugs_71
  unfold w_X8_jugs at hw
  refine lv_iload_n hx hb dX8_jugs_0 rfl (lv_at hl 1 rfl) ?_
  refine lv_iconst (v := (0 : Int32)) hx hb dX8_jugs_1 (by decide) ?_
  refine lv_bipush (v := (99 : Int32)) hx hb dX8_jugs_2 (by decide) ?_
  refine z_ri (z_runS (As := [.int p1, .int (0 : Int32), .int (99 : Int32)]) (rest := []) hF (c_X8_within l D cI cC cZ p1 (0 : Int32) (99 : Int32) _ _ hw) (va_cwS 3 hz (z_gS z1_212 z1_213 z1_1 z1_214) rfl rfl rfl hd_X8_within ⟨Nat.le_of_ble_eq_true rfl, Nat.le_of_ble_eq_true rfl⟩) hK hP hD [] rfl rfl rfl hl.1 rfl (Nat.le_of_ble_eq_true rfl) dX8_jugs_4 ⟨Nat.zero_le _, Nat.zero_le _⟩) hP hD hS hA [] rfl (fun _ => rfl) (fun _ => cw_X8_jugs h g_world g_images g_pad g_hearing g_bowls g_guesses) (fun _ => rfl) (fun r4 u4 H locs hw hP hD hS => ?_)
  obtain ⟨hn4, hw⟩ := hw
  try dsimp only at hw
  refine lv_if_eq (tgt := 29) hx hb dX8_jugs_7 (by decide) (fun c7 => ?_) (fun c7 => ?_)
  · have hw := hw.1 c7
    refine lv_bipush (v := (-2 : Int32)) hx hb dX8_jugs_29 (by decide) ?_
    exact z_iret hx hb hr hlocks () hw hP hS dX8_jugs_31
  have hw := hw.2 c7
  refine lv_iload_n hx hb dX8_jugs_10 rfl (lv_at hl 2 rfl) ?_
  refine lv_iconst (v := (0 : Int32)) hx hb dX8_jugs_11 (by decide) ?_
  refine lv_bipush (v := (99 : Int32)) hx hb dX8_jugs_12 (by decide) ?_
  refine z_ri (z_runS (As := [.int p2, .int (0 : Int32), .int (99 : Int32)]) (rest := []) hF (c_X8_within l D cI cC cZ p2 (0 : Int32) (99 : Int32) _ _ hw) (va_cwS 3 hz (z_gS z1_212 z1_213 z1_1 z1_214) rfl rfl rfl hd_X8_within ⟨Nat.le_of_ble_eq_true rfl, Nat.le_of_ble_eq_true rfl⟩) hK hP hD [] rfl rfl rfl hl.1 rfl (Nat.le_of_ble_eq_true rfl) dX8_jugs_14 ⟨Nat.zero_le _, Nat.zero_le _⟩) hP hD hS hA [] rfl (fun _ => rfl) (fun _ => cw_X8_jugs h g_world g_images g_pad g_hearing g_bowls g_guesses) (fun _ => rfl) (fun r14 u14 H locs hw hP hD hS => ?_)
  obtain ⟨hn14, hw⟩ := hw
  try dsimp only at hw
  refine lv_if_eq (tgt := 29) hx hb dX8_jugs_17 (by decide) (fun c17 => ?_) (fun c17 => ?_)
  · have hw := hw.1 c17
    refine lv_bipush (v := (-2 : Int32)) hx hb dX8_jugs_29 (by decide) ?_
    exact z_iret hx hb hr hlocks () hw hP hS dX8_jugs_31
  have hw := hw.2 c17
  refine lv_iload_n hx hb dX8_jugs_20 rfl (lv_at hl 3 rfl) ?_
  refine lv_iconst (v := (0 : Int32)) hx hb dX8_jugs_21 (by decide) ?_
  refine lv_iconst (v := (1 : Int32)) hx hb dX8_jugs_22 (by decide) ?_
  refine z_ri (z_runS (As := [.int p3, .int (0 : Int32), .int (1 : Int32)]) (rest := []) hF (c_X8_within l D cI cC cZ p3 (0 : Int32) (1 : Int32) _ _ hw) (va_cwS 3 hz (z_gS z1_212 z1_213 z1_1 z1_214) rfl rfl rfl hd_X8_within ⟨Nat.le_of_ble_eq_true rfl, Nat.le_of_ble_eq_true rfl⟩) hK hP hD [] rfl rfl rfl hl.1 rfl (Nat.le_of_ble_eq_true rfl) dX8_jugs_23 ⟨Nat.zero_le _, Nat.zero_le _⟩) hP hD hS hA [] rfl (fun _ => rfl) (fun _ => cw_X8_jugs h g_world g_images g_pad g_hearing g_bowls g_guesses) (fun _ => rfl) (fun r23 u23 H locs hw hP hD hS => ?_)
  obtain ⟨hn23, hw⟩ := hw
  try dsimp only at hw
  refine lv_if_ne (tgt := 32) hx hb dX8_jugs_26 (by decide) (fun c26 => ?_) (fun c26 => ?_)
  · have hw := hw.2 c26
    refine lv_iload_n hx hb dX8_jugs_32 rfl (lv_at hl 1 rfl) ?_
    refine lv_iload_n hx hb dX8_jugs_33 rfl (lv_at hl 2 rfl) ?_
    refine va_mmax hx hb (hml.trans hl.1.symm) hown (hz _ z3_76) (hz _ z2_137) (hz _ z1_13) (hz _ z2_138) (Nat.le_of_ble_eq_true rfl) (Nat.le_of_ble_eq_true rfl) (Nat.zero_le _) (Nat.zero_le _) dX8_jugs_34 ?_
    refine lv_iload_n hx hb dX8_jugs_37 rfl (lv_at hl 1 rfl) ?_
    refine lv_iload_n hx hb dX8_jugs_38 rfl (lv_at hl 2 rfl) ?_
    refine va_mmin hx hb (hml.trans hl.1.symm) hown (hz _ z3_77) (hz _ z2_200) (hz _ z1_13) (hz _ z2_201) (Nat.le_of_ble_eq_true rfl) (Nat.le_of_ble_eq_true rfl) (Nat.zero_le _) (Nat.zero_le _) dX8_jugs_39 ?_
    refine z_ri (z_runS (As := [.int (if p1 < p2 then p2 else p1), .int (if p2 < p1 then p2 else p1)]) (rest := []) hF (c_X8_leastWinningTimes l D cI cC cZ (if p1 < p2 then p2 else p1) (if p2 < p1 then p2 else p1) _ _ hw) (va_cwS 2 hz (z_gS z3_78 z3_79 z1_1 z3_80) rfl rfl rfl hd_X8_leastWinningTimes ⟨Nat.le_of_ble_eq_true rfl, Nat.le_of_ble_eq_true rfl⟩) hK hP hD [] rfl rfl rfl hl.1 rfl (Nat.le_of_ble_eq_true rfl) dX8_jugs_42 ⟨Nat.zero_le _, Nat.zero_le _⟩) hP hD hS hA [] rfl (fun _ => rfl) (fun _ => cw_X8_jugs h g_world g_images g_pad g_hearing g_bowls g_guesses) (fun _ => rfl) (fun r42 u42 H locs hw hP hD hS => ?_)
    try dsimp only at hw
    refine lv_istore (lv' := [(4, .int r42), (0, .ref h), (1, .int p1), (2, .int p2), (3, .int p3)]) hx hb dX8_jugs_45 hl (by decide) rfl (fun ls hl => ?_)
    refine lv_iload_n hx hb dX8_jugs_47 rfl (lv_at hl 4 rfl) ?_
    refine lv_if_ne (tgt := 69) hx hb dX8_jugs_48 (by decide) (fun c48 => ?_) (fun c48 => ?_)
    · have hw := hw.2 c48
      refine lv_iload hx hb dX8_jugs_69 (lv_at hl 0 rfl) ?_
      exact z_iret hx hb hr hlocks () hw hP hS dX8_jugs_71
    have hw := hw.1 c48
    refine lv_iload hx hb dX8_jugs_51 (lv_at hl 0 rfl) ?_
    refine lv_bipush (v := (-6 : Int32)) hx hb dX8_jugs_53 (by decide) ?_
    refine lv_icmp_eq (tgt := 62) hx hb dX8_jugs_55 (by decide) (fun c55 => ?_) (fun c55 => ?_)
    · have hw := hw.1 c55
      refine lv_iconst (v := (0 : Int32)) hx hb dX8_jugs_62 (by decide) ?_
      exact J63 (0 : Int32) _ _ _ hw hP hD hS (lv_sub hl [] rfl)
    have hw := hw.2 c55
    refine lv_iconst (v := (1 : Int32)) hx hb dX8_jugs_58 (by decide) ?_
    refine lv_goto (tgt := 63) hx hb dX8_jugs_59 (by decide) ?_
    exact J63 (1 : Int32) _ _ _ hw hP hD hS (lv_sub hl [] rfl)
  have hw := hw.1 c26
  refine lv_bipush (v := (-2 : Int32)) hx hb dX8_jugs_29 (by decide) ?_
  exact z_iret hx hb hr hlocks () hw hP hS dX8_jugs_31
abbrev cw_X8_power : va_W := []
abbrev q_X8_power (D : va_G) (post : Int64 → Prop) (A : Nat → Prop) : Array Value → State → Outcome → State → Prop := va_Ql (S := Unit) (fun r _ => post r ) (fun _ t => va_P D vwCl (cw_X8_power) t.heap) A
abbrev v_X8_power : List Cond := .code yX8_power cX8_power 5 (some .long) :: zB
theorem hd_X8_power : yX8_power.cls ≠ "java/lang/invoke/MethodHandle" ∧ yX8_power.cls ≠ "java/lang/invoke/VarHandle" ∧ (parseMethodDescriptor yX8_power.desc).map (fun d => d.parameters.length) = some 2 := by decide +kernel
set_option maxHeartbeats 4000000 in
set_option maxRecDepth 100000 in
theorem c_X8_power (l : Launch) (D : va_G) (cI cC cZ : ClassId) (p0 : Int32) (p1 : Int32) (sz : Nat) (post : Int64 → Prop) (hw : w_X8_power post p0 p1) : Met l yX8_power v_X8_power ({ frames := 0, cells := 0, slots := 0, locals := 0 } : Room) (va_Pc [.int p0, .int p1] (zPre D (zT cI cC cZ) sz (cw_X8_power))) (q_X8_power D post (va_A (cw_X8_power) sz)) 0 0 (va_A (cw_X8_power) sz) := by
  refine Met.ofW (cc := cX8_power) (maxL := 5) (ret := (some .long)) (by decide) rfl ?_
  intro p e s m args below meth c s₁ B hml hv
  obtain ⟨rfl, hsz, hP, hK, hD0⟩ := hv
  subst hsz
  have hx := B.exec
  have hb := B.bytes
  have hr := B.returns
  have hz : ∀ w ∈ zB, w.before _ s = true := fun w h => atoms_spec (ws := v_X8_power) B.pre w (List.mem_cons_of_mem _ h)
  have hown : s.vm.findClass RX8 = some m.cls := findClass_of_methodNamed B.named
  have hlocks := B.notSynchronized
  have hF : CallFix p m c cX8_power 5 s (([.int p0, .int p1] : List Value).toArray) zB RX8 := ⟨hx, hb, hml, hown, hz⟩
  have hD := hD0.self (sz := s.heap.size)
  generalize hAe : va_A (cw_X8_power) s.heap.size = A at hD ⊢
  have hA : ∀ q : Nat, s.heap.size ≤ q → A q := fun q h => by rw [← hAe]; exact Or.inr h
  have hS : va_S A s.heap s.heap [] := va_S.rf
  have hP : va_P D vwCl (cw_X8_power) s.heap := hP
  have hl := lv_entry ([.int p0, .int p1]) (n := 5) (Nat.le_of_ble_eq_true rfl)
  rw [lg_entry_eq]
  generalize (lg_sl ([.int p0, .int p1]) ++ List.replicate (5 - (lg_sl ([.int p0, .int p1])).length) Slot.unset).toArray = ls at hl ⊢
  have hl : lv_has ls 5 [(0, .int p0), (1, .int p1)] := hl
  have L5 : ∀ (n5 : Nat) (x2 : Int64) (x4 : Int32) (H : Heap) (locs : List Loc) (ls : Array Slot) (hw : w_X8_power_B5 post p0 p1 n5 x2 x4) (hP : va_P D vwCl (cw_X8_power) H) (hD : va_D A (cw_X8_power)) (hS : va_S A s.heap H locs) (hl : lv_has ls 5 [(0, .int p0), (1, .int p1), (2, .long x2), (4, .int x4)]), W p l e (headSpec v_X8_power ({ frames := 0, cells := 0, slots := 0, locals := 0 } : Room)).room s m (([.int p0, .int p1] : List Value).toArray) below meth c H locs 0 0 (MQ below (q_X8_power D post A) (([.int p0, .int p1] : List Value).toArray) s 0 0 A) (F0 m 5 ls []) := by
    intro n5
    induction n5 with
    | zero => intro x2 x4 H locs ls hw; exact False.elim hw
    | succ n5 ih5 =>
      intro x2 x4 H locs ls hw hP hD hS hl
      unfold w_X8_power_B5 at hw
      refine lv_iload hx hb dX8_power_5 (lv_at hl 3 rfl) ?_
      refine lv_iload_n hx hb dX8_power_7 rfl (lv_at hl 1 rfl) ?_
      refine lv_icmp_ge (tgt := 22) hx hb dX8_power_8 (by decide) (fun c8 => ?_) (fun c8 => ?_)
      · have hw := hw.1 c8
        refine lv_lload_n hx hb dX8_power_22 rfl (lv_at hl 2 rfl) ?_
        exact z_lret hx hb hr hlocks () hw hP hS dX8_power_23
      have hw := hw.2 c8
      refine lv_lload_n hx hb dX8_power_11 rfl (lv_at hl 2 rfl) ?_
      refine lv_iload_n hx hb dX8_power_12 rfl (lv_at hl 0 rfl) ?_
      refine lv_i2l (v := p0.toInt64) hx hb dX8_power_13 rfl ?_
      refine lv_lmul hx hb dX8_power_14 ?_
      refine lv_lstore_n (lv' := [(2, .long (x2 * p0.toInt64)), (0, .int p0), (1, .int p1), (4, .int x4)]) hx hb dX8_power_15 rfl hl (by decide) rfl (fun ls hl => ?_)
      refine lv_iinc (k := 3) (v := (x4 + 1)) (lv' := [(4, .int (x4 + 1)), (2, .long (x2 * p0.toInt64)), (0, .int p0), (1, .int p1)]) hx hb dX8_power_16 hl rfl rfl (by decide) rfl (fun ls hl => ?_)
      refine lv_goto (tgt := 5) hx hb dX8_power_19 (by decide) ?_
      exact ih5 (x2 * p0.toInt64) (x4 + 1) _ _ _ hw hP hD hS (lv_sub hl [2, 3, 1, 0] rfl)
  unfold w_X8_power at hw
  refine lv_lconst (v := (1 : Int64)) hx hb dX8_power_0 (by decide) ?_
  refine lv_lstore_n (lv' := [(2, .long (1 : Int64)), (0, .int p0), (1, .int p1)]) hx hb dX8_power_1 rfl hl (by decide) rfl (fun ls hl => ?_)
  refine lv_iconst (v := (0 : Int32)) hx hb dX8_power_2 (by decide) ?_
  refine lv_istore (lv' := [(4, .int (0 : Int32)), (2, .long (1 : Int64)), (0, .int p0), (1, .int p1)]) hx hb dX8_power_3 hl (by decide) rfl (fun ls hl => ?_)
  obtain ⟨n5, hw⟩ := hw
  exact L5 n5 (1 : Int64) (0 : Int32) _ _ _ hw hP hD hS (lv_sub hl [2, 3, 1, 0] rfl)
abbrev cw_X8_commonDivisor : va_W := []
abbrev q_X8_commonDivisor (D : va_G) (post : Int64 → Prop) (A : Nat → Prop) : Array Value → State → Outcome → State → Prop := va_Ql (S := Unit) (fun r _ => post r ) (fun _ t => va_P D vwCl (cw_X8_commonDivisor) t.heap) A
abbrev v_X8_commonDivisor : List Cond := .code yX8_commonDivisor cX8_commonDivisor 11 (some .long) :: zB
theorem hd_X8_commonDivisor : yX8_commonDivisor.cls ≠ "java/lang/invoke/MethodHandle" ∧ yX8_commonDivisor.cls ≠ "java/lang/invoke/VarHandle" ∧ (parseMethodDescriptor yX8_commonDivisor.desc).map (fun d => d.parameters.length) = some 2 := by decide +kernel
set_option maxHeartbeats 4000000 in
set_option maxRecDepth 100000 in
theorem c_X8_commonDivisor (l : Launch) (D : va_G) (cI cC cZ : ClassId) (p0 : Int64) (p2 : Int64) (sz : Nat) (post : Int64 → Prop) (hw : w_X8_commonDivisor post p0 p2) : Met l yX8_commonDivisor v_X8_commonDivisor ({ frames := 0, cells := 0, slots := 0, locals := 0 } : Room) (va_Pc [.long p0, .long p2] (zPre D (zT cI cC cZ) sz (cw_X8_commonDivisor))) (q_X8_commonDivisor D post (va_A (cw_X8_commonDivisor) sz)) 0 0 (va_A (cw_X8_commonDivisor) sz) := by
  refine Met.ofW (cc := cX8_commonDivisor) (maxL := 11) (ret := (some .long)) (by decide) rfl ?_
  intro p e s m args below meth c s₁ B hml hv
  obtain ⟨rfl, hsz, hP, hK, hD0⟩ := hv
  subst hsz
  have hx := B.exec
  have hb := B.bytes
  have hr := B.returns
  have hz : ∀ w ∈ zB, w.before _ s = true := fun w h => atoms_spec (ws := v_X8_commonDivisor) B.pre w (List.mem_cons_of_mem _ h)
  have hown : s.vm.findClass RX8 = some m.cls := findClass_of_methodNamed B.named
  have hlocks := B.notSynchronized
  have hF : CallFix p m c cX8_commonDivisor 11 s (([.long p0, .long p2] : List Value).toArray) zB RX8 := ⟨hx, hb, hml, hown, hz⟩
  have hD := hD0.self (sz := s.heap.size)
  generalize hAe : va_A (cw_X8_commonDivisor) s.heap.size = A at hD ⊢
  have hA : ∀ q : Nat, s.heap.size ≤ q → A q := fun q h => by rw [← hAe]; exact Or.inr h
  have hS : va_S A s.heap s.heap [] := va_S.rf
  have hP : va_P D vwCl (cw_X8_commonDivisor) s.heap := hP
  have hl := lv_entry ([.long p0, .long p2]) (n := 11) (Nat.le_of_ble_eq_true rfl)
  rw [lg_entry_eq]
  generalize (lg_sl ([.long p0, .long p2]) ++ List.replicate (11 - (lg_sl ([.long p0, .long p2])).length) Slot.unset).toArray = ls at hl ⊢
  have hl : lv_has ls 11 [(0, .long p0), (2, .long p2)] := hl
  have J45 : ∀ (x4 : Int64) (H : Heap) (locs : List Loc) (ls : Array Slot) (hw : w_X8_commonDivisor_B45 post p0 p2 x4) (hP : va_P D vwCl (cw_X8_commonDivisor) H) (hD : va_D A (cw_X8_commonDivisor)) (hS : va_S A s.heap H locs) (hl : lv_has ls 11 [(4, .long x4)]), W p l e (headSpec v_X8_commonDivisor ({ frames := 0, cells := 0, slots := 0, locals := 0 } : Room)).room s m (([.long p0, .long p2] : List Value).toArray) below meth c H locs 0 0 (MQ below (q_X8_commonDivisor D post A) (([.long p0, .long p2] : List Value).toArray) s 0 0 A) (F0 m 45 ls []) := by
    intro x4 H locs ls hw hP hD hS hl
    unfold w_X8_commonDivisor_B45 at hw
    refine lv_lload hx hb dX8_commonDivisor_45 (lv_at hl 0 rfl) ?_
    refine lv_lconst (v := (0 : Int64)) hx hb dX8_commonDivisor_47 (by decide) ?_
    refine W.lcmp hx hb dX8_commonDivisor_48 ?_
    refine lv_if_le (tgt := 57) hx hb dX8_commonDivisor_49 (by decide) (fun c49 => ?_) (fun c49 => ?_)
    · have hw := hw.1 c49
      refine lv_lconst (v := (1 : Int64)) hx hb dX8_commonDivisor_57 (by decide) ?_
      exact z_lret hx hb hr hlocks () hw hP hS dX8_commonDivisor_58
    have hw := hw.2 c49
    refine lv_lload hx hb dX8_commonDivisor_52 (lv_at hl 0 rfl) ?_
    refine lv_goto (tgt := 58) hx hb dX8_commonDivisor_54 (by decide) ?_
    exact z_lret hx hb hr hlocks () hw hP hS dX8_commonDivisor_58
  have L9 : ∀ (n9 : Nat) (x4 : Int64) (x6 : Int64) (x8 : Int32) (H : Heap) (locs : List Loc) (ls : Array Slot) (hw : w_X8_commonDivisor_B9 post p0 p2 n9 x4 x6 x8) (hP : va_P D vwCl (cw_X8_commonDivisor) H) (hD : va_D A (cw_X8_commonDivisor)) (hS : va_S A s.heap H locs) (hl : lv_has ls 11 [(4, .long x4), (6, .long x6), (8, .int x8)]), W p l e (headSpec v_X8_commonDivisor ({ frames := 0, cells := 0, slots := 0, locals := 0 } : Room)).room s m (([.long p0, .long p2] : List Value).toArray) below meth c H locs 0 0 (MQ below (q_X8_commonDivisor D post A) (([.long p0, .long p2] : List Value).toArray) s 0 0 A) (F0 m 9 ls []) := by
    intro n9
    induction n9 with
    | zero => intro x4 x6 x8 H locs ls hw; exact False.elim hw
    | succ n9 ih9 =>
      intro x4 x6 x8 H locs ls hw hP hD hS hl
      unfold w_X8_commonDivisor_B9 at hw
      refine lv_iload hx hb dX8_commonDivisor_9 (lv_at hl 2 rfl) ?_
      refine lv_sipush (v := (1000 : Int32)) hx hb dX8_commonDivisor_11 (by decide) ?_
      refine lv_icmp_ge (tgt := 45) hx hb dX8_commonDivisor_14 (by decide) (fun c14 => ?_) (fun c14 => ?_)
      · have hw := hw.1 c14
        exact J45 x4 _ _ _ hw hP hD hS (lv_sub hl [0] rfl)
      have hw := hw.2 c14
      refine lv_lload hx hb dX8_commonDivisor_17 (lv_at hl 1 rfl) ?_
      refine lv_lconst (v := (0 : Int64)) hx hb dX8_commonDivisor_19 (by decide) ?_
      refine W.lcmp hx hb dX8_commonDivisor_20 ?_
      refine lv_if_le (tgt := 45) hx hb dX8_commonDivisor_21 (by decide) (fun c21 => ?_) (fun c21 => ?_)
      · have hw := hw.1 c21
        exact J45 x4 _ _ _ hw hP hD hS (lv_sub hl [0] rfl)
      have hw := hw.2 c21
      refine lv_lload hx hb dX8_commonDivisor_24 (lv_at hl 0 rfl) ?_
      refine lv_lload hx hb dX8_commonDivisor_26 (lv_at hl 1 rfl) ?_
      obtain ⟨hz28, hw⟩ := hw
      refine lv_lrem hx hb dX8_commonDivisor_28 hz28 ?_
      refine lv_lstore (lv' := [(9, .long (x4 - x4 / x6 * x6)), (4, .long x4), (6, .long x6), (8, .int x8)]) hx hb dX8_commonDivisor_29 hl (by decide) rfl (fun ls hl => ?_)
      refine lv_lload hx hb dX8_commonDivisor_31 (lv_at hl 2 rfl) ?_
      refine lv_lstore (lv' := [(4, .long x6), (9, .long (x4 - x4 / x6 * x6)), (6, .long x6), (8, .int x8)]) hx hb dX8_commonDivisor_33 hl (by decide) rfl (fun ls hl => ?_)
      refine lv_lload hx hb dX8_commonDivisor_35 (lv_at hl 1 rfl) ?_
      refine lv_lstore (lv' := [(6, .long (x4 - x4 / x6 * x6)), (4, .long x6), (9, .long (x4 - x4 / x6 * x6)), (8, .int x8)]) hx hb dX8_commonDivisor_37 hl (by decide) rfl (fun ls hl => ?_)
      refine lv_iinc (k := 3) (v := (x8 + 1)) (lv' := [(8, .int (x8 + 1)), (6, .long (x4 - x4 / x6 * x6)), (4, .long x6), (9, .long (x4 - x4 / x6 * x6))]) hx hb dX8_commonDivisor_39 hl rfl rfl (by decide) rfl (fun ls hl => ?_)
      refine lv_goto (tgt := 9) hx hb dX8_commonDivisor_42 (by decide) ?_
      exact ih9 x6 (x4 - x4 / x6 * x6) (x8 + 1) _ _ _ hw hP hD hS (lv_sub hl [2, 1, 0] rfl)
  unfold w_X8_commonDivisor at hw
  refine lv_lload_n hx hb dX8_commonDivisor_0 rfl (lv_at hl 0 rfl) ?_
  refine lv_lstore (lv' := [(4, .long p0), (0, .long p0), (2, .long p2)]) hx hb dX8_commonDivisor_1 hl (by decide) rfl (fun ls hl => ?_)
  refine lv_lload_n hx hb dX8_commonDivisor_3 rfl (lv_at hl 2 rfl) ?_
  refine lv_lstore (lv' := [(6, .long p2), (4, .long p0), (0, .long p0), (2, .long p2)]) hx hb dX8_commonDivisor_4 hl (by decide) rfl (fun ls hl => ?_)
  refine lv_iconst (v := (0 : Int32)) hx hb dX8_commonDivisor_6 (by decide) ?_
  refine lv_istore (lv' := [(8, .int (0 : Int32)), (6, .long p2), (4, .long p0), (0, .long p0), (2, .long p2)]) hx hb dX8_commonDivisor_7 hl (by decide) rfl (fun ls hl => ?_)
  obtain ⟨n9, hw⟩ := hw
  exact L9 n9 p0 p2 (0 : Int32) _ _ _ hw hP hD hS (lv_sub hl [2, 1, 0] rfl)
abbrev cw_X8_odds (h : Nat) (g_world g_images g_pad g_hearing g_bowls g_guesses : Value) : va_W := [(h, .inr (8, [g_world, g_images, g_pad, g_hearing, g_bowls, g_guesses]))]
abbrev q_X8_odds (D : va_G) (h : Nat) (g_world g_images g_pad g_hearing g_bowls g_guesses : Value) (post : Int64 → Prop) (A : Nat → Prop) : Array Value → State → Outcome → State → Prop := va_Ql (S := Unit) (fun r _ => post r ) (fun _ t => va_P D vwCl (cw_X8_odds h g_world g_images g_pad g_hearing g_bowls g_guesses) t.heap) A
abbrev v_X8_odds : List Cond := .code yX8_odds cX8_odds 12 (some .long) :: zB
theorem hd_X8_odds : yX8_odds.cls = RX8 ∧ yX8_odds.cls ≠ "java/lang/invoke/MethodHandle" ∧ yX8_odds.cls ≠ "java/lang/invoke/VarHandle" ∧ (parseMethodDescriptor yX8_odds.desc).map (fun d => d.parameters.length) = some 5 := by decide +kernel
set_option maxHeartbeats 4000000 in
set_option maxRecDepth 100000 in
theorem c_X8_odds (l : Launch) (D : va_G) (cI cC cZ : ClassId) (h : Nat) (g_world g_images g_pad g_hearing g_bowls g_guesses : Value) (p1 : Int32) (p2 : Int32) (p3 : Int32) (p4 : Int32) (p5 : Int32) (sz : Nat) (post : Int64 → Prop) (hw : w_X8_odds post p1 p2 p3 p4 p5) : Met l yX8_odds v_X8_odds ({ frames := 1, cells := 0, slots := 0, locals := 30 } : Room) (va_Pc [.ref h, .int p1, .int p2, .int p3, .int p4, .int p5] (zPre D (zT cI cC cZ) sz (cw_X8_odds h g_world g_images g_pad g_hearing g_bowls g_guesses))) (q_X8_odds D h g_world g_images g_pad g_hearing g_bowls g_guesses post (va_A (cw_X8_odds h g_world g_images g_pad g_hearing g_bowls g_guesses) sz)) 0 0 (va_A (cw_X8_odds h g_world g_images g_pad g_hearing g_bowls g_guesses) sz) := by
  refine Met.ofW (cc := cX8_odds) (maxL := 12) (ret := (some .long)) (by decide) rfl ?_
  intro p e s m args below meth c s₁ B hml hv
  obtain ⟨rfl, hsz, hP, hK, hD0⟩ := hv
  subst hsz
  have hx := B.exec
  have hb := B.bytes
  have hr := B.returns
  have hz : ∀ w ∈ zB, w.before _ s = true := fun w h => atoms_spec (ws := v_X8_odds) B.pre w (List.mem_cons_of_mem _ h)
  have hown : s.vm.findClass RX8 = some m.cls := findClass_of_methodNamed B.named
  have hlocks := B.notSynchronized
  have hF : CallFix p m c cX8_odds 12 s (([.ref h, .int p1, .int p2, .int p3, .int p4, .int p5] : List Value).toArray) zB RX8 := ⟨hx, hb, hml, hown, hz⟩
  have hD := hD0.self (sz := s.heap.size)
  generalize hAe : va_A (cw_X8_odds h g_world g_images g_pad g_hearing g_bowls g_guesses) s.heap.size = A at hD ⊢
  have hA : ∀ q : Nat, s.heap.size ≤ q → A q := fun q h => by rw [← hAe]; exact Or.inr h
  have hS : va_S A s.heap s.heap [] := va_S.rf
  have hP : va_P D vwCl (cw_X8_odds h g_world g_images g_pad g_hearing g_bowls g_guesses) s.heap := hP
  have hl := lv_entry ([.ref h, .int p1, .int p2, .int p3, .int p4, .int p5]) (n := 12) (Nat.le_of_ble_eq_true rfl)
  rw [lg_entry_eq]
  generalize (lg_sl ([.ref h, .int p1, .int p2, .int p3, .int p4, .int p5]) ++ List.replicate (12 - (lg_sl ([.ref h, .int p1, .int p2, .int p3, .int p4, .int p5])).length) Slot.unset).toArray = ls at hl ⊢
  have hl : lv_has ls 12 [(0, .ref h), (1, .int p1), (2, .int p2), (3, .int p3), (4, .int p4), (5, .int p5)] := hl
  have J134 : ∀ (x10 : Int64) (s0 : Int64) (H : Heap) (locs : List Loc) (ls : Array Slot) (hw : w_X8_odds_B134 post p1 p2 p3 p4 p5 x10 s0) (hP : va_P D vwCl (cw_X8_odds h g_world g_images g_pad g_hearing g_bowls g_guesses) H) (hD : va_D A (cw_X8_odds h g_world g_images g_pad g_hearing g_bowls g_guesses)) (hS : va_S A s.heap H locs) (hl : lv_has ls 12 [(10, .long x10)]), W p l e (headSpec v_X8_odds ({ frames := 1, cells := 0, slots := 0, locals := 30 } : Room)).room s m (([.ref h, .int p1, .int p2, .int p3, .int p4, .int p5] : List Value).toArray) below meth c H locs 0 0 (MQ below (q_X8_odds D h g_world g_images g_pad g_hearing g_bowls g_guesses post A) (([.ref h, .int p1, .int p2, .int p3, .int p4, .int p5] : List Value).toArray) s 0 0 A) (F0 m 134 ls [.long s0]) := by
    intro x10 s0 H locs ls hw hP hD hS hl
    unfold w_X8_odds_B134 at hw
    refine lv_lload hx hb dX8_odds_134 (lv_at hl 0 rfl) ?_
    obtain ⟨hz136, hw⟩ := hw
    refine lv_ldiv hx hb dX8_odds_136 hz136 ?_
    exact z_lret hx hb hr hlocks () hw hP hS dX8_odds_137
  unfold w_X8_odds at hw
  refine lv_iload_n hx hb dX8_odds_0 rfl (lv_at hl 1 rfl) ?_
  refine lv_iconst (v := (1 : Int32)) hx hb dX8_odds_1 (by decide) ?_
  refine lv_bipush (v := (9 : Int32)) hx hb dX8_odds_2 (by decide) ?_
  refine z_ri (z_runS (As := [.int p1, .int (1 : Int32), .int (9 : Int32)]) (rest := []) hF (c_X8_within l D cI cC cZ p1 (1 : Int32) (9 : Int32) _ _ hw) (va_cwS 3 hz (z_gS z1_212 z1_213 z1_1 z1_214) rfl rfl rfl hd_X8_within ⟨Nat.le_of_ble_eq_true rfl, Nat.le_of_ble_eq_true rfl⟩) hK hP hD [] rfl rfl rfl hl.1 rfl (Nat.le_of_ble_eq_true rfl) dX8_odds_4 ⟨Nat.zero_le _, Nat.zero_le _⟩) hP hD hS hA [] rfl (fun _ => rfl) (fun _ => cw_X8_odds h g_world g_images g_pad g_hearing g_bowls g_guesses) (fun _ => rfl) (fun r4 u4 H locs hw hP hD hS => ?_)
  obtain ⟨hn4, hw⟩ := hw
  try dsimp only at hw
  refine lv_if_eq (tgt := 30) hx hb dX8_odds_7 (by decide) (fun c7 => ?_) (fun c7 => ?_)
  · have hw := hw.1 c7
    refine lv_ldc2 (v := (-1000000000000000002 : Int64)) hx hb hown (hz _ z3_88) dX8_odds_30 ?_
    exact z_lret hx hb hr hlocks () hw hP hS dX8_odds_33
  have hw := hw.2 c7
  refine lv_iload_n hx hb dX8_odds_10 rfl (lv_at hl 2 rfl) ?_
  refine lv_iconst (v := (1 : Int32)) hx hb dX8_odds_11 (by decide) ?_
  refine lv_bipush (v := (9 : Int32)) hx hb dX8_odds_12 (by decide) ?_
  refine z_ri (z_runS (As := [.int p2, .int (1 : Int32), .int (9 : Int32)]) (rest := []) hF (c_X8_within l D cI cC cZ p2 (1 : Int32) (9 : Int32) _ _ hw) (va_cwS 3 hz (z_gS z1_212 z1_213 z1_1 z1_214) rfl rfl rfl hd_X8_within ⟨Nat.le_of_ble_eq_true rfl, Nat.le_of_ble_eq_true rfl⟩) hK hP hD [] rfl rfl rfl hl.1 rfl (Nat.le_of_ble_eq_true rfl) dX8_odds_14 ⟨Nat.zero_le _, Nat.zero_le _⟩) hP hD hS hA [] rfl (fun _ => rfl) (fun _ => cw_X8_odds h g_world g_images g_pad g_hearing g_bowls g_guesses) (fun _ => rfl) (fun r14 u14 H locs hw hP hD hS => ?_)
  obtain ⟨hn14, hw⟩ := hw
  try dsimp only at hw
  refine lv_if_eq (tgt := 30) hx hb dX8_odds_17 (by decide) (fun c17 => ?_) (fun c17 => ?_)
  · have hw := hw.1 c17
    refine lv_ldc2 (v := (-1000000000000000002 : Int64)) hx hb hown (hz _ z3_88) dX8_odds_30 ?_
    exact z_lret hx hb hr hlocks () hw hP hS dX8_odds_33
  have hw := hw.2 c17
  refine lv_iload_n hx hb dX8_odds_20 rfl (lv_at hl 3 rfl) ?_
  refine lv_iconst (v := (0 : Int32)) hx hb dX8_odds_21 (by decide) ?_
  refine lv_bipush (v := (15 : Int32)) hx hb dX8_odds_22 (by decide) ?_
  refine z_ri (z_runS (As := [.int p3, .int (0 : Int32), .int (15 : Int32)]) (rest := []) hF (c_X8_within l D cI cC cZ p3 (0 : Int32) (15 : Int32) _ _ hw) (va_cwS 3 hz (z_gS z1_212 z1_213 z1_1 z1_214) rfl rfl rfl hd_X8_within ⟨Nat.le_of_ble_eq_true rfl, Nat.le_of_ble_eq_true rfl⟩) hK hP hD [] rfl rfl rfl hl.1 rfl (Nat.le_of_ble_eq_true rfl) dX8_odds_24 ⟨Nat.zero_le _, Nat.zero_le _⟩) hP hD hS hA [] rfl (fun _ => rfl) (fun _ => cw_X8_odds h g_world g_images g_pad g_hearing g_bowls g_guesses) (fun _ => rfl) (fun r24 u24 H locs hw hP hD hS => ?_)
  obtain ⟨hn24, hw⟩ := hw
  try dsimp only at hw
  refine lv_if_ne (tgt := 34) hx hb dX8_odds_27 (by decide) (fun c27 => ?_) (fun c27 => ?_)
  · have hw := hw.2 c27
    refine lv_iload hx hb dX8_odds_34 (lv_at hl 4 rfl) ?_
    refine lv_iconst (v := (0 : Int32)) hx hb dX8_odds_36 (by decide) ?_
    refine lv_iload_n hx hb dX8_odds_37 rfl (lv_at hl 3 rfl) ?_
    refine z_ri (z_runS (As := [.int p4, .int (0 : Int32), .int p3]) (rest := []) hF (c_X8_within l D cI cC cZ p4 (0 : Int32) p3 _ _ hw) (va_cwS 3 hz (z_gS z1_212 z1_213 z1_1 z1_214) rfl rfl rfl hd_X8_within ⟨Nat.le_of_ble_eq_true rfl, Nat.le_of_ble_eq_true rfl⟩) hK hP hD [] rfl rfl rfl hl.1 rfl (Nat.le_of_ble_eq_true rfl) dX8_odds_38 ⟨Nat.zero_le _, Nat.zero_le _⟩) hP hD hS hA [] rfl (fun _ => rfl) (fun _ => cw_X8_odds h g_world g_images g_pad g_hearing g_bowls g_guesses) (fun _ => rfl) (fun r38 u38 H locs hw hP hD hS => ?_)
    obtain ⟨hn38, hw⟩ := hw
    try dsimp only at hw
    refine lv_if_eq (tgt := 54) hx hb dX8_odds_41 (by decide) (fun c41 => ?_) (fun c41 => ?_)
    · have hw := hw.1 c41
      refine lv_ldc2 (v := (-1000000000000000002 : Int64)) hx hb hown (hz _ z3_88) dX8_odds_54 ?_
      exact z_lret hx hb hr hlocks () hw hP hS dX8_odds_57
    have hw := hw.2 c41
    refine lv_iload hx hb dX8_odds_44 (lv_at hl 5 rfl) ?_
    refine lv_iconst (v := (0 : Int32)) hx hb dX8_odds_46 (by decide) ?_
    refine lv_iconst (v := (1 : Int32)) hx hb dX8_odds_47 (by decide) ?_
    refine z_ri (z_runS (As := [.int p5, .int (0 : Int32), .int (1 : Int32)]) (rest := []) hF (c_X8_within l D cI cC cZ p5 (0 : Int32) (1 : Int32) _ _ hw) (va_cwS 3 hz (z_gS z1_212 z1_213 z1_1 z1_214) rfl rfl rfl hd_X8_within ⟨Nat.le_of_ble_eq_true rfl, Nat.le_of_ble_eq_true rfl⟩) hK hP hD [] rfl rfl rfl hl.1 rfl (Nat.le_of_ble_eq_true rfl) dX8_odds_48 ⟨Nat.zero_le _, Nat.zero_le _⟩) hP hD hS hA [] rfl (fun _ => rfl) (fun _ => cw_X8_odds h g_world g_images g_pad g_hearing g_bowls g_guesses) (fun _ => rfl) (fun r48 u48 H locs hw hP hD hS => ?_)
    obtain ⟨hn48, hw⟩ := hw
    try dsimp only at hw
    refine lv_if_ne (tgt := 58) hx hb dX8_odds_51 (by decide) (fun c51 => ?_) (fun c51 => ?_)
    · have hw := hw.2 c51
      refine lv_iload_n hx hb dX8_odds_58 rfl (lv_at hl 1 rfl) ?_
      refine lv_i2l (v := p1.toInt64) hx hb dX8_odds_59 rfl ?_
      refine lv_iload_n hx hb dX8_odds_60 rfl (lv_at hl 2 rfl) ?_
      refine lv_iload hx hb dX8_odds_61 (lv_at hl 4 rfl) ?_
      refine z_rl (z_runS (As := [.int p2, .int p4]) (rest := [.long (p1.toInt64)]) hF (c_X8_power l D cI cC cZ p2 p4 _ _ hw) (va_cwS 2 hz (z_gS z3_89 z3_90 z1_1 z3_91) rfl rfl rfl hd_X8_power ⟨Nat.le_of_ble_eq_true rfl, Nat.le_of_ble_eq_true rfl⟩) hK hP hD [] rfl rfl rfl hl.1 rfl (Nat.le_of_ble_eq_true rfl) dX8_odds_63 ⟨Nat.zero_le _, Nat.zero_le _⟩) hP hD hS hA [] rfl (fun _ => rfl) (fun _ => cw_X8_odds h g_world g_images g_pad g_hearing g_bowls g_guesses) (fun _ => rfl) (fun r63 u63 H locs hw hP hD hS => ?_)
      try dsimp only at hw
      refine lv_lmul hx hb dX8_odds_66 ?_
      refine lv_bipush (v := (10 : Int32)) hx hb dX8_odds_67 (by decide) ?_
      refine lv_iload_n hx hb dX8_odds_69 rfl (lv_at hl 2 rfl) ?_
      refine lv_isub hx hb dX8_odds_70 ?_
      refine lv_iload_n hx hb dX8_odds_71 rfl (lv_at hl 3 rfl) ?_
      refine lv_iload hx hb dX8_odds_72 (lv_at hl 4 rfl) ?_
      refine lv_isub hx hb dX8_odds_74 ?_
      refine z_rl (z_runS (As := [.int ((10 : Int32) - p2), .int (p3 - p4)]) (rest := [.long (p1.toInt64 * r63)]) hF (c_X8_power l D cI cC cZ ((10 : Int32) - p2) (p3 - p4) _ _ hw) (va_cwS 2 hz (z_gS z3_89 z3_90 z1_1 z3_91) rfl rfl rfl hd_X8_power ⟨Nat.le_of_ble_eq_true rfl, Nat.le_of_ble_eq_true rfl⟩) hK hP hD [] rfl rfl rfl hl.1 rfl (Nat.le_of_ble_eq_true rfl) dX8_odds_75 ⟨Nat.zero_le _, Nat.zero_le _⟩) hP hD hS hA [] rfl (fun _ => rfl) (fun _ => cw_X8_odds h g_world g_images g_pad g_hearing g_bowls g_guesses) (fun _ => rfl) (fun r75 u75 H locs hw hP hD hS => ?_)
      try dsimp only at hw
      refine lv_lmul hx hb dX8_odds_78 ?_
      refine lv_topl (fun y79 ey79 => ?_)
      have hw := hw y79 ey79
      refine lv_lstore (lv' := [(6, .long y79), (0, .ref h), (1, .int p1), (2, .int p2), (3, .int p3), (4, .int p4), (5, .int p5)]) hx hb dX8_odds_79 hl (by decide) rfl (fun ls hl => ?_)
      refine lv_bipush (v := (10 : Int32)) hx hb dX8_odds_81 (by decide) ?_
      refine lv_iload_n hx hb dX8_odds_83 rfl (lv_at hl 2 rfl) ?_
      refine lv_isub hx hb dX8_odds_84 ?_
      refine lv_i2l (v := ((10 : Int32) - p1).toInt64) hx hb dX8_odds_85 rfl ?_
      refine lv_bipush (v := (10 : Int32)) hx hb dX8_odds_86 (by decide) ?_
      refine lv_iload_n hx hb dX8_odds_88 rfl (lv_at hl 3 rfl) ?_
      refine lv_isub hx hb dX8_odds_89 ?_
      refine lv_iload hx hb dX8_odds_90 (lv_at hl 5 rfl) ?_
      refine z_rl (z_runS (As := [.int ((10 : Int32) - p2), .int p4]) (rest := [.long (((10 : Int32) - p1).toInt64)]) hF (c_X8_power l D cI cC cZ ((10 : Int32) - p2) p4 _ _ hw) (va_cwS 2 hz (z_gS z3_89 z3_90 z1_1 z3_91) rfl rfl rfl hd_X8_power ⟨Nat.le_of_ble_eq_true rfl, Nat.le_of_ble_eq_true rfl⟩) hK hP hD [] rfl rfl rfl hl.1 rfl (Nat.le_of_ble_eq_true rfl) dX8_odds_92 ⟨Nat.zero_le _, Nat.zero_le _⟩) hP hD hS hA [] rfl (fun _ => rfl) (fun _ => cw_X8_odds h g_world g_images g_pad g_hearing g_bowls g_guesses) (fun _ => rfl) (fun r92 u92 H locs hw hP hD hS => ?_)
      try dsimp only at hw
      refine lv_lmul hx hb dX8_odds_95 ?_
      refine lv_iload_n hx hb dX8_odds_96 rfl (lv_at hl 3 rfl) ?_
      refine lv_iload_n hx hb dX8_odds_97 rfl (lv_at hl 4 rfl) ?_
      refine lv_iload hx hb dX8_odds_98 (lv_at hl 5 rfl) ?_
      refine lv_isub hx hb dX8_odds_100 ?_
      refine z_rl (z_runS (As := [.int p2, .int (p3 - p4)]) (rest := [.long (((10 : Int32) - p1).toInt64 * r92)]) hF (c_X8_power l D cI cC cZ p2 (p3 - p4) _ _ hw) (va_cwS 2 hz (z_gS z3_89 z3_90 z1_1 z3_91) rfl rfl rfl hd_X8_power ⟨Nat.le_of_ble_eq_true rfl, Nat.le_of_ble_eq_true rfl⟩) hK hP hD [] rfl rfl rfl hl.1 rfl (Nat.le_of_ble_eq_true rfl) dX8_odds_101 ⟨Nat.zero_le _, Nat.zero_le _⟩) hP hD hS hA [] rfl (fun _ => rfl) (fun _ => cw_X8_odds h g_world g_images g_pad g_hearing g_bowls g_guesses) (fun _ => rfl) (fun r101 u101 H locs hw hP hD hS => ?_)
      try dsimp only at hw
      refine lv_lmul hx hb dX8_odds_104 ?_
      refine lv_topl (fun y105 ey105 => ?_)
      have hw := hw y105 ey105
      refine lv_lstore (lv' := [(8, .long y105), (6, .long y79), (0, .ref h), (1, .int p1), (2, .int p2), (3, .int p3), (4, .int p4), (5, .int p5)]) hx hb dX8_odds_105 hl (by decide) rfl (fun ls hl => ?_)
      refine lv_lload hx hb dX8_odds_107 (lv_at hl 1 rfl) ?_
      refine lv_lload hx hb dX8_odds_109 (lv_at hl 0 rfl) ?_
      refine lv_ladd hx hb dX8_odds_111 ?_
      refine lv_lload hx hb dX8_odds_112 (lv_at hl 1 rfl) ?_
      refine z_rl (z_runS (As := [.long (y79 + y105), .long y79]) (rest := []) hF (c_X8_commonDivisor l D cI cC cZ (y79 + y105) y79 _ _ hw) (va_cwS 2 hz (z_gS z3_92 z3_93 z1_1 z3_94) rfl rfl rfl hd_X8_commonDivisor ⟨Nat.le_of_ble_eq_true rfl, Nat.le_of_ble_eq_true rfl⟩) hK hP hD [] rfl rfl rfl hl.1 rfl (Nat.le_of_ble_eq_true rfl) dX8_odds_114 ⟨Nat.zero_le _, Nat.zero_le _⟩) hP hD hS hA [] rfl (fun _ => rfl) (fun _ => cw_X8_odds h g_world g_images g_pad g_hearing g_bowls g_guesses) (fun _ => rfl) (fun r114 u114 H locs hw hP hD hS => ?_)
      try dsimp only at hw
      refine lv_lstore (lv' := [(10, .long r114), (8, .long y105), (6, .long y79), (0, .ref h), (1, .int p1), (2, .int p2), (3, .int p3), (4, .int p4), (5, .int p5)]) hx hb dX8_odds_117 hl (by decide) rfl (fun ls hl => ?_)
      refine lv_iload hx hb dX8_odds_119 (lv_at hl 8 rfl) ?_
      refine lv_if_ne (tgt := 129) hx hb dX8_odds_121 (by decide) (fun c121 => ?_) (fun c121 => ?_)
      · have hw := hw.2 c121
        refine lv_lload hx hb dX8_odds_129 (lv_at hl 2 rfl) ?_
        refine lv_lload hx hb dX8_odds_131 (lv_at hl 1 rfl) ?_
        refine lv_ladd hx hb dX8_odds_133 ?_
        exact J134 r114 (y79 + y105) _ _ _ hw hP hD hS (lv_sub hl [0] rfl)
      have hw := hw.1 c121
      refine lv_lload hx hb dX8_odds_124 (lv_at hl 2 rfl) ?_
      refine lv_goto (tgt := 134) hx hb dX8_odds_126 (by decide) ?_
      exact J134 r114 y79 _ _ _ hw hP hD hS (lv_sub hl [0] rfl)
    have hw := hw.1 c51
    refine lv_ldc2 (v := (-1000000000000000002 : Int64)) hx hb hown (hz _ z3_88) dX8_odds_54 ?_
    exact z_lret hx hb hr hlocks () hw hP hS dX8_odds_57
  have hw := hw.1 c27
  refine lv_ldc2 (v := (-1000000000000000002 : Int64)) hx hb hown (hz _ z3_88) dX8_odds_30 ?_
  exact z_lret hx hb hr hlocks () hw hP hS dX8_odds_33
abbrev cw_X3_drawnKind : va_W := []
abbrev q_X3_drawnKind (D : va_G) (post : Int32 → Prop) (A : Nat → Prop) : Array Value → State → Outcome → State → Prop := va_Qi (S := Unit) (fun r _ => narrow .char (.int r) = .int r ∧ post r ) (fun _ t => va_P D vwCl (cw_X3_drawnKind) t.heap) A
abbrev v_X3_drawnKind : List Cond := .code yX3_drawnKind cX3_drawnKind 1 (some .char) :: zB
theorem hd_X3_drawnKind : yX3_drawnKind.cls ≠ "java/lang/invoke/MethodHandle" ∧ yX3_drawnKind.cls ≠ "java/lang/invoke/VarHandle" ∧ (parseMethodDescriptor yX3_drawnKind.desc).map (fun d => d.parameters.length) = some 1 := by decide +kernel
set_option maxHeartbeats 4000000 in
set_option maxRecDepth 100000 in
theorem c_X3_drawnKind (l : Launch) (D : va_G) (cI cC cZ : ClassId) (p0 : Int32) (sz : Nat) (post : Int32 → Prop) (hw : w_X3_drawnKind post p0) : Met l yX3_drawnKind v_X3_drawnKind ({ frames := 0, cells := 0, slots := 0, locals := 0 } : Room) (va_Pc [.int p0] (zPre D (zT cI cC cZ) sz (cw_X3_drawnKind))) (q_X3_drawnKind D post (va_A (cw_X3_drawnKind) sz)) 0 0 (va_A (cw_X3_drawnKind) sz) := by
  refine Met.ofW (cc := cX3_drawnKind) (maxL := 1) (ret := (some .char)) (by decide) rfl ?_
  intro p e s m args below meth c s₁ B hml hv
  obtain ⟨rfl, hsz, hP, hK, hD0⟩ := hv
  subst hsz
  have hx := B.exec
  have hb := B.bytes
  have hr := B.returns
  have hz : ∀ w ∈ zB, w.before _ s = true := fun w h => atoms_spec (ws := v_X3_drawnKind) B.pre w (List.mem_cons_of_mem _ h)
  have hown : s.vm.findClass RX3 = some m.cls := findClass_of_methodNamed B.named
  have hlocks := B.notSynchronized
  have hF : CallFix p m c cX3_drawnKind 1 s (([.int p0] : List Value).toArray) zB RX3 := ⟨hx, hb, hml, hown, hz⟩
  have hD := hD0.self (sz := s.heap.size)
  generalize hAe : va_A (cw_X3_drawnKind) s.heap.size = A at hD ⊢
  have hA : ∀ q : Nat, s.heap.size ≤ q → A q := fun q h => by rw [← hAe]; exact Or.inr h
  have hS : va_S A s.heap s.heap [] := va_S.rf
  have hP : va_P D vwCl (cw_X3_drawnKind) s.heap := hP
  have hl := lv_entry ([.int p0]) (n := 1) (Nat.le_of_ble_eq_true rfl)
  rw [lg_entry_eq]
  generalize (lg_sl ([.int p0]) ++ List.replicate (1 - (lg_sl ([.int p0])).length) Slot.unset).toArray = ls at hl ⊢
  have hl : lv_has ls 1 [(0, .int p0)] := hl
  unfold w_X3_drawnKind at hw
  refine lv_iload_n hx hb dX3_drawnKind_0 rfl (lv_at hl 0 rfl) ?_
  by_cases c1_0 : p0 = (0 : Int32)
  · have hw := hw.1 c1_0
    refine lv_tableIn (off := 35) (tgt := 36) hx hb dX3_drawnKind_1 (by rw [c1_0]; decide) (by rw [c1_0]; decide) (by rw [c1_0]; rfl) (by decide) ?_
    refine lv_bipush (v := (62 : Int32)) hx hb dX3_drawnKind_36 (by decide) ?_
    exact z_zret hx hb hr hlocks rfl () hw hP hS dX3_drawnKind_38
  have hw := hw.2 c1_0
  have i1_0 : p0.toInt ≠ 0 := fun h => c1_0 (Int32.toInt_inj.mp (h.trans (by decide)))
  by_cases c1_1 : p0 = (1 : Int32)
  · have hw := hw.1 c1_1
    refine lv_tableIn (off := 38) (tgt := 39) hx hb dX3_drawnKind_1 (by rw [c1_1]; decide) (by rw [c1_1]; decide) (by rw [c1_1]; rfl) (by decide) ?_
    refine lv_bipush (v := (60 : Int32)) hx hb dX3_drawnKind_39 (by decide) ?_
    exact z_zret hx hb hr hlocks rfl () hw hP hS dX3_drawnKind_41
  have hw := hw.2 c1_1
  have i1_1 : p0.toInt ≠ 1 := fun h => c1_1 (Int32.toInt_inj.mp (h.trans (by decide)))
  by_cases c1_2 : p0 = (2 : Int32)
  · have hw := hw.1 c1_2
    refine lv_tableIn (off := 41) (tgt := 42) hx hb dX3_drawnKind_1 (by rw [c1_2]; decide) (by rw [c1_2]; decide) (by rw [c1_2]; rfl) (by decide) ?_
    refine lv_bipush (v := (63 : Int32)) hx hb dX3_drawnKind_42 (by decide) ?_
    exact z_zret hx hb hr hlocks rfl () hw hP hS dX3_drawnKind_44
  have hw := hw.2 c1_2
  have i1_2 : p0.toInt ≠ 2 := fun h => c1_2 (Int32.toInt_inj.mp (h.trans (by decide)))
  by_cases c1_3 : p0 = (3 : Int32)
  · have hw := hw.1 c1_3
    refine lv_tableIn (off := 44) (tgt := 45) hx hb dX3_drawnKind_1 (by rw [c1_3]; decide) (by rw [c1_3]; decide) (by rw [c1_3]; rfl) (by decide) ?_
    refine lv_bipush (v := (61 : Int32)) hx hb dX3_drawnKind_45 (by decide) ?_
    exact z_zret hx hb hr hlocks rfl () hw hP hS dX3_drawnKind_47
  have hw := hw.2 c1_3
  have i1_3 : p0.toInt ≠ 3 := fun h => c1_3 (Int32.toInt_inj.mp (h.trans (by decide)))
  by_cases c1_4 : p0 = (4 : Int32)
  · have hw := hw.1 c1_4
    refine lv_tableIn (off := 47) (tgt := 48) hx hb dX3_drawnKind_1 (by rw [c1_4]; decide) (by rw [c1_4]; decide) (by rw [c1_4]; rfl) (by decide) ?_
    refine lv_bipush (v := (126 : Int32)) hx hb dX3_drawnKind_48 (by decide) ?_
    exact z_zret hx hb hr hlocks rfl () hw hP hS dX3_drawnKind_50
  have hw := hw.2 c1_4
  have i1_4 : p0.toInt ≠ 4 := fun h => c1_4 (Int32.toInt_inj.mp (h.trans (by decide)))
  refine lv_tableOut (tgt := 51) hx hb dX3_drawnKind_1 (by omega) (by decide) ?_
  refine lv_bipush (v := (46 : Int32)) hx hb dX3_drawnKind_51 (by decide) ?_
  exact z_zret hx hb hr hlocks rfl () hw hP hS dX3_drawnKind_53
abbrev cw_X3_drawnNumber : va_W := []
abbrev q_X3_drawnNumber (D : va_G) (post : Int32 → Prop) (A : Nat → Prop) : Array Value → State → Outcome → State → Prop := va_Qi (S := Unit) (fun r _ => post r ) (fun _ t => va_P D vwCl (cw_X3_drawnNumber) t.heap) A
abbrev v_X3_drawnNumber : List Cond := .code yX3_drawnNumber cX3_drawnNumber 2 (some .int) :: zB
theorem hd_X3_drawnNumber : yX3_drawnNumber.cls ≠ "java/lang/invoke/MethodHandle" ∧ yX3_drawnNumber.cls ≠ "java/lang/invoke/VarHandle" ∧ (parseMethodDescriptor yX3_drawnNumber.desc).map (fun d => d.parameters.length) = some 2 := by decide +kernel
set_option maxHeartbeats 4000000 in
set_option maxRecDepth 100000 in
theorem c_X3_drawnNumber (l : Launch) (D : va_G) (cI cC cZ : ClassId) (p0 : Int32) (p1 : Int32) (sz : Nat) (post : Int32 → Prop) (hw : w_X3_drawnNumber post p0 p1) : Met l yX3_drawnNumber v_X3_drawnNumber ({ frames := 0, cells := 0, slots := 0, locals := 0 } : Room) (va_Pc [.int p0, .int p1] (zPre D (zT cI cC cZ) sz (cw_X3_drawnNumber))) (q_X3_drawnNumber D post (va_A (cw_X3_drawnNumber) sz)) 0 0 (va_A (cw_X3_drawnNumber) sz) := by
  refine Met.ofW (cc := cX3_drawnNumber) (maxL := 2) (ret := (some .int)) (by decide) rfl ?_
  intro p e s m args below meth c s₁ B hml hv
  obtain ⟨rfl, hsz, hP, hK, hD0⟩ := hv
  subst hsz
  have hx := B.exec
  have hb := B.bytes
  have hr := B.returns
  have hz : ∀ w ∈ zB, w.before _ s = true := fun w h => atoms_spec (ws := v_X3_drawnNumber) B.pre w (List.mem_cons_of_mem _ h)
  have hown : s.vm.findClass RX3 = some m.cls := findClass_of_methodNamed B.named
  have hlocks := B.notSynchronized
  have hF : CallFix p m c cX3_drawnNumber 2 s (([.int p0, .int p1] : List Value).toArray) zB RX3 := ⟨hx, hb, hml, hown, hz⟩
  have hD := hD0.self (sz := s.heap.size)
  generalize hAe : va_A (cw_X3_drawnNumber) s.heap.size = A at hD ⊢
  have hA : ∀ q : Nat, s.heap.size ≤ q → A q := fun q h => by rw [← hAe]; exact Or.inr h
  have hS : va_S A s.heap s.heap [] := va_S.rf
  have hP : va_P D vwCl (cw_X3_drawnNumber) s.heap := hP
  have hl := lv_entry ([.int p0, .int p1]) (n := 2) (Nat.le_of_ble_eq_true rfl)
  rw [lg_entry_eq]
  generalize (lg_sl ([.int p0, .int p1]) ++ List.replicate (2 - (lg_sl ([.int p0, .int p1])).length) Slot.unset).toArray = ls at hl ⊢
  have hl : lv_has ls 2 [(0, .int p0), (1, .int p1)] := hl
  have J12 : ∀ (H : Heap) (locs : List Loc) (ls : Array Slot) (hw : w_X3_drawnNumber_B12 post p0 p1) (hP : va_P D vwCl (cw_X3_drawnNumber) H) (hD : va_D A (cw_X3_drawnNumber)) (hS : va_S A s.heap H locs) (hl : lv_has ls 2 [(1, .int p1)]), W p l e (headSpec v_X3_drawnNumber ({ frames := 0, cells := 0, slots := 0, locals := 0 } : Room)).room s m (([.int p0, .int p1] : List Value).toArray) below meth c H locs 0 0 (MQ below (q_X3_drawnNumber D post A) (([.int p0, .int p1] : List Value).toArray) s 0 0 A) (F0 m 12 ls []) := by
    intro H locs ls hw hP hD hS hl
    unfold w_X3_drawnNumber_B12 at hw
    refine lv_iload_n hx hb dX3_drawnNumber_12 rfl (lv_at hl 0 rfl) ?_
    refine lv_bipush (v := (9 : Int32)) hx hb dX3_drawnNumber_13 (by decide) ?_
    refine lv_irem hx hb dX3_drawnNumber_15 (by decide) ?_
    refine lv_iconst (v := (1 : Int32)) hx hb dX3_drawnNumber_16 (by decide) ?_
    refine lv_iadd hx hb dX3_drawnNumber_17 ?_
    refine lv_goto (tgt := 25) hx hb dX3_drawnNumber_18 (by decide) ?_
    exact z_iret hx hb hr hlocks () hw hP hS dX3_drawnNumber_25
  unfold w_X3_drawnNumber at hw
  refine lv_iload_n hx hb dX3_drawnNumber_0 rfl (lv_at hl 0 rfl) ?_
  refine lv_bipush (v := (62 : Int32)) hx hb dX3_drawnNumber_1 (by decide) ?_
  refine lv_icmp_eq (tgt := 12) hx hb dX3_drawnNumber_3 (by decide) (fun c3 => ?_) (fun c3 => ?_)
  · have hw := hw.1 c3
    exact J12 _ _ _ hw hP hD hS (lv_sub hl [1] rfl)
  have hw := hw.2 c3
  refine lv_iload_n hx hb dX3_drawnNumber_6 rfl (lv_at hl 0 rfl) ?_
  refine lv_bipush (v := (60 : Int32)) hx hb dX3_drawnNumber_7 (by decide) ?_
  refine lv_icmp_ne (tgt := 21) hx hb dX3_drawnNumber_9 (by decide) (fun c9 => ?_) (fun c9 => ?_)
  · have hw := hw.2 c9
    refine lv_iload_n hx hb dX3_drawnNumber_21 rfl (lv_at hl 1 rfl) ?_
    refine lv_bipush (v := (8 : Int32)) hx hb dX3_drawnNumber_22 (by decide) ?_
    refine lv_irem hx hb dX3_drawnNumber_24 (by decide) ?_
    exact z_iret hx hb hr hlocks () hw hP hS dX3_drawnNumber_25
  have hw := hw.1 c9
  exact J12 _ _ _ hw hP hD hS (lv_sub hl [1] rfl)
abbrev cw_X3_draw (cI : ClassId) (h h_court h_court_places h_court_creams ha1 ha1_places ha1_creams : Nat) (f_court_places : Nat → Int32) (f_court_creams : Nat → Int32) (f_court_present : Int32) (f_court_lying : Int32) (f_court_his : Int32) (f_court_power : Int32) (f_court_spite : Int32) (f_court_hour : Int32) (f_acts : Int32) (f_reason : Int32) (f_firstOffAct : Int32) (f_firstOffWitness : Int32) (f_a1_places : Nat → Int32) (f_a1_creams : Nat → Int32) (f_a1_present : Int32) (f_a1_lying : Int32) (f_a1_his : Int32) (f_a1_power : Int32) (f_a1_spite : Int32) (f_a1_hour : Int32) : va_W := [(h, .inr (3, [.ref h_court, .int f_acts, .int f_reason, .int f_firstOffAct, .int f_firstOffWitness])), (h_court, .inr (1, [.ref h_court_places, .ref h_court_creams, .int f_court_present, .int f_court_lying, .int f_court_his, .int f_court_power, .int f_court_spite, .int f_court_hour])), (h_court_places, .inl (cI, 8, .inl f_court_places)), (h_court_creams, .inl (cI, 8, .inl f_court_creams)), (ha1, .inr (1, [.ref ha1_places, .ref ha1_creams, .int f_a1_present, .int f_a1_lying, .int f_a1_his, .int f_a1_power, .int f_a1_spite, .int f_a1_hour])), (ha1_places, .inl (cI, 8, .inl f_a1_places)), (ha1_creams, .inl (cI, 8, .inl f_a1_creams))]
abbrev q_X3_draw (D : va_G) (cI : ClassId) (h h_court h_court_places h_court_creams ha1 ha1_places ha1_creams : Nat) (post : (Nat → Int32) → (Nat → Int32) → Int32 → Int32 → Int32 → Int32 → Int32 → Int32 → Int32 → Int32 → Int32 → Int32 → Prop) (f_a1_places : Nat → Int32) (f_a1_creams : Nat → Int32) (f_a1_present : Int32) (f_a1_lying : Int32) (f_a1_his : Int32) (f_a1_power : Int32) (f_a1_spite : Int32) (f_a1_hour : Int32) (A : Nat → Prop) : Array Value → State → Outcome → State → Prop := va_Qv (S := (Nat → Int32) × (Nat → Int32) × Int32 × Int32 × Int32 × Int32 × Int32 × Int32 × Int32 × Int32 × Int32 × Int32) (fun u => post u.1 u.2.1 u.2.2.1 u.2.2.2.1 u.2.2.2.2.1 u.2.2.2.2.2.1 u.2.2.2.2.2.2.1 u.2.2.2.2.2.2.2.1 u.2.2.2.2.2.2.2.2.1 u.2.2.2.2.2.2.2.2.2.1 u.2.2.2.2.2.2.2.2.2.2.1 u.2.2.2.2.2.2.2.2.2.2.2) (fun u t => va_P D vwCl (cw_X3_draw cI h h_court h_court_places h_court_creams ha1 ha1_places ha1_creams u.1 u.2.1 u.2.2.1 u.2.2.2.1 u.2.2.2.2.1 u.2.2.2.2.2.1 u.2.2.2.2.2.2.1 u.2.2.2.2.2.2.2.1 u.2.2.2.2.2.2.2.2.1 u.2.2.2.2.2.2.2.2.2.1 u.2.2.2.2.2.2.2.2.2.2.1 u.2.2.2.2.2.2.2.2.2.2.2 f_a1_places f_a1_creams f_a1_present f_a1_lying f_a1_his f_a1_power f_a1_spite f_a1_hour) t.heap) A
abbrev v_X3_draw : List Cond := .code yX3_draw cX3_draw 7 none :: zB
theorem hd_X3_draw : yX3_draw.cls = RX3 ∧ yX3_draw.cls ≠ "java/lang/invoke/MethodHandle" ∧ yX3_draw.cls ≠ "java/lang/invoke/VarHandle" ∧ (parseMethodDescriptor yX3_draw.desc).map (fun d => d.parameters.length) = some 3 := by decide +kernel
set_option maxHeartbeats 4000000 in
set_option maxRecDepth 100000 in
theorem c_X3_draw (l : Launch) (D : va_G) (cI cC cZ : ClassId) (h h_court h_court_places h_court_creams ha1 ha1_places ha1_creams : Nat) (f_court_places : Nat → Int32) (f_court_creams : Nat → Int32) (f_court_present : Int32) (f_court_lying : Int32) (f_court_his : Int32) (f_court_power : Int32) (f_court_spite : Int32) (f_court_hour : Int32) (f_acts : Int32) (f_reason : Int32) (f_firstOffAct : Int32) (f_firstOffWitness : Int32) (f_a1_places : Nat → Int32) (f_a1_creams : Nat → Int32) (f_a1_present : Int32) (f_a1_lying : Int32) (f_a1_his : Int32) (f_a1_power : Int32) (f_a1_spite : Int32) (f_a1_hour : Int32) (p2 : Int32) (p3 : Int32) (sz : Nat) (post : (Nat → Int32) → (Nat → Int32) → Int32 → Int32 → Int32 → Int32 → Int32 → Int32 → Int32 → Int32 → Int32 → Int32 → Prop) (hw : w_X3_draw post f_court_places f_court_creams f_court_present f_court_lying f_court_his f_court_power f_court_spite f_court_hour f_acts f_reason f_firstOffAct f_firstOffWitness f_a1_places f_a1_creams f_a1_present f_a1_lying f_a1_his f_a1_power f_a1_spite f_a1_hour p2 p3) : Met l yX3_draw v_X3_draw ({ frames := 6, cells := 0, slots := 0, locals := 138 } : Room) (va_Pc [.ref h, .ref ha1, .int p2, .int p3] (zPre D (zT cI cC cZ) sz (cw_X3_draw cI h h_court h_court_places h_court_creams ha1 ha1_places ha1_creams f_court_places f_court_creams f_court_present f_court_lying f_court_his f_court_power f_court_spite f_court_hour f_acts f_reason f_firstOffAct f_firstOffWitness f_a1_places f_a1_creams f_a1_present f_a1_lying f_a1_his f_a1_power f_a1_spite f_a1_hour))) (q_X3_draw D cI h h_court h_court_places h_court_creams ha1 ha1_places ha1_creams post f_a1_places f_a1_creams f_a1_present f_a1_lying f_a1_his f_a1_power f_a1_spite f_a1_hour (va_A (cw_X3_draw cI h h_court h_court_places h_court_creams ha1 ha1_places ha1_creams f_court_places f_court_creams f_court_present f_court_lying f_court_his f_court_power f_court_spite f_court_hour f_acts f_reason f_firstOffAct f_firstOffWitness f_a1_places f_a1_creams f_a1_present f_a1_lying f_a1_his f_a1_power f_a1_spite f_a1_hour) sz)) 0 0 (va_A (cw_X3_draw cI h h_court h_court_places h_court_creams ha1 ha1_places ha1_creams f_court_places f_court_creams f_court_present f_court_lying f_court_his f_court_power f_court_spite f_court_hour f_acts f_reason f_firstOffAct f_firstOffWitness f_a1_places f_a1_creams f_a1_present f_a1_lying f_a1_his f_a1_power f_a1_spite f_a1_hour) sz) := by
  refine Met.ofW (cc := cX3_draw) (maxL := 7) (ret := none) (by decide) rfl ?_
  intro p e s m args below meth c s₁ B hml hv
  obtain ⟨rfl, hsz, hP, hK, hD0⟩ := hv
  subst hsz
  have hx := B.exec
  have hb := B.bytes
  have hr := B.returns
  have hz : ∀ w ∈ zB, w.before _ s = true := fun w h => atoms_spec (ws := v_X3_draw) B.pre w (List.mem_cons_of_mem _ h)
  have hown : s.vm.findClass RX3 = some m.cls := findClass_of_methodNamed B.named
  have hlocks := B.notSynchronized
  have hF : CallFix p m c cX3_draw 7 s (([.ref h, .ref ha1, .int p2, .int p3] : List Value).toArray) zB RX3 := ⟨hx, hb, hml, hown, hz⟩
  have hD := hD0.self (sz := s.heap.size)
  generalize hAe : va_A (cw_X3_draw cI h h_court h_court_places h_court_creams ha1 ha1_places ha1_creams f_court_places f_court_creams f_court_present f_court_lying f_court_his f_court_power f_court_spite f_court_hour f_acts f_reason f_firstOffAct f_firstOffWitness f_a1_places f_a1_creams f_a1_present f_a1_lying f_a1_his f_a1_power f_a1_spite f_a1_hour) s.heap.size = A at hD ⊢
  have hA : ∀ q : Nat, s.heap.size ≤ q → A q := fun q h => by rw [← hAe]; exact Or.inr h
  have hS : va_S A s.heap s.heap [] := va_S.rf
  have hP : va_P D vwCl (cw_X3_draw cI h h_court h_court_places h_court_creams ha1 ha1_places ha1_creams f_court_places f_court_creams f_court_present f_court_lying f_court_his f_court_power f_court_spite f_court_hour f_acts f_reason f_firstOffAct f_firstOffWitness f_a1_places f_a1_creams f_a1_present f_a1_lying f_a1_his f_a1_power f_a1_spite f_a1_hour) s.heap := hP
  have hl := lv_entry ([.ref h, .ref ha1, .int p2, .int p3]) (n := 7) (Nat.le_of_ble_eq_true rfl)
  rw [lg_entry_eq]
  generalize (lg_sl ([.ref h, .ref ha1, .int p2, .int p3]) ++ List.replicate (7 - (lg_sl ([.ref h, .ref ha1, .int p2, .int p3])).length) Slot.unset).toArray = ls at hl ⊢
  have hl : lv_has ls 7 [(0, .ref h), (1, .ref ha1), (2, .int p2), (3, .int p3)] := hl
  have L11 : ∀ (n11 : Nat) (f_court_places : Nat → Int32) (f_court_creams : Nat → Int32) (f_court_present : Int32) (f_court_lying : Int32) (f_court_his : Int32) (f_court_power : Int32) (f_court_spite : Int32) (f_court_hour : Int32) (f_acts : Int32) (f_reason : Int32) (f_firstOffAct : Int32) (f_firstOffWitness : Int32) (x4 : Int32) (x5 : Int32) (H : Heap) (locs : List Loc) (ls : Array Slot) (hw : w_X3_draw_B11 post f_a1_places f_a1_creams f_a1_present f_a1_lying f_a1_his f_a1_power f_a1_spite f_a1_hour p2 p3 n11 f_court_places f_court_creams f_court_present f_court_lying f_court_his f_court_power f_court_spite f_court_hour f_acts f_reason f_firstOffAct f_firstOffWitness x4 x5) (hP : va_P D vwCl (cw_X3_draw cI h h_court h_court_places h_court_creams ha1 ha1_places ha1_creams f_court_places f_court_creams f_court_present f_court_lying f_court_his f_court_power f_court_spite f_court_hour f_acts f_reason f_firstOffAct f_firstOffWitness f_a1_places f_a1_creams f_a1_present f_a1_lying f_a1_his f_a1_power f_a1_spite f_a1_hour) H) (hD : va_D A (cw_X3_draw cI h h_court h_court_places h_court_creams ha1 ha1_places ha1_creams f_court_places f_court_creams f_court_present f_court_lying f_court_his f_court_power f_court_spite f_court_hour f_acts f_reason f_firstOffAct f_firstOffWitness f_a1_places f_a1_creams f_a1_present f_a1_lying f_a1_his f_a1_power f_a1_spite f_a1_hour)) (hS : va_S A s.heap H locs) (hl : lv_has ls 7 [(0, .ref h), (3, .int p3), (4, .int x4), (5, .int x5)]), W p l e (headSpec v_X3_draw ({ frames := 6, cells := 0, slots := 0, locals := 138 } : Room)).room s m (([.ref h, .ref ha1, .int p2, .int p3] : List Value).toArray) below meth c H locs 0 0 (MQ below (q_X3_draw D cI h h_court h_court_places h_court_creams ha1 ha1_places ha1_creams post f_a1_places f_a1_creams f_a1_present f_a1_lying f_a1_his f_a1_power f_a1_spite f_a1_hour A) (([.ref h, .ref ha1, .int p2, .int p3] : List Value).toArray) s 0 0 A) (F0 m 11 ls []) := by
    intro n11
    induction n11 with
    | zero => intro f_court_places f_court_creams f_court_present f_court_lying f_court_his f_court_power f_court_spite f_court_hour f_acts f_reason f_firstOffAct f_firstOffWitness x4 x5 H locs ls hw; exact False.elim hw
    | succ n11 ih11 =>
      intro f_court_places f_court_creams f_court_present f_court_lying f_court_his f_court_power f_court_spite f_court_hour f_acts f_reason f_firstOffAct f_firstOffWitness x4 x5 H locs ls hw hP hD hS hl
      unfold w_X3_draw_B11 at hw
      refine lv_iload hx hb dX3_draw_11 (lv_at hl 3 rfl) ?_
      refine lv_iload_n hx hb dX3_draw_13 rfl (lv_at hl 1 rfl) ?_
      refine lv_icmp_ge (tgt := 62) hx hb dX3_draw_14 (by decide) (fun c14 => ?_) (fun c14 => ?_)
      · have hw := hw.1 c14
        exact z_vret hx hb hr hlocks (f_court_places, f_court_creams, f_court_present, f_court_lying, f_court_his, f_court_power, f_court_spite, f_court_hour, f_acts, f_reason, f_firstOffAct, f_firstOffWitness) hw hP hS dX3_draw_62
      have hw := hw.2 c14
      refine lv_bipush (v := (75 : Int32)) hx hb dX3_draw_17 (by decide) ?_
      refine lv_iload hx hb dX3_draw_19 (lv_at hl 2 rfl) ?_
      refine lv_imul hx hb dX3_draw_21 ?_
      refine lv_bipush (v := (74 : Int32)) hx hb dX3_draw_22 (by decide) ?_
      refine lv_iadd hx hb dX3_draw_24 ?_
      refine lv_ldc (v := (65537 : Int32)) hx hb hown (hz _ z3_103) dX3_draw_25 ?_
      refine lv_irem hx hb dX3_draw_27 (by decide) ?_
      refine lv_topi (fun y28 ey28 => ?_)
      have hw := hw y28 ey28
      refine lv_istore (lv' := [(4, .int y28), (0, .ref h), (3, .int p3), (5, .int x5)]) hx hb dX3_draw_28 hl (by decide) rfl (fun ls hl => ?_)
      refine lv_iload hx hb dX3_draw_30 (lv_at hl 0 rfl) ?_
      refine lv_bipush (v := (8 : Int32)) hx hb dX3_draw_32 (by decide) ?_
      refine lv_irem hx hb dX3_draw_34 (by decide) ?_
      refine z_ri (z_runS (As := [.int (y28 - y28 / (8 : Int32) * (8 : Int32))]) (rest := []) hF (c_X3_drawnKind l D cI cC cZ (y28 - y28 / (8 : Int32) * (8 : Int32)) _ _ hw) (va_cwS 1 hz (z_gS z3_104 z3_105 z1_7 z3_106) rfl rfl rfl hd_X3_drawnKind ⟨Nat.le_of_ble_eq_true rfl, Nat.le_of_ble_eq_true rfl⟩) hK hP hD [] rfl rfl rfl hl.1 rfl (Nat.le_of_ble_eq_true rfl) dX3_draw_35 ⟨Nat.zero_le _, Nat.zero_le _⟩) hP hD hS hA [] rfl (fun _ => rfl) (fun _ => cw_X3_draw cI h h_court h_court_places h_court_creams ha1 ha1_places ha1_creams f_court_places f_court_creams f_court_present f_court_lying f_court_his f_court_power f_court_spite f_court_hour f_acts f_reason f_firstOffAct f_firstOffWitness f_a1_places f_a1_creams f_a1_present f_a1_lying f_a1_his f_a1_power f_a1_spite f_a1_hour) (fun _ => rfl) (fun r35 u35 H locs hw hP hD hS => ?_)
      obtain ⟨hn35, hw⟩ := hw
      try dsimp only at hw
      refine lv_istore (lv' := [(6, .int r35), (4, .int y28), (0, .ref h), (3, .int p3), (5, .int x5)]) hx hb dX3_draw_38 hl (by decide) rfl (fun ls hl => ?_)
      refine lv_aload_n hx hb dX3_draw_40 rfl (lv_at hl 2 rfl) ?_
      refine lv_iload hx hb dX3_draw_41 (lv_at hl 0 rfl) ?_
      refine lv_iload hx hb dX3_draw_43 (lv_at hl 0 rfl) ?_
      refine lv_iload hx hb dX3_draw_45 (lv_at hl 1 rfl) ?_
      refine lv_bipush (v := (8 : Int32)) hx hb dX3_draw_47 (by decide) ?_
      refine lv_idiv hx hb dX3_draw_49 (by decide) ?_
      refine z_ri (z_runS (As := [.int r35, .int (y28 / (8 : Int32))]) (rest := [.int r35, .ref h]) hF (c_X3_drawnNumber l D cI cC cZ r35 (y28 / (8 : Int32)) _ _ hw) (va_cwS 2 hz (z_gS z3_107 z3_108 z1_7 z3_109) rfl rfl rfl hd_X3_drawnNumber ⟨Nat.le_of_ble_eq_true rfl, Nat.le_of_ble_eq_true rfl⟩) hK hP hD [] rfl rfl rfl hl.1 rfl (Nat.le_of_ble_eq_true rfl) dX3_draw_50 ⟨Nat.zero_le _, Nat.zero_le _⟩) hP hD hS hA [] rfl (fun _ => rfl) (fun _ => cw_X3_draw cI h h_court h_court_places h_court_creams ha1 ha1_places ha1_creams f_court_places f_court_creams f_court_present f_court_lying f_court_his f_court_power f_court_spite f_court_hour f_acts f_reason f_firstOffAct f_firstOffWitness f_a1_places f_a1_creams f_a1_present f_a1_lying f_a1_his f_a1_power f_a1_spite f_a1_hour) (fun _ => rfl) (fun r50 u50 H locs hw hP hD hS => ?_)
      try dsimp only at hw
      refine z_rv (z_runV (As := [.int r35, .int r50]) (rest := []) hF (c_X3_take l D cI cC cZ h h_court h_court_places h_court_creams f_court_places f_court_creams f_court_present f_court_lying f_court_his f_court_power f_court_spite f_court_hour f_acts f_reason f_firstOffAct f_firstOffWitness r35 r50 _ _ hw) (cwV 2 hz (z_gV z2_81 z2_83 zp_5 z1_7 z2_84) rfl rfl rfl hd_X3_take ⟨Nat.le_of_ble_eq_true rfl, Nat.le_of_ble_eq_true rfl⟩) hK hP hD [0, 1, 2, 3] rfl rfl 0 3 rfl rfl rfl rfl hl.1 rfl (Nat.le_of_ble_eq_true rfl) dX3_draw_53 ⟨Nat.zero_le _, Nat.zero_le _⟩) hP hD hS hA [0, 1, 2, 3] rfl (fun _ => rfl) (fun u => cw_X3_draw cI h h_court h_court_places h_court_creams ha1 ha1_places ha1_creams f_court_places u.1 u.2.1 u.2.2.1 u.2.2.2.1 f_court_power f_court_spite u.2.2.2.2.1 u.2.2.2.2.2.1 u.2.2.2.2.2.2.1 u.2.2.2.2.2.2.2.1 u.2.2.2.2.2.2.2.2 f_a1_places f_a1_creams f_a1_present f_a1_lying f_a1_his f_a1_power f_a1_spite f_a1_hour) (fun _ => rfl) (fun u53 H locs hw hP hD hS => ?_)
      obtain ⟨u53_0, u53_1, u53_2, u53_3, u53_4, u53_5, u53_6, u53_7, u53_8⟩ := u53
      try dsimp only at hw
      have hP : va_P D vwCl (cw_X3_draw cI h h_court h_court_places h_court_creams ha1 ha1_places ha1_creams f_court_places u53_0 u53_1 u53_2 u53_3 f_court_power f_court_spite u53_4 u53_5 u53_6 u53_7 u53_8 f_a1_places f_a1_creams f_a1_present f_a1_lying f_a1_his f_a1_power f_a1_spite f_a1_hour) H := hP
      have hD : va_D A (cw_X3_draw cI h h_court h_court_places h_court_creams ha1 ha1_places ha1_creams f_court_places u53_0 u53_1 u53_2 u53_3 f_court_power f_court_spite u53_4 u53_5 u53_6 u53_7 u53_8 f_a1_places f_a1_creams f_a1_present f_a1_lying f_a1_his f_a1_power f_a1_spite f_a1_hour) := hD
      refine lv_iinc (k := 4) (v := (x5 + 1)) (lv' := [(5, .int (x5 + 1)), (6, .int r35), (4, .int y28), (0, .ref h), (3, .int p3)]) hx hb dX3_draw_56 hl rfl rfl (by decide) rfl (fun ls hl => ?_)
      refine lv_goto (tgt := 11) hx hb dX3_draw_59 (by decide) ?_
      exact ih11 f_court_places u53_0 u53_1 u53_2 u53_3 f_court_power f_court_spite u53_4 u53_5 u53_6 u53_7 u53_8 y28 (x5 + 1) _ _ _ hw hP hD hS (lv_sub hl [3, 4, 2, 0] rfl)
  unfold w_X3_draw at hw
  refine lv_aload_n hx hb dX3_draw_0 rfl (lv_at hl 0 rfl) ?_
  refine lv_aload_n hx hb dX3_draw_1 rfl (lv_at hl 1 rfl) ?_
  refine z_rv (z_runV (As := [.ref ha1]) (rest := []) hF (c_X3_begin l D cI cC cZ h h_court h_court_places h_court_creams ha1 ha1_places ha1_creams f_court_places f_court_creams f_court_present f_court_lying f_court_his f_court_power f_court_spite f_court_hour f_acts f_reason f_firstOffAct f_firstOffWitness f_a1_places f_a1_creams f_a1_present f_a1_lying f_a1_his f_a1_power f_a1_spite f_a1_hour _ _ hw) (cwV 1 hz (z_gV z2_61 z2_63 zp_4 z1_7 z2_64) rfl rfl rfl hd_X3_begin ⟨Nat.le_of_ble_eq_true rfl, Nat.le_of_ble_eq_true rfl⟩) hK hP hD [0, 1, 2, 3, 4, 5, 6] rfl rfl 0 3 rfl rfl rfl rfl hl.1 rfl (Nat.le_of_ble_eq_true rfl) dX3_draw_2 ⟨Nat.zero_le _, Nat.zero_le _⟩) hP hD hS hA [0, 1, 2, 3, 4, 5, 6] rfl (fun _ => rfl) (fun u => cw_X3_draw cI h h_court h_court_places h_court_creams ha1 ha1_places ha1_creams u.1 u.2.1 u.2.2.1 u.2.2.2.1 u.2.2.2.2.1 u.2.2.2.2.2.1 u.2.2.2.2.2.2.1 u.2.2.2.2.2.2.2.1 u.2.2.2.2.2.2.2.2.1 u.2.2.2.2.2.2.2.2.2.1 u.2.2.2.2.2.2.2.2.2.2.1 u.2.2.2.2.2.2.2.2.2.2.2 f_a1_places f_a1_creams f_a1_present f_a1_lying f_a1_his f_a1_power f_a1_spite f_a1_hour) (fun _ => rfl) (fun u2 H locs hw hP hD hS => ?_)
  obtain ⟨u2_0, u2_1, u2_2, u2_3, u2_4, u2_5, u2_6, u2_7, u2_8, u2_9, u2_10, u2_11⟩ := u2
  try dsimp only at hw
  have hP : va_P D vwCl (cw_X3_draw cI h h_court h_court_places h_court_creams ha1 ha1_places ha1_creams u2_0 u2_1 u2_2 u2_3 u2_4 u2_5 u2_6 u2_7 u2_8 u2_9 u2_10 u2_11 f_a1_places f_a1_creams f_a1_present f_a1_lying f_a1_his f_a1_power f_a1_spite f_a1_hour) H := hP
  have hD : va_D A (cw_X3_draw cI h h_court h_court_places h_court_creams ha1 ha1_places ha1_creams u2_0 u2_1 u2_2 u2_3 u2_4 u2_5 u2_6 u2_7 u2_8 u2_9 u2_10 u2_11 f_a1_places f_a1_creams f_a1_present f_a1_lying f_a1_his f_a1_power f_a1_spite f_a1_hour) := hD
  refine lv_iload_n hx hb dX3_draw_5 rfl (lv_at hl 2 rfl) ?_
  refine lv_istore (lv' := [(4, .int p2), (0, .ref h), (1, .ref ha1), (2, .int p2), (3, .int p3)]) hx hb dX3_draw_6 hl (by decide) rfl (fun ls hl => ?_)
  refine lv_iconst (v := (0 : Int32)) hx hb dX3_draw_8 (by decide) ?_
  refine lv_istore (lv' := [(5, .int (0 : Int32)), (4, .int p2), (0, .ref h), (1, .ref ha1), (2, .int p2), (3, .int p3)]) hx hb dX3_draw_9 hl (by decide) rfl (fun ls hl => ?_)
  obtain ⟨n11, hw⟩ := hw
  exact L11 n11 u2_0 u2_1 u2_2 u2_3 u2_4 u2_5 u2_6 u2_7 u2_8 u2_9 u2_10 u2_11 p2 (0 : Int32) _ _ _ hw hP hD hS (lv_sub hl [2, 5, 1, 0] rfl)
abbrev cw_X1_creamInAll (cI : ClassId) (h h_creams : Nat) (g_places g_lying g_his g_power g_spite g_hour : Value) (f_creams : Nat → Int32) (f_present : Int32) : va_W := [(h, .inr (1, [g_places, .ref h_creams, .int f_present, g_lying, g_his, g_power, g_spite, g_hour])), (h_creams, .inl (cI, 8, .inl f_creams))]
abbrev q_X1_creamInAll (D : va_G) (cI : ClassId) (h h_creams : Nat) (g_places g_lying g_his g_power g_spite g_hour : Value) (post : Int32 → Prop) (f_creams : Nat → Int32) (f_present : Int32) (A : Nat → Prop) : Array Value → State → Outcome → State → Prop := va_Qi (S := Unit) (fun r _ => post r ) (fun _ t => va_P D vwCl (cw_X1_creamInAll cI h h_creams g_places g_lying g_his g_power g_spite g_hour f_creams f_present) t.heap) A
abbrev v_X1_creamInAll : List Cond := .code yX1_creamInAll cX1_creamInAll 3 (some .int) :: zB
theorem hd_X1_creamInAll : yX1_creamInAll.cls = RX1 ∧ yX1_creamInAll.cls ≠ "java/lang/invoke/MethodHandle" ∧ yX1_creamInAll.cls ≠ "java/lang/invoke/VarHandle" ∧ (parseMethodDescriptor yX1_creamInAll.desc).map (fun d => d.parameters.length) = some 0 := by decide +kernel
set_option maxHeartbeats 4000000 in
set_option maxRecDepth 100000 in
theorem c_X1_creamInAll (l : Launch) (D : va_G) (cI cC cZ : ClassId) (h h_creams : Nat) (g_places g_lying g_his g_power g_spite g_hour : Value) (f_creams : Nat → Int32) (f_present : Int32) (sz : Nat) (post : Int32 → Prop) (hw : w_X1_creamInAll post f_creams f_present) : Met l yX1_creamInAll v_X1_creamInAll ({ frames := 2, cells := 0, slots := 0, locals := 41 } : Room) (va_Pc [.ref h] (zPre D (zT cI cC cZ) sz (cw_X1_creamInAll cI h h_creams g_places g_lying g_his g_power g_spite g_hour f_creams f_present))) (q_X1_creamInAll D cI h h_creams g_places g_lying g_his g_power g_spite g_hour post f_creams f_present (va_A (cw_X1_creamInAll cI h h_creams g_places g_lying g_his g_power g_spite g_hour f_creams f_present) sz)) 0 0 (va_A (cw_X1_creamInAll cI h h_creams g_places g_lying g_his g_power g_spite g_hour f_creams f_present) sz) := by
  refine Met.ofW (cc := cX1_creamInAll) (maxL := 3) (ret := (some .int)) (by decide) rfl ?_
  intro p e s m args below meth c s₁ B hml hv
  obtain ⟨rfl, hsz, hP, hK, hD0⟩ := hv
  subst hsz
  have hx := B.exec
  have hb := B.bytes
  have hr := B.returns
  have hz : ∀ w ∈ zB, w.before _ s = true := fun w h => atoms_spec (ws := v_X1_creamInAll) B.pre w (List.mem_cons_of_mem _ h)
  have hown : s.vm.findClass RX1 = some m.cls := findClass_of_methodNamed B.named
  have hlocks := B.notSynchronized
  have hF : CallFix p m c cX1_creamInAll 3 s (([.ref h] : List Value).toArray) zB RX1 := ⟨hx, hb, hml, hown, hz⟩
  have hD := hD0.self (sz := s.heap.size)
  generalize hAe : va_A (cw_X1_creamInAll cI h h_creams g_places g_lying g_his g_power g_spite g_hour f_creams f_present) s.heap.size = A at hD ⊢
  have hA : ∀ q : Nat, s.heap.size ≤ q → A q := fun q h => by rw [← hAe]; exact Or.inr h
  have hS : va_S A s.heap s.heap [] := va_S.rf
  have hP : va_P D vwCl (cw_X1_creamInAll cI h h_creams g_places g_lying g_his g_power g_spite g_hour f_creams f_present) s.heap := hP
  have hl := lv_entry ([.ref h]) (n := 3) (Nat.le_of_ble_eq_true rfl)
  rw [lg_entry_eq]
  generalize (lg_sl ([.ref h]) ++ List.replicate (3 - (lg_sl ([.ref h])).length) Slot.unset).toArray = ls at hl ⊢
  have hl : lv_has ls 3 [(0, .ref h)] := hl
  have L4 : ∀ (n4 : Nat) (x1 : Int32) (x2 : Int32) (H : Heap) (locs : List Loc) (ls : Array Slot) (hw : w_X1_creamInAll_B4 post f_creams f_present n4 x1 x2) (hP : va_P D vwCl (cw_X1_creamInAll cI h h_creams g_places g_lying g_his g_power g_spite g_hour f_creams f_present) H) (hD : va_D A (cw_X1_creamInAll cI h h_creams g_places g_lying g_his g_power g_spite g_hour f_creams f_present)) (hS : va_S A s.heap H locs) (hl : lv_has ls 3 [(0, .ref h), (1, .int x1), (2, .int x2)]), W p l e (headSpec v_X1_creamInAll ({ frames := 2, cells := 0, slots := 0, locals := 41 } : Room)).room s m (([.ref h] : List Value).toArray) below meth c H locs 0 0 (MQ below (q_X1_creamInAll D cI h h_creams g_places g_lying g_his g_power g_spite g_hour post f_creams f_present A) (([.ref h] : List Value).toArray) s 0 0 A) (F0 m 4 ls []) := by
    intro n4
    induction n4 with
    | zero => intro x1 x2 H locs ls hw; exact False.elim hw
    | succ n4 ih4 =>
      intro x1 x2 H locs ls hw hP hD hS hl
      unfold w_X1_creamInAll_B4 at hw
      refine lv_iload_n hx hb dX1_creamInAll_4 rfl (lv_at hl 2 rfl) ?_
      refine lv_bipush (v := (8 : Int32)) hx hb dX1_creamInAll_5 (by decide) ?_
      refine lv_icmp_ge (tgt := 33) hx hb dX1_creamInAll_7 (by decide) (fun c7 => ?_) (fun c7 => ?_)
      · have hw := hw.1 c7
        refine lv_iload_n hx hb dX1_creamInAll_33 rfl (lv_at hl 1 rfl) ?_
        exact z_iret hx hb hr hlocks () hw hP hS dX1_creamInAll_34
      have hw := hw.2 c7
      refine lv_aload_n hx hb dX1_creamInAll_10 rfl (lv_at hl 0 rfl) ?_
      refine lv_iload_n hx hb dX1_creamInAll_11 rfl (lv_at hl 2 rfl) ?_
      refine z_ri (z_runV (As := [.int x2]) (rest := []) hF (c_X1_has l D cI cC cZ h g_places (.ref h_creams) g_lying g_his g_power g_spite g_hour f_present x2 _ _ hw) (cwV 1 hz (z_gV z2_90 z2_91 z2_92 z1_3 z2_93) rfl rfl rfl hd_X1_has ⟨Nat.le_of_ble_eq_true rfl, Nat.le_of_ble_eq_true rfl⟩) hK hP hD [0] rfl rfl 0 1 rfl rfl rfl rfl hl.1 rfl (Nat.le_of_ble_eq_true rfl) dX1_creamInAll_12 ⟨Nat.zero_le _, Nat.zero_le _⟩) hP hD hS hA [0] rfl (fun _ => rfl) (fun _ => cw_X1_creamInAll cI h h_creams g_places g_lying g_his g_power g_spite g_hour f_creams f_present) (fun _ => rfl) (fun r12 u12 H locs hw hP hD hS => ?_)
      obtain ⟨hn12, hw⟩ := hw
      try dsimp only at hw
      refine lv_if_eq (tgt := 27) hx hb dX1_creamInAll_15 (by decide) (fun c15 => ?_) (fun c15 => ?_)
      · have hw := hw.1 c15
        refine lv_iinc (k := 2) (v := (x2 + 1)) (lv' := [(2, .int (x2 + 1)), (0, .ref h), (1, .int x1)]) hx hb dX1_creamInAll_27 hl rfl rfl (by decide) rfl (fun ls hl => ?_)
        refine lv_goto (tgt := 4) hx hb dX1_creamInAll_30 (by decide) ?_
        exact ih4 x1 (x2 + 1) _ _ _ hw hP hD hS (lv_sub hl [1, 2, 0] rfl)
      have hw := hw.2 c15
      refine lv_iload_n hx hb dX1_creamInAll_18 rfl (lv_at hl 1 rfl) ?_
      refine lv_aload_n hx hb dX1_creamInAll_19 rfl (lv_at hl 0 rfl) ?_
      refine va_get (D := D) (ci := 1) (v := .ref h_creams) (C := RX1) (T := TX1) (N := 8) hx hb hz hX_X1 hown hK.1 hP 0 rfl rfl 1 (by decide) (hz _ z1_36) (fun _ h9 => h9) rfl dX1_creamInAll_20 ?_
      refine lv_iload_n hx hb dX1_creamInAll_23 rfl (lv_at hl 2 rfl) ?_
      obtain ⟨hi24, hw⟩ := hw
      refine va_iald hx hb hK.1 hP 1 0 rfl rfl hi24 dX1_creamInAll_24 ?_
      refine lv_iadd hx hb dX1_creamInAll_25 ?_
      refine lv_topi (fun y26 ey26 => ?_)
      have hw := hw y26 ey26
      refine lv_istore_n (lv' := [(1, .int y26), (0, .ref h), (2, .int x2)]) hx hb dX1_creamInAll_26 rfl hl (by decide) rfl (fun ls hl => ?_)
      refine lv_iinc (k := 2) (v := (x2 + 1)) (lv' := [(2, .int (x2 + 1)), (1, .int y26), (0, .ref h)]) hx hb dX1_creamInAll_27 hl rfl rfl (by decide) rfl (fun ls hl => ?_)
      refine lv_goto (tgt := 4) hx hb dX1_creamInAll_30 (by decide) ?_
      exact ih4 y26 (x2 + 1) _ _ _ hw hP hD hS (lv_sub hl [2, 1, 0] rfl)
  unfold w_X1_creamInAll at hw
  refine lv_iconst (v := (0 : Int32)) hx hb dX1_creamInAll_0 (by decide) ?_
  refine lv_istore_n (lv' := [(1, .int (0 : Int32)), (0, .ref h)]) hx hb dX1_creamInAll_1 rfl hl (by decide) rfl (fun ls hl => ?_)
  refine lv_iconst (v := (0 : Int32)) hx hb dX1_creamInAll_2 (by decide) ?_
  refine lv_istore_n (lv' := [(2, .int (0 : Int32)), (1, .int (0 : Int32)), (0, .ref h)]) hx hb dX1_creamInAll_3 rfl hl (by decide) rfl (fun ls hl => ?_)
  obtain ⟨n4, hw⟩ := hw
  exact L4 n4 (0 : Int32) (0 : Int32) _ _ _ hw hP hD hS (lv_sub hl [2, 1, 0] rfl)
abbrev cw_X8_year (cI : ClassId) (h h_world h_world_court h_world_court_places h_world_court_creams h_hearing h_hearing_court h_hearing_court_places h_hearing_court_creams : Nat) (g_images g_pad g_bowls g_guesses g_world_town g_world_sights : Value) (f_world_court_places : Nat → Int32) (f_world_court_creams : Nat → Int32) (f_world_court_present : Int32) (f_world_court_lying : Int32) (f_world_court_his : Int32) (f_world_court_power : Int32) (f_world_court_spite : Int32) (f_world_court_hour : Int32) (f_hearing_court_places : Nat → Int32) (f_hearing_court_creams : Nat → Int32) (f_hearing_court_present : Int32) (f_hearing_court_lying : Int32) (f_hearing_court_his : Int32) (f_hearing_court_power : Int32) (f_hearing_court_spite : Int32) (f_hearing_court_hour : Int32) (f_hearing_acts : Int32) (f_hearing_reason : Int32) (f_hearing_firstOffAct : Int32) (f_hearing_firstOffWitness : Int32) : va_W := [(h, .inr (8, [.ref h_world, g_images, g_pad, .ref h_hearing, g_bowls, g_guesses])), (h_world, .inr (7, [.ref h_world_court, g_world_town, g_world_sights])), (h_world_court, .inr (1, [.ref h_world_court_places, .ref h_world_court_creams, .int f_world_court_present, .int f_world_court_lying, .int f_world_court_his, .int f_world_court_power, .int f_world_court_spite, .int f_world_court_hour])), (h_world_court_places, .inl (cI, 8, .inl f_world_court_places)), (h_world_court_creams, .inl (cI, 8, .inl f_world_court_creams)), (h_hearing, .inr (3, [.ref h_hearing_court, .int f_hearing_acts, .int f_hearing_reason, .int f_hearing_firstOffAct, .int f_hearing_firstOffWitness])), (h_hearing_court, .inr (1, [.ref h_hearing_court_places, .ref h_hearing_court_creams, .int f_hearing_court_present, .int f_hearing_court_lying, .int f_hearing_court_his, .int f_hearing_court_power, .int f_hearing_court_spite, .int f_hearing_court_hour])), (h_hearing_court_places, .inl (cI, 8, .inl f_hearing_court_places)), (h_hearing_court_creams, .inl (cI, 8, .inl f_hearing_court_creams))]
abbrev q_X8_year (D : va_G) (cI : ClassId) (h h_world h_world_court h_world_court_places h_world_court_creams h_hearing h_hearing_court h_hearing_court_places h_hearing_court_creams : Nat) (g_images g_pad g_bowls g_guesses g_world_town g_world_sights : Value) (post : Int32 → (Nat → Int32) → (Nat → Int32) → Int32 → Int32 → Int32 → Int32 → Int32 → Int32 → Int32 → Int32 → Int32 → Int32 → Prop) (f_world_court_places : Nat → Int32) (f_world_court_creams : Nat → Int32) (f_world_court_present : Int32) (f_world_court_lying : Int32) (f_world_court_his : Int32) (f_world_court_power : Int32) (f_world_court_spite : Int32) (f_world_court_hour : Int32) (A : Nat → Prop) : Array Value → State → Outcome → State → Prop := va_Qi (S := (Nat → Int32) × (Nat → Int32) × Int32 × Int32 × Int32 × Int32 × Int32 × Int32 × Int32 × Int32 × Int32 × Int32) (fun r u => post r u.1 u.2.1 u.2.2.1 u.2.2.2.1 u.2.2.2.2.1 u.2.2.2.2.2.1 u.2.2.2.2.2.2.1 u.2.2.2.2.2.2.2.1 u.2.2.2.2.2.2.2.2.1 u.2.2.2.2.2.2.2.2.2.1 u.2.2.2.2.2.2.2.2.2.2.1 u.2.2.2.2.2.2.2.2.2.2.2) (fun u t => va_P D vwCl (cw_X8_year cI h h_world h_world_court h_world_court_places h_world_court_creams h_hearing h_hearing_court h_hearing_court_places h_hearing_court_creams g_images g_pad g_bowls g_guesses g_world_town g_world_sights f_world_court_places f_world_court_creams f_world_court_present f_world_court_lying f_world_court_his f_world_court_power f_world_court_spite f_world_court_hour u.1 u.2.1 u.2.2.1 u.2.2.2.1 u.2.2.2.2.1 u.2.2.2.2.2.1 u.2.2.2.2.2.2.1 u.2.2.2.2.2.2.2.1 u.2.2.2.2.2.2.2.2.1 u.2.2.2.2.2.2.2.2.2.1 u.2.2.2.2.2.2.2.2.2.2.1 u.2.2.2.2.2.2.2.2.2.2.2) t.heap) A
abbrev v_X8_year : List Cond := .code yX8_year cX8_year 5 (some .int) :: zB
theorem hd_X8_year : yX8_year.cls = RX8 ∧ yX8_year.cls ≠ "java/lang/invoke/MethodHandle" ∧ yX8_year.cls ≠ "java/lang/invoke/VarHandle" ∧ (parseMethodDescriptor yX8_year.desc).map (fun d => d.parameters.length) = some 3 := by decide +kernel
set_option maxHeartbeats 4000000 in
set_option maxRecDepth 100000 in
theorem c_X8_year (l : Launch) (D : va_G) (cI cC cZ : ClassId) (h h_world h_world_court h_world_court_places h_world_court_creams h_hearing h_hearing_court h_hearing_court_places h_hearing_court_creams : Nat) (g_images g_pad g_bowls g_guesses g_world_town g_world_sights : Value) (f_world_court_places : Nat → Int32) (f_world_court_creams : Nat → Int32) (f_world_court_present : Int32) (f_world_court_lying : Int32) (f_world_court_his : Int32) (f_world_court_power : Int32) (f_world_court_spite : Int32) (f_world_court_hour : Int32) (f_hearing_court_places : Nat → Int32) (f_hearing_court_creams : Nat → Int32) (f_hearing_court_present : Int32) (f_hearing_court_lying : Int32) (f_hearing_court_his : Int32) (f_hearing_court_power : Int32) (f_hearing_court_spite : Int32) (f_hearing_court_hour : Int32) (f_hearing_acts : Int32) (f_hearing_reason : Int32) (f_hearing_firstOffAct : Int32) (f_hearing_firstOffWitness : Int32) (p1 : Int32) (p2 : Int32) (p3 : Int32) (sz : Nat) (post : Int32 → (Nat → Int32) → (Nat → Int32) → Int32 → Int32 → Int32 → Int32 → Int32 → Int32 → Int32 → Int32 → Int32 → Int32 → Prop) (hw : w_X8_year post f_world_court_places f_world_court_creams f_world_court_present f_world_court_lying f_world_court_his f_world_court_power f_world_court_spite f_world_court_hour f_hearing_court_places f_hearing_court_creams f_hearing_court_present f_hearing_court_lying f_hearing_court_his f_hearing_court_power f_hearing_court_spite f_hearing_court_hour f_hearing_acts f_hearing_reason f_hearing_firstOffAct f_hearing_firstOffWitness p1 p2 p3) : Met l yX8_year v_X8_year ({ frames := 7, cells := 0, slots := 0, locals := 164 } : Room) (va_Pc [.ref h, .int p1, .int p2, .int p3] (zPre D (zT cI cC cZ) sz (cw_X8_year cI h h_world h_world_court h_world_court_places h_world_court_creams h_hearing h_hearing_court h_hearing_court_places h_hearing_court_creams g_images g_pad g_bowls g_guesses g_world_town g_world_sights f_world_court_places f_world_court_creams f_world_court_present f_world_court_lying f_world_court_his f_world_court_power f_world_court_spite f_world_court_hour f_hearing_court_places f_hearing_court_creams f_hearing_court_present f_hearing_court_lying f_hearing_court_his f_hearing_court_power f_hearing_court_spite f_hearing_court_hour f_hearing_acts f_hearing_reason f_hearing_firstOffAct f_hearing_firstOffWitness))) (q_X8_year D cI h h_world h_world_court h_world_court_places h_world_court_creams h_hearing h_hearing_court h_hearing_court_places h_hearing_court_creams g_images g_pad g_bowls g_guesses g_world_town g_world_sights post f_world_court_places f_world_court_creams f_world_court_present f_world_court_lying f_world_court_his f_world_court_power f_world_court_spite f_world_court_hour (va_A (cw_X8_year cI h h_world h_world_court h_world_court_places h_world_court_creams h_hearing h_hearing_court h_hearing_court_places h_hearing_court_creams g_images g_pad g_bowls g_guesses g_world_town g_world_sights f_world_court_places f_world_court_creams f_world_court_present f_world_court_lying f_world_court_his f_world_court_power f_world_court_spite f_world_court_hour f_hearing_court_places f_hearing_court_creams f_hearing_court_present f_hearing_court_lying f_hearing_court_his f_hearing_court_power f_hearing_court_spite f_hearing_court_hour f_hearing_acts f_hearing_reason f_hearing_firstOffAct f_hearing_firstOffWitness) sz)) 0 0 (va_A (cw_X8_year cI h h_world h_world_court h_world_court_places h_world_court_creams h_hearing h_hearing_court h_hearing_court_places h_hearing_court_creams g_images g_pad g_bowls g_guesses g_world_town g_world_sights f_world_court_places f_world_court_creams f_world_court_present f_world_court_lying f_world_court_his f_world_court_power f_world_court_spite f_world_court_hour f_hearing_court_places f_hearing_court_creams f_hearing_court_present f_hearing_court_lying f_hearing_court_his f_hearing_court_power f_hearing_court_spite f_hearing_court_hour f_hearing_acts f_hearing_reason f_hearing_firstOffAct f_hearing_firstOffWitness) sz) := by
  refine Met.ofW (cc := cX8_year) (maxL := 5) (ret := (some .int)) (by decide) rfl ?_
  intro p e s m args below meth c s₁ B hml hv
  obtain ⟨rfl, hsz, hP, hK, hD0⟩ := hv
  subst hsz
  have hx := B.exec
  have hb := B.bytes
  have hr := B.returns
  have hz : ∀ w ∈ zB, w.before _ s = true := fun w h => atoms_spec (ws := v_X8_year) B.pre w (List.mem_cons_of_mem _ h)
  have hown : s.vm.findClass RX8 = some m.cls := findClass_of_methodNamed B.named
  have hlocks := B.notSynchronized
  have hF : CallFix p m c cX8_year 5 s (([.ref h, .int p1, .int p2, .int p3] : List Value).toArray) zB RX8 := ⟨hx, hb, hml, hown, hz⟩
  have hD := hD0.self (sz := s.heap.size)
  generalize hAe : va_A (cw_X8_year cI h h_world h_world_court h_world_court_places h_world_court_creams h_hearing h_hearing_court h_hearing_court_places h_hearing_court_creams g_images g_pad g_bowls g_guesses g_world_town g_world_sights f_world_court_places f_world_court_creams f_world_court_present f_world_court_lying f_world_court_his f_world_court_power f_world_court_spite f_world_court_hour f_hearing_court_places f_hearing_court_creams f_hearing_court_present f_hearing_court_lying f_hearing_court_his f_hearing_court_power f_hearing_court_spite f_hearing_court_hour f_hearing_acts f_hearing_reason f_hearing_firstOffAct f_hearing_firstOffWitness) s.heap.size = A at hD ⊢
  have hA : ∀ q : Nat, s.heap.size ≤ q → A q := fun q h => by rw [← hAe]; exact Or.inr h
  have hS : va_S A s.heap s.heap [] := va_S.rf
  have hP : va_P D vwCl (cw_X8_year cI h h_world h_world_court h_world_court_places h_world_court_creams h_hearing h_hearing_court h_hearing_court_places h_hearing_court_creams g_images g_pad g_bowls g_guesses g_world_town g_world_sights f_world_court_places f_world_court_creams f_world_court_present f_world_court_lying f_world_court_his f_world_court_power f_world_court_spite f_world_court_hour f_hearing_court_places f_hearing_court_creams f_hearing_court_present f_hearing_court_lying f_hearing_court_his f_hearing_court_power f_hearing_court_spite f_hearing_court_hour f_hearing_acts f_hearing_reason f_hearing_firstOffAct f_hearing_firstOffWitness) s.heap := hP
  have hl := lv_entry ([.ref h, .int p1, .int p2, .int p3]) (n := 5) (Nat.le_of_ble_eq_true rfl)
  rw [lg_entry_eq]
  generalize (lg_sl ([.ref h, .int p1, .int p2, .int p3]) ++ List.replicate (5 - (lg_sl ([.ref h, .int p1, .int p2, .int p3])).length) Slot.unset).toArray = ls at hl ⊢
  have hl : lv_has ls 5 [(0, .ref h), (1, .int p1), (2, .int p2), (3, .int p3)] := hl
  unfold w_X8_year at hw
  refine lv_iload_n hx hb dX8_year_0 rfl (lv_at hl 1 rfl) ?_
  refine lv_iconst (v := (0 : Int32)) hx hb dX8_year_1 (by decide) ?_
  refine lv_sipush (v := (9999 : Int32)) hx hb dX8_year_2 (by decide) ?_
  refine z_ri (z_runS (As := [.int p1, .int (0 : Int32), .int (9999 : Int32)]) (rest := []) hF (c_X8_within l D cI cC cZ p1 (0 : Int32) (9999 : Int32) _ _ hw) (va_cwS 3 hz (z_gS z1_212 z1_213 z1_1 z1_214) rfl rfl rfl hd_X8_within ⟨Nat.le_of_ble_eq_true rfl, Nat.le_of_ble_eq_true rfl⟩) hK hP hD [] rfl rfl rfl hl.1 rfl (Nat.le_of_ble_eq_true rfl) dX8_year_5 ⟨Nat.zero_le _, Nat.zero_le _⟩) hP hD hS hA [] rfl (fun _ => rfl) (fun _ => cw_X8_year cI h h_world h_world_court h_world_court_places h_world_court_creams h_hearing h_hearing_court h_hearing_court_places h_hearing_court_creams g_images g_pad g_bowls g_guesses g_world_town g_world_sights f_world_court_places f_world_court_creams f_world_court_present f_world_court_lying f_world_court_his f_world_court_power f_world_court_spite f_world_court_hour f_hearing_court_places f_hearing_court_creams f_hearing_court_present f_hearing_court_lying f_hearing_court_his f_hearing_court_power f_hearing_court_spite f_hearing_court_hour f_hearing_acts f_hearing_reason f_hearing_firstOffAct f_hearing_firstOffWitness) (fun _ => rfl) (fun r5 u5 H locs hw hP hD hS => ?_)
  obtain ⟨hn5, hw⟩ := hw
  try dsimp only at hw
  refine lv_if_eq (tgt := 30) hx hb dX8_year_8 (by decide) (fun c8 => ?_) (fun c8 => ?_)
  · have hw := hw.1 c8
    refine lv_bipush (v := (-2 : Int32)) hx hb dX8_year_30 (by decide) ?_
    exact z_iret hx hb hr hlocks (f_hearing_court_places, f_hearing_court_creams, f_hearing_court_present, f_hearing_court_lying, f_hearing_court_his, f_hearing_court_power, f_hearing_court_spite, f_hearing_court_hour, f_hearing_acts, f_hearing_reason, f_hearing_firstOffAct, f_hearing_firstOffWitness) hw hP hS dX8_year_32
  have hw := hw.2 c8
  refine lv_iload_n hx hb dX8_year_11 rfl (lv_at hl 2 rfl) ?_
  refine lv_iconst (v := (1 : Int32)) hx hb dX8_year_12 (by decide) ?_
  refine lv_bipush (v := (99 : Int32)) hx hb dX8_year_13 (by decide) ?_
  refine z_ri (z_runS (As := [.int p2, .int (1 : Int32), .int (99 : Int32)]) (rest := []) hF (c_X8_within l D cI cC cZ p2 (1 : Int32) (99 : Int32) _ _ hw) (va_cwS 3 hz (z_gS z1_212 z1_213 z1_1 z1_214) rfl rfl rfl hd_X8_within ⟨Nat.le_of_ble_eq_true rfl, Nat.le_of_ble_eq_true rfl⟩) hK hP hD [] rfl rfl rfl hl.1 rfl (Nat.le_of_ble_eq_true rfl) dX8_year_15 ⟨Nat.zero_le _, Nat.zero_le _⟩) hP hD hS hA [] rfl (fun _ => rfl) (fun _ => cw_X8_year cI h h_world h_world_court h_world_court_places h_world_court_creams h_hearing h_hearing_court h_hearing_court_places h_hearing_court_creams g_images g_pad g_bowls g_guesses g_world_town g_world_sights f_world_court_places f_world_court_creams f_world_court_present f_world_court_lying f_world_court_his f_world_court_power f_world_court_spite f_world_court_hour f_hearing_court_places f_hearing_court_creams f_hearing_court_present f_hearing_court_lying f_hearing_court_his f_hearing_court_power f_hearing_court_spite f_hearing_court_hour f_hearing_acts f_hearing_reason f_hearing_firstOffAct f_hearing_firstOffWitness) (fun _ => rfl) (fun r15 u15 H locs hw hP hD hS => ?_)
  obtain ⟨hn15, hw⟩ := hw
  try dsimp only at hw
  refine lv_if_eq (tgt := 30) hx hb dX8_year_18 (by decide) (fun c18 => ?_) (fun c18 => ?_)
  · have hw := hw.1 c18
    refine lv_bipush (v := (-2 : Int32)) hx hb dX8_year_30 (by decide) ?_
    exact z_iret hx hb hr hlocks (f_hearing_court_places, f_hearing_court_creams, f_hearing_court_present, f_hearing_court_lying, f_hearing_court_his, f_hearing_court_power, f_hearing_court_spite, f_hearing_court_hour, f_hearing_acts, f_hearing_reason, f_hearing_firstOffAct, f_hearing_firstOffWitness) hw hP hS dX8_year_32
  have hw := hw.2 c18
  refine lv_iload_n hx hb dX8_year_21 rfl (lv_at hl 3 rfl) ?_
  refine lv_iconst (v := (0 : Int32)) hx hb dX8_year_22 (by decide) ?_
  refine lv_iconst (v := (2 : Int32)) hx hb dX8_year_23 (by decide) ?_
  refine z_ri (z_runS (As := [.int p3, .int (0 : Int32), .int (2 : Int32)]) (rest := []) hF (c_X8_within l D cI cC cZ p3 (0 : Int32) (2 : Int32) _ _ hw) (va_cwS 3 hz (z_gS z1_212 z1_213 z1_1 z1_214) rfl rfl rfl hd_X8_within ⟨Nat.le_of_ble_eq_true rfl, Nat.le_of_ble_eq_true rfl⟩) hK hP hD [] rfl rfl rfl hl.1 rfl (Nat.le_of_ble_eq_true rfl) dX8_year_24 ⟨Nat.zero_le _, Nat.zero_le _⟩) hP hD hS hA [] rfl (fun _ => rfl) (fun _ => cw_X8_year cI h h_world h_world_court h_world_court_places h_world_court_creams h_hearing h_hearing_court h_hearing_court_places h_hearing_court_creams g_images g_pad g_bowls g_guesses g_world_town g_world_sights f_world_court_places f_world_court_creams f_world_court_present f_world_court_lying f_world_court_his f_world_court_power f_world_court_spite f_world_court_hour f_hearing_court_places f_hearing_court_creams f_hearing_court_present f_hearing_court_lying f_hearing_court_his f_hearing_court_power f_hearing_court_spite f_hearing_court_hour f_hearing_acts f_hearing_reason f_hearing_firstOffAct f_hearing_firstOffWitness) (fun _ => rfl) (fun r24 u24 H locs hw hP hD hS => ?_)
  obtain ⟨hn24, hw⟩ := hw
  try dsimp only at hw
  refine lv_if_ne (tgt := 33) hx hb dX8_year_27 (by decide) (fun c27 => ?_) (fun c27 => ?_)
  · have hw := hw.2 c27
    refine lv_aload_n hx hb dX8_year_33 rfl (lv_at hl 0 rfl) ?_
    refine va_get (D := D) (ci := 8) (v := .ref h_hearing) (C := RX8) (T := TX8) (N := 6) hx hb hz hX_X8 hown hK.1 hP 0 rfl rfl 3 (by decide) (hz _ z1_186) (fun _ h9 => h9) rfl dX8_year_34 ?_
    refine lv_aload_n hx hb dX8_year_37 rfl (lv_at hl 0 rfl) ?_
    refine va_get (D := D) (ci := 8) (v := .ref h_world) (C := RX8) (T := TX8) (N := 6) hx hb hz hX_X8 hown hK.1 hP 0 rfl rfl 0 (by decide) (hz _ z1_183) (fun _ h9 => h9) rfl dX8_year_38 ?_
    refine va_getN (D := D) (ci := 7) (v := .ref h_world_court) (C := RX7) (T := TX7) (N := 3) hx hb hz hX_X7 hown hK.1 hP 1 rfl rfl 0 (by decide) (va_Nw.use rfl (hK.2.1 _ (List.mem_of_getElem? (i := 7) rfl))) (fun _ h9 => h9) rfl dX8_year_41 ?_
    refine lv_iload_n hx hb dX8_year_44 rfl (lv_at hl 1 rfl) ?_
    refine lv_iload_n hx hb dX8_year_45 rfl (lv_at hl 2 rfl) ?_
    refine z_rv (z_runV (As := [.ref h_world_court, .int p1, .int p2]) (rest := []) hF (c_X3_draw l D cI cC cZ h_hearing h_hearing_court h_hearing_court_places h_hearing_court_creams h_world_court h_world_court_places h_world_court_creams f_hearing_court_places f_hearing_court_creams f_hearing_court_present f_hearing_court_lying f_hearing_court_his f_hearing_court_power f_hearing_court_spite f_hearing_court_hour f_hearing_acts f_hearing_reason f_hearing_firstOffAct f_hearing_firstOffWitness f_world_court_places f_world_court_creams f_world_court_present f_world_court_lying f_world_court_his f_world_court_power f_world_court_spite f_world_court_hour p1 p2 _ _ hw) (cwV 3 hz (z_gV z3_99 z3_100 z3_101 z1_7 z3_102) rfl rfl rfl hd_X3_draw ⟨Nat.le_of_ble_eq_true rfl, Nat.le_of_ble_eq_true rfl⟩) hK hP hD [5, 6, 7, 8, 2, 3, 4] rfl rfl 5 3 rfl rfl rfl rfl hl.1 rfl (Nat.le_of_ble_eq_true rfl) dX8_year_46 ⟨Nat.zero_le _, Nat.zero_le _⟩) hP hD hS hA [5, 6, 7, 8, 2, 3, 4] rfl (fun _ => rfl) (fun u => cw_X8_year cI h h_world h_world_court h_world_court_places h_world_court_creams h_hearing h_hearing_court h_hearing_court_places h_hearing_court_creams g_images g_pad g_bowls g_guesses g_world_town g_world_sights f_world_court_places f_world_court_creams f_world_court_present f_world_court_lying f_world_court_his f_world_court_power f_world_court_spite f_world_court_hour u.1 u.2.1 u.2.2.1 u.2.2.2.1 u.2.2.2.2.1 u.2.2.2.2.2.1 u.2.2.2.2.2.2.1 u.2.2.2.2.2.2.2.1 u.2.2.2.2.2.2.2.2.1 u.2.2.2.2.2.2.2.2.2.1 u.2.2.2.2.2.2.2.2.2.2.1 u.2.2.2.2.2.2.2.2.2.2.2) (fun _ => rfl) (fun u46 H locs hw hP hD hS => ?_)
    obtain ⟨u46_0, u46_1, u46_2, u46_3, u46_4, u46_5, u46_6, u46_7, u46_8, u46_9, u46_10, u46_11⟩ := u46
    try dsimp only at hw
    have hP : va_P D vwCl (cw_X8_year cI h h_world h_world_court h_world_court_places h_world_court_creams h_hearing h_hearing_court h_hearing_court_places h_hearing_court_creams g_images g_pad g_bowls g_guesses g_world_town g_world_sights f_world_court_places f_world_court_creams f_world_court_present f_world_court_lying f_world_court_his f_world_court_power f_world_court_spite f_world_court_hour u46_0 u46_1 u46_2 u46_3 u46_4 u46_5 u46_6 u46_7 u46_8 u46_9 u46_10 u46_11) H := hP
    have hD : va_D A (cw_X8_year cI h h_world h_world_court h_world_court_places h_world_court_creams h_hearing h_hearing_court h_hearing_court_places h_hearing_court_creams g_images g_pad g_bowls g_guesses g_world_town g_world_sights f_world_court_places f_world_court_creams f_world_court_present f_world_court_lying f_world_court_his f_world_court_power f_world_court_spite f_world_court_hour u46_0 u46_1 u46_2 u46_3 u46_4 u46_5 u46_6 u46_7 u46_8 u46_9 u46_10 u46_11) := hD
    refine lv_aload_n hx hb dX8_year_49 rfl (lv_at hl 0 rfl) ?_
    refine va_get (D := D) (ci := 8) (v := .ref h_hearing) (C := RX8) (T := TX8) (N := 6) hx hb hz hX_X8 hown hK.1 hP 0 rfl rfl 3 (by decide) (hz _ z1_186) (fun _ h9 => h9) rfl dX8_year_50 ?_
    refine va_getN (D := D) (ci := 3) (v := .ref h_hearing_court) (C := RX3) (T := TX3) (N := 5) hx hb hz hX_X3 hown hK.1 hP 5 rfl rfl 0 (by decide) (va_Nw.use rfl (hK.2.1 _ (List.mem_of_getElem? (i := 12) rfl))) (fun _ h9 => h9) rfl dX8_year_53 ?_
    refine lv_astore (lv' := [(4, .ref h_hearing_court), (0, .ref h), (1, .int p1), (2, .int p2), (3, .int p3)]) hx hb dX8_year_56 hl (by decide) rfl (fun ls hl => ?_)
    refine lv_iload_n hx hb dX8_year_58 rfl (lv_at hl 4 rfl) ?_
    refine lv_if_ne (tgt := 71) hx hb dX8_year_59 (by decide) (fun c59 => ?_) (fun c59 => ?_)
    · have hw := hw.2 c59
      refine lv_iload_n hx hb dX8_year_71 rfl (lv_at hl 4 rfl) ?_
      refine lv_iconst (v := (1 : Int32)) hx hb dX8_year_72 (by decide) ?_
      refine lv_icmp_ne (tgt := 84) hx hb dX8_year_73 (by decide) (fun c73 => ?_) (fun c73 => ?_)
      · have hw := hw.2 c73
        refine lv_aload hx hb dX8_year_84 (lv_at hl 0 rfl) ?_
        refine va_getN (D := D) (ci := 1) (v := .int u46_4) (C := RX1) (T := TX1) (N := 8) hx hb hz hX_X1 hown hK.1 hP 6 rfl rfl 4 (by decide) (va_Nw.use rfl (hK.2.1 _ (List.mem_of_getElem? (i := 1) rfl))) (fun _ h9 => h9) rfl dX8_year_86 ?_
        exact z_iret hx hb hr hlocks (u46_0, u46_1, u46_2, u46_3, u46_4, u46_5, u46_6, u46_7, u46_8, u46_9, u46_10, u46_11) hw hP hS dX8_year_89
      have hw := hw.1 c73
      refine lv_aload hx hb dX8_year_76 (lv_at hl 0 rfl) ?_
      refine z_ri (z_runV (As := []) (rest := []) hF (c_X1_creamInAll l D cI cC cZ h_hearing_court h_hearing_court_creams (.ref h_hearing_court_places) (.int u46_3) (.int u46_4) (.int u46_5) (.int u46_6) (.int u46_7) u46_1 u46_2 _ _ hw) (cwV 0 hz (z_gV z3_110 z3_111 z3_112 z1_3 z3_113) rfl rfl rfl hd_X1_creamInAll ⟨Nat.le_of_ble_eq_true rfl, Nat.le_of_ble_eq_true rfl⟩) hK hP hD [6, 8] rfl rfl 6 1 rfl rfl rfl rfl hl.1 rfl (Nat.le_of_ble_eq_true rfl) dX8_year_78 ⟨Nat.zero_le _, Nat.zero_le _⟩) hP hD hS hA [6, 8] rfl (fun _ => rfl) (fun _ => cw_X8_year cI h h_world h_world_court h_world_court_places h_world_court_creams h_hearing h_hearing_court h_hearing_court_places h_hearing_court_creams g_images g_pad g_bowls g_guesses g_world_town g_world_sights f_world_court_places f_world_court_creams f_world_court_present f_world_court_lying f_world_court_his f_world_court_power f_world_court_spite f_world_court_hour u46_0 u46_1 u46_2 u46_3 u46_4 u46_5 u46_6 u46_7 u46_8 u46_9 u46_10 u46_11) (fun _ => rfl) (fun r78 u78 H locs hw hP hD hS => ?_)
      try dsimp only at hw
      refine lv_goto (tgt := 89) hx hb dX8_year_81 (by decide) ?_
      exact z_iret hx hb hr hlocks (u46_0, u46_1, u46_2, u46_3, u46_4, u46_5, u46_6, u46_7, u46_8, u46_9, u46_10, u46_11) hw hP hS dX8_year_89
    have hw := hw.1 c59
    refine lv_aload hx hb dX8_year_62 (lv_at hl 0 rfl) ?_
    refine z_ri (z_runV (As := []) (rest := []) hF (c_X1_offOnes l D cI cC cZ h_hearing_court h_hearing_court_creams (.ref h_hearing_court_places) (.int u46_3) (.int u46_4) (.int u46_5) (.int u46_6) (.int u46_7) u46_1 u46_2 _ _ hw) (cwV 0 hz (z_gV z2_171 z2_110 z2_111 z1_3 z2_112) rfl rfl rfl hd_X1_offOnes ⟨Nat.le_of_ble_eq_true rfl, Nat.le_of_ble_eq_true rfl⟩) hK hP hD [6, 8] rfl rfl 6 1 rfl rfl rfl rfl hl.1 rfl (Nat.le_of_ble_eq_true rfl) dX8_year_64 ⟨Nat.zero_le _, Nat.zero_le _⟩) hP hD hS hA [6, 8] rfl (fun _ => rfl) (fun _ => cw_X8_year cI h h_world h_world_court h_world_court_places h_world_court_creams h_hearing h_hearing_court h_hearing_court_places h_hearing_court_creams g_images g_pad g_bowls g_guesses g_world_town g_world_sights f_world_court_places f_world_court_creams f_world_court_present f_world_court_lying f_world_court_his f_world_court_power f_world_court_spite f_world_court_hour u46_0 u46_1 u46_2 u46_3 u46_4 u46_5 u46_6 u46_7 u46_8 u46_9 u46_10 u46_11) (fun _ => rfl) (fun r64 u64 H locs hw hP hD hS => ?_)
    try dsimp only at hw
    refine z_ri (z_runS (As := [.int r64]) (rest := []) hF (c_J6_bitCount_0f7a4 l D cI cC cZ r64 _ _ hw) (va_cwS 1 hz (z_gS z1_220 z1_221 z1_11 z1_222) rfl rfl rfl hd_J6_bitCount_0f7a4 ⟨Nat.le_of_ble_eq_true rfl, Nat.le_of_ble_eq_true rfl⟩) hK hP hD [] rfl rfl rfl hl.1 rfl (Nat.le_of_ble_eq_true rfl) dX8_year_67 ⟨Nat.zero_le _, Nat.zero_le _⟩) hP hD hS hA [] rfl (fun _ => rfl) (fun _ => cw_X8_year cI h h_world h_world_court h_world_court_places h_world_court_creams h_hearing h_hearing_court h_hearing_court_places h_hearing_court_creams g_images g_pad g_bowls g_guesses g_world_town g_world_sights f_world_court_places f_world_court_creams f_world_court_present f_world_court_lying f_world_court_his f_world_court_power f_world_court_spite f_world_court_hour u46_0 u46_1 u46_2 u46_3 u46_4 u46_5 u46_6 u46_7 u46_8 u46_9 u46_10 u46_11) (fun _ => rfl) (fun r67 u67 H locs hw hP hD hS => ?_)
    try dsimp only at hw
    exact z_iret hx hb hr hlocks (u46_0, u46_1, u46_2, u46_3, u46_4, u46_5, u46_6, u46_7, u46_8, u46_9, u46_10, u46_11) hw hP hS dX8_year_70
  have hw := hw.1 c27
  refine lv_bipush (v := (-2 : Int32)) hx hb dX8_year_30 (by decide) ?_
  exact z_iret hx hb hr hlocks (f_hearing_court_places, f_hearing_court_creams, f_hearing_court_present, f_hearing_court_lying, f_hearing_court_his, f_hearing_court_power, f_hearing_court_spite, f_hearing_court_hour, f_hearing_acts, f_hearing_reason, f_hearing_firstOffAct, f_hearing_firstOffWitness) hw hP hS dX8_year_32
abbrev cw_X6_become (cI : ClassId) (h h_ways ha1 ha1_ways : Nat) (f_ways : Nat → Int32) (f_milky : Int32) (f_a1_ways : Nat → Int32) (f_a1_milky : Int32) : va_W := [(h, .inr (6, [.ref h_ways, .int f_milky])), (h_ways, .inl (cI, 12, .inl f_ways)), (ha1, .inr (6, [.ref ha1_ways, .int f_a1_milky])), (ha1_ways, .inl (cI, 12, .inl f_a1_ways))]
abbrev q_X6_become (D : va_G) (cI : ClassId) (h h_ways ha1 ha1_ways : Nat) (post : (Nat → Int32) → Int32 → Prop) (f_a1_ways : Nat → Int32) (f_a1_milky : Int32) (A : Nat → Prop) : Array Value → State → Outcome → State → Prop := va_Qv (S := (Nat → Int32) × Int32) (fun u => post u.1 u.2) (fun u t => va_P D vwCl (cw_X6_become cI h h_ways ha1 ha1_ways u.1 u.2 f_a1_ways f_a1_milky) t.heap) A
abbrev v_X6_become : List Cond := .code yX6_become cX6_become 2 none :: zB
theorem hd_X6_become : yX6_become.cls = RX6 ∧ yX6_become.cls ≠ "java/lang/invoke/MethodHandle" ∧ yX6_become.cls ≠ "java/lang/invoke/VarHandle" ∧ (parseMethodDescriptor yX6_become.desc).map (fun d => d.parameters.length) = some 1 := by decide +kernel
set_option maxHeartbeats 4000000 in
set_option maxRecDepth 100000 in
theorem c_X6_become (l : Launch) (D : va_G) (cI cC cZ : ClassId) (h h_ways ha1 ha1_ways : Nat) (f_ways : Nat → Int32) (f_milky : Int32) (f_a1_ways : Nat → Int32) (f_a1_milky : Int32) (sz : Nat) (post : (Nat → Int32) → Int32 → Prop) (hw : w_X6_become post f_ways f_milky f_a1_ways f_a1_milky) : Met l yX6_become v_X6_become ({ frames := 1, cells := 0, slots := 0, locals := 40 } : Room) (va_Pc [.ref h, .ref ha1] (zPre D (zT cI cC cZ) sz (cw_X6_become cI h h_ways ha1 ha1_ways f_ways f_milky f_a1_ways f_a1_milky))) (q_X6_become D cI h h_ways ha1 ha1_ways post f_a1_ways f_a1_milky (va_A (cw_X6_become cI h h_ways ha1 ha1_ways f_ways f_milky f_a1_ways f_a1_milky) sz)) 0 0 (va_A (cw_X6_become cI h h_ways ha1 ha1_ways f_ways f_milky f_a1_ways f_a1_milky) sz) := by
  refine Met.ofW (cc := cX6_become) (maxL := 2) (ret := none) (by decide) rfl ?_
  intro p e s m args below meth c s₁ B hml hv
  obtain ⟨rfl, hsz, hP, hK, hD0⟩ := hv
  subst hsz
  have hx := B.exec
  have hb := B.bytes
  have hr := B.returns
  have hz : ∀ w ∈ zB, w.before _ s = true := fun w h => atoms_spec (ws := v_X6_become) B.pre w (List.mem_cons_of_mem _ h)
  have hown : s.vm.findClass RX6 = some m.cls := findClass_of_methodNamed B.named
  have hlocks := B.notSynchronized
  have hF : CallFix p m c cX6_become 2 s (([.ref h, .ref ha1] : List Value).toArray) zB RX6 := ⟨hx, hb, hml, hown, hz⟩
  have hD := hD0.self (sz := s.heap.size)
  generalize hAe : va_A (cw_X6_become cI h h_ways ha1 ha1_ways f_ways f_milky f_a1_ways f_a1_milky) s.heap.size = A at hD ⊢
  have hA : ∀ q : Nat, s.heap.size ≤ q → A q := fun q h => by rw [← hAe]; exact Or.inr h
  have hS : va_S A s.heap s.heap [] := va_S.rf
  have hP : va_P D vwCl (cw_X6_become cI h h_ways ha1 ha1_ways f_ways f_milky f_a1_ways f_a1_milky) s.heap := hP
  have hl := lv_entry ([.ref h, .ref ha1]) (n := 2) (Nat.le_of_ble_eq_true rfl)
  rw [lg_entry_eq]
  generalize (lg_sl ([.ref h, .ref ha1]) ++ List.replicate (2 - (lg_sl ([.ref h, .ref ha1])).length) Slot.unset).toArray = ls at hl ⊢
  have hl : lv_has ls 2 [(0, .ref h), (1, .ref ha1)] := hl
  unfold w_X6_become at hw
  refine lv_aload_n hx hb dX6_become_0 rfl (lv_at hl 1 rfl) ?_
  refine va_get (D := D) (ci := 6) (v := .ref ha1_ways) (C := RX6) (T := TX6) (N := 2) hx hb hz hX_X6 hown hK.1 hP 2 rfl rfl 0 (by decide) (hz _ z1_72) (fun _ h9 => h9) rfl dX6_become_1 ?_
  refine lv_iconst (v := (0 : Int32)) hx hb dX6_become_4 (by decide) ?_
  refine lv_aload_n hx hb dX6_become_5 rfl (lv_at hl 0 rfl) ?_
  refine va_get (D := D) (ci := 6) (v := .ref h_ways) (C := RX6) (T := TX6) (N := 2) hx hb hz hX_X6 hown hK.1 hP 0 rfl rfl 0 (by decide) (hz _ z1_72) (fun _ h9 => h9) rfl dX6_become_6 ?_
  refine lv_iconst (v := (0 : Int32)) hx hb dX6_become_9 (by decide) ?_
  refine lv_bipush (v := (12 : Int32)) hx hb dX6_become_10 (by decide) ?_
  refine va_copyi (ty := .int) hx hb (hml.trans hl.1.symm) hown (hz _ z3_127) (hz _ z2_71) (hz _ z2_70) (hz _ z1_12) hK.1 hP hD hS 3 1 0 0 rfl rfl rfl rfl rfl (by decide) (by decide) (by decide) (by decide) (by decide) (fun _ _ => rfl) (Nat.le_of_ble_eq_true rfl) (by decide) dX6_become_12 (fun H locs hP hD hS => ?_)
  have hP : va_P D vwCl (cw_X6_become cI h h_ways ha1 ha1_ways (va_cpy f_a1_ways f_ways (0 : Int32).toNatClampNeg (0 : Int32).toNatClampNeg (12 : Int32).toNatClampNeg) f_milky f_a1_ways f_a1_milky) H := hP
  have hD : va_D A (cw_X6_become cI h h_ways ha1 ha1_ways (va_cpy f_a1_ways f_ways (0 : Int32).toNatClampNeg (0 : Int32).toNatClampNeg (12 : Int32).toNatClampNeg) f_milky f_a1_ways f_a1_milky) := hD
  refine lv_aload_n hx hb dX6_become_15 rfl (lv_at hl 0 rfl) ?_
  refine lv_aload_n hx hb dX6_become_16 rfl (lv_at hl 1 rfl) ?_
  refine va_get (D := D) (ci := 6) (v := .int f_a1_milky) (C := RX6) (T := TX6) (N := 2) hx hb hz hX_X6 hown hK.1 hP 2 rfl rfl 1 (by decide) (hz _ z1_73) (fun _ h9 => h9) rfl dX6_become_17 ?_
  refine va_put (D := D) (ci := 6) (v := .int f_a1_milky) (ty := .int) (C := RX6) (T := TX6) (N := 2) hx hb hz hX_X6 tyX6 tyX6_ok nmX6 hown hK.1 hP hD hS 0 rfl rfl 1 (by decide) (hz _ z1_73) (fun _ h9 => h9) rfl (tyX6_ok 1 (by decide)) rfl rfl (Nat.le_of_ble_eq_true rfl) dX6_become_20 (fun H locs hP hD hS => ?_)
  have hP : va_P D vwCl (cw_X6_become cI h h_ways ha1 ha1_ways (va_cpy f_a1_ways f_ways (0 : Int32).toNatClampNeg (0 : Int32).toNatClampNeg (12 : Int32).toNatClampNeg) f_a1_milky f_a1_ways f_a1_milky) H := hP
  have hD : va_D A (cw_X6_become cI h h_ways ha1 ha1_ways (va_cpy f_a1_ways f_ways (0 : Int32).toNatClampNeg (0 : Int32).toNatClampNeg (12 : Int32).toNatClampNeg) f_a1_milky f_a1_ways f_a1_milky) := hD
  exact z_vret hx hb hr hlocks ((va_cpy f_a1_ways f_ways (0 : Int32).toNatClampNeg (0 : Int32).toNatClampNeg (12 : Int32).toNatClampNeg), f_a1_milky) hw hP hS dX6_become_23
abbrev cw_X5_become (cI : ClassId) (h h_saucers h_losses ha1 ha1_saucers ha1_losses : Nat) (f_saucers : Nat → Int32) (f_losses : Nat → Int32) (f_count : Int32) (f_a1_saucers : Nat → Int32) (f_a1_losses : Nat → Int32) (f_a1_count : Int32) : va_W := [(h, .inr (5, [.ref h_saucers, .ref h_losses, .int f_count])), (h_saucers, .inl (cI, 8, .inl f_saucers)), (h_losses, .inl (cI, 8, .inl f_losses)), (ha1, .inr (5, [.ref ha1_saucers, .ref ha1_losses, .int f_a1_count])), (ha1_saucers, .inl (cI, 8, .inl f_a1_saucers)), (ha1_losses, .inl (cI, 8, .inl f_a1_losses))]
abbrev q_X5_become (D : va_G) (cI : ClassId) (h h_saucers h_losses ha1 ha1_saucers ha1_losses : Nat) (post : (Nat → Int32) → (Nat → Int32) → Int32 → Prop) (f_a1_saucers : Nat → Int32) (f_a1_losses : Nat → Int32) (f_a1_count : Int32) (A : Nat → Prop) : Array Value → State → Outcome → State → Prop := va_Qv (S := (Nat → Int32) × (Nat → Int32) × Int32) (fun u => post u.1 u.2.1 u.2.2) (fun u t => va_P D vwCl (cw_X5_become cI h h_saucers h_losses ha1 ha1_saucers ha1_losses u.1 u.2.1 u.2.2 f_a1_saucers f_a1_losses f_a1_count) t.heap) A
abbrev v_X5_become : List Cond := .code yX5_become cX5_become 2 none :: zB
theorem hd_X5_become : yX5_become.cls = RX5 ∧ yX5_become.cls ≠ "java/lang/invoke/MethodHandle" ∧ yX5_become.cls ≠ "java/lang/invoke/VarHandle" ∧ (parseMethodDescriptor yX5_become.desc).map (fun d => d.parameters.length) = some 1 := by decide +kernel
set_option maxHeartbeats 4000000 in
set_option maxRecDepth 100000 in
theorem c_X5_become (l : Launch) (D : va_G) (cI cC cZ : ClassId) (h h_saucers h_losses ha1 ha1_saucers ha1_losses : Nat) (f_saucers : Nat → Int32) (f_losses : Nat → Int32) (f_count : Int32) (f_a1_saucers : Nat → Int32) (f_a1_losses : Nat → Int32) (f_a1_count : Int32) (sz : Nat) (post : (Nat → Int32) → (Nat → Int32) → Int32 → Prop) (hw : w_X5_become post f_saucers f_losses f_count f_a1_saucers f_a1_losses f_a1_count) : Met l yX5_become v_X5_become ({ frames := 1, cells := 0, slots := 0, locals := 40 } : Room) (va_Pc [.ref h, .ref ha1] (zPre D (zT cI cC cZ) sz (cw_X5_become cI h h_saucers h_losses ha1 ha1_saucers ha1_losses f_saucers f_losses f_count f_a1_saucers f_a1_losses f_a1_count))) (q_X5_become D cI h h_saucers h_losses ha1 ha1_saucers ha1_losses post f_a1_saucers f_a1_losses f_a1_count (va_A (cw_X5_become cI h h_saucers h_losses ha1 ha1_saucers ha1_losses f_saucers f_losses f_count f_a1_saucers f_a1_losses f_a1_count) sz)) 0 0 (va_A (cw_X5_become cI h h_saucers h_losses ha1 ha1_saucers ha1_losses f_saucers f_losses f_count f_a1_saucers f_a1_losses f_a1_count) sz) := by
  refine Met.ofW (cc := cX5_become) (maxL := 2) (ret := none) (by decide) rfl ?_
  intro p e s m args below meth c s₁ B hml hv
  obtain ⟨rfl, hsz, hP, hK, hD0⟩ := hv
  subst hsz
  have hx := B.exec
  have hb := B.bytes
  have hr := B.returns
  have hz : ∀ w ∈ zB, w.before _ s = true := fun w h => atoms_spec (ws := v_X5_become) B.pre w (List.mem_cons_of_mem _ h)
  have hown : s.vm.findClass RX5 = some m.cls := findClass_of_methodNamed B.named
  have hlocks := B.notSynchronized
  have hF : CallFix p m c cX5_become 2 s (([.ref h, .ref ha1] : List Value).toArray) zB RX5 := ⟨hx, hb, hml, hown, hz⟩
  have hD := hD0.self (sz := s.heap.size)
  generalize hAe : va_A (cw_X5_become cI h h_saucers h_losses ha1 ha1_saucers ha1_losses f_saucers f_losses f_count f_a1_saucers f_a1_losses f_a1_count) s.heap.size = A at hD ⊢
  have hA : ∀ q : Nat, s.heap.size ≤ q → A q := fun q h => by rw [← hAe]; exact Or.inr h
  have hS : va_S A s.heap s.heap [] := va_S.rf
  have hP : va_P D vwCl (cw_X5_become cI h h_saucers h_losses ha1 ha1_saucers ha1_losses f_saucers f_losses f_count f_a1_saucers f_a1_losses f_a1_count) s.heap := hP
  have hl := lv_entry ([.ref h, .ref ha1]) (n := 2) (Nat.le_of_ble_eq_true rfl)
  rw [lg_entry_eq]
  generalize (lg_sl ([.ref h, .ref ha1]) ++ List.replicate (2 - (lg_sl ([.ref h, .ref ha1])).length) Slot.unset).toArray = ls at hl ⊢
  have hl : lv_has ls 2 [(0, .ref h), (1, .ref ha1)] := hl
  unfold w_X5_become at hw
  refine lv_aload_n hx hb dX5_become_0 rfl (lv_at hl 1 rfl) ?_
  refine va_get (D := D) (ci := 5) (v := .ref ha1_saucers) (C := RX5) (T := TX5) (N := 3) hx hb hz hX_X5 hown hK.1 hP 3 rfl rfl 0 (by decide) (hz _ z1_86) (fun _ h9 => h9) rfl dX5_become_1 ?_
  refine lv_iconst (v := (0 : Int32)) hx hb dX5_become_4 (by decide) ?_
  refine lv_aload_n hx hb dX5_become_5 rfl (lv_at hl 0 rfl) ?_
  refine va_get (D := D) (ci := 5) (v := .ref h_saucers) (C := RX5) (T := TX5) (N := 3) hx hb hz hX_X5 hown hK.1 hP 0 rfl rfl 0 (by decide) (hz _ z1_86) (fun _ h9 => h9) rfl dX5_become_6 ?_
  refine lv_iconst (v := (0 : Int32)) hx hb dX5_become_9 (by decide) ?_
  refine lv_bipush (v := (8 : Int32)) hx hb dX5_become_10 (by decide) ?_
  refine va_copyi (ty := .int) hx hb (hml.trans hl.1.symm) hown (hz _ z3_132) (hz _ z2_71) (hz _ z2_70) (hz _ z1_12) hK.1 hP hD hS 4 1 0 0 rfl rfl rfl rfl rfl (by decide) (by decide) (by decide) (by decide) (by decide) (fun _ _ => rfl) (Nat.le_of_ble_eq_true rfl) (by decide) dX5_become_12 (fun H locs hP hD hS => ?_)
  have hP : va_P D vwCl (cw_X5_become cI h h_saucers h_losses ha1 ha1_saucers ha1_losses (va_cpy f_a1_saucers f_saucers (0 : Int32).toNatClampNeg (0 : Int32).toNatClampNeg (8 : Int32).toNatClampNeg) f_losses f_count f_a1_saucers f_a1_losses f_a1_count) H := hP
  have hD : va_D A (cw_X5_become cI h h_saucers h_losses ha1 ha1_saucers ha1_losses (va_cpy f_a1_saucers f_saucers (0 : Int32).toNatClampNeg (0 : Int32).toNatClampNeg (8 : Int32).toNatClampNeg) f_losses f_count f_a1_saucers f_a1_losses f_a1_count) := hD
  refine lv_aload_n hx hb dX5_become_15 rfl (lv_at hl 1 rfl) ?_
  refine va_get (D := D) (ci := 5) (v := .ref ha1_losses) (C := RX5) (T := TX5) (N := 3) hx hb hz hX_X5 hown hK.1 hP 3 rfl rfl 1 (by decide) (hz _ z1_87) (fun _ h9 => h9) rfl dX5_become_16 ?_
  refine lv_iconst (v := (0 : Int32)) hx hb dX5_become_19 (by decide) ?_
  refine lv_aload_n hx hb dX5_become_20 rfl (lv_at hl 0 rfl) ?_
  refine va_get (D := D) (ci := 5) (v := .ref h_losses) (C := RX5) (T := TX5) (N := 3) hx hb hz hX_X5 hown hK.1 hP 0 rfl rfl 1 (by decide) (hz _ z1_87) (fun _ h9 => h9) rfl dX5_become_21 ?_
  refine lv_iconst (v := (0 : Int32)) hx hb dX5_become_24 (by decide) ?_
  refine lv_bipush (v := (8 : Int32)) hx hb dX5_become_25 (by decide) ?_
  refine va_copyi (ty := .int) hx hb (hml.trans hl.1.symm) hown (hz _ z3_132) (hz _ z2_71) (hz _ z2_70) (hz _ z1_12) hK.1 hP hD hS 5 2 0 0 rfl rfl rfl rfl rfl (by decide) (by decide) (by decide) (by decide) (by decide) (fun _ _ => rfl) (Nat.le_of_ble_eq_true rfl) (by decide) dX5_become_27 (fun H locs hP hD hS => ?_)
  have hP : va_P D vwCl (cw_X5_become cI h h_saucers h_losses ha1 ha1_saucers ha1_losses (va_cpy f_a1_saucers f_saucers (0 : Int32).toNatClampNeg (0 : Int32).toNatClampNeg (8 : Int32).toNatClampNeg) (va_cpy f_a1_losses f_losses (0 : Int32).toNatClampNeg (0 : Int32).toNatClampNeg (8 : Int32).toNatClampNeg) f_count f_a1_saucers f_a1_losses f_a1_count) H := hP
  have hD : va_D A (cw_X5_become cI h h_saucers h_losses ha1 ha1_saucers ha1_losses (va_cpy f_a1_saucers f_saucers (0 : Int32).toNatClampNeg (0 : Int32).toNatClampNeg (8 : Int32).toNatClampNeg) (va_cpy f_a1_losses f_losses (0 : Int32).toNatClampNeg (0 : Int32).toNatClampNeg (8 : Int32).toNatClampNeg) f_count f_a1_saucers f_a1_losses f_a1_count) := hD
  refine lv_aload_n hx hb dX5_become_30 rfl (lv_at hl 0 rfl) ?_
  refine lv_aload_n hx hb dX5_become_31 rfl (lv_at hl 1 rfl) ?_
  refine va_get (D := D) (ci := 5) (v := .int f_a1_count) (C := RX5) (T := TX5) (N := 3) hx hb hz hX_X5 hown hK.1 hP 3 rfl rfl 2 (by decide) (hz _ z1_88) (fun _ h9 => h9) rfl dX5_become_32 ?_
  refine va_put (D := D) (ci := 5) (v := .int f_a1_count) (ty := .int) (C := RX5) (T := TX5) (N := 3) hx hb hz hX_X5 tyX5 tyX5_ok nmX5 hown hK.1 hP hD hS 0 rfl rfl 2 (by decide) (hz _ z1_88) (fun _ h9 => h9) rfl (tyX5_ok 2 (by decide)) rfl rfl (Nat.le_of_ble_eq_true rfl) dX5_become_35 (fun H locs hP hD hS => ?_)
  have hP : va_P D vwCl (cw_X5_become cI h h_saucers h_losses ha1 ha1_saucers ha1_losses (va_cpy f_a1_saucers f_saucers (0 : Int32).toNatClampNeg (0 : Int32).toNatClampNeg (8 : Int32).toNatClampNeg) (va_cpy f_a1_losses f_losses (0 : Int32).toNatClampNeg (0 : Int32).toNatClampNeg (8 : Int32).toNatClampNeg) f_a1_count f_a1_saucers f_a1_losses f_a1_count) H := hP
  have hD : va_D A (cw_X5_become cI h h_saucers h_losses ha1 ha1_saucers ha1_losses (va_cpy f_a1_saucers f_saucers (0 : Int32).toNatClampNeg (0 : Int32).toNatClampNeg (8 : Int32).toNatClampNeg) (va_cpy f_a1_losses f_losses (0 : Int32).toNatClampNeg (0 : Int32).toNatClampNeg (8 : Int32).toNatClampNeg) f_a1_count f_a1_saucers f_a1_losses f_a1_count) := hD
  exact z_vret hx hb hr hlocks ((va_cpy f_a1_saucers f_saucers (0 : Int32).toNatClampNeg (0 : Int32).toNatClampNeg (8 : Int32).toNatClampNeg), (va_cpy f_a1_losses f_losses (0 : Int32).toNatClampNeg (0 : Int32).toNatClampNeg (8 : Int32).toNatClampNeg), f_a1_count) hw hP hS dX5_become_38
abbrev cw_X7_become (cI : ClassId) (h h_court h_court_places h_court_creams h_town h_town_ways h_sights h_sights_saucers h_sights_losses ha1 ha1_court ha1_court_places ha1_court_creams ha1_town ha1_town_ways ha1_sights ha1_sights_saucers ha1_sights_losses : Nat) (f_court_places : Nat → Int32) (f_court_creams : Nat → Int32) (f_court_present : Int32) (f_court_lying : Int32) (f_court_his : Int32) (f_court_power : Int32) (f_court_spite : Int32) (f_court_hour : Int32) (f_town_ways : Nat → Int32) (f_town_milky : Int32) (f_sights_saucers : Nat → Int32) (f_sights_losses : Nat → Int32) (f_sights_count : Int32) (f_a1_court_places : Nat → Int32) (f_a1_court_creams : Nat → Int32) (f_a1_court_present : Int32) (f_a1_court_lying : Int32) (f_a1_court_his : Int32) (f_a1_court_power : Int32) (f_a1_court_spite : Int32) (f_a1_court_hour : Int32) (f_a1_town_ways : Nat → Int32) (f_a1_town_milky : Int32) (f_a1_sights_saucers : Nat → Int32) (f_a1_sights_losses : Nat → Int32) (f_a1_sights_count : Int32) : va_W := [(h, .inr (7, [.ref h_court, .ref h_town, .ref h_sights])), (h_court, .inr (1, [.ref h_court_places, .ref h_court_creams, .int f_court_present, .int f_court_lying, .int f_court_his, .int f_court_power, .int f_court_spite, .int f_court_hour])), (h_court_places, .inl (cI, 8, .inl f_court_places)), (h_court_creams, .inl (cI, 8, .inl f_court_creams)), (h_town, .inr (6, [.ref h_town_ways, .int f_town_milky])), (h_town_ways, .inl (cI, 12, .inl f_town_ways)), (h_sights, .inr (5, [.ref h_sights_saucers, .ref h_sights_losses, .int f_sights_count])), (h_sights_saucers, .inl (cI, 8, .inl f_sights_saucers)), (h_sights_losses, .inl (cI, 8, .inl f_sights_losses)), (ha1, .inr (7, [.ref ha1_court, .ref ha1_town, .ref ha1_sights])), (ha1_court, .inr (1, [.ref ha1_court_places, .ref ha1_court_creams, .int f_a1_court_present, .int f_a1_court_lying, .int f_a1_court_his, .int f_a1_court_power, .int f_a1_court_spite, .int f_a1_court_hour])), (ha1_court_places, .inl (cI, 8, .inl f_a1_court_places)), (ha1_court_creams, .inl (cI, 8, .inl f_a1_court_creams)), (ha1_town, .inr (6, [.ref ha1_town_ways, .int f_a1_town_milky])), (ha1_town_ways, .inl (cI, 12, .inl f_a1_town_ways)), (ha1_sights, .inr (5, [.ref ha1_sights_saucers, .ref ha1_sights_losses, .int f_a1_sights_count])), (ha1_sights_saucers, .inl (cI, 8, .inl f_a1_sights_saucers)), (ha1_sights_losses, .inl (cI, 8, .inl f_a1_sights_losses))]
abbrev q_X7_become (D : va_G) (cI : ClassId) (h h_court h_court_places h_court_creams h_town h_town_ways h_sights h_sights_saucers h_sights_losses ha1 ha1_court ha1_court_places ha1_court_creams ha1_town ha1_town_ways ha1_sights ha1_sights_saucers ha1_sights_losses : Nat) (post : (Nat → Int32) → (Nat → Int32) → Int32 → Int32 → Int32 → Int32 → Int32 → Int32 → (Nat → Int32) → Int32 → (Nat → Int32) → (Nat → Int32) → Int32 → Prop) (f_a1_court_places : Nat → Int32) (f_a1_court_creams : Nat → Int32) (f_a1_court_present : Int32) (f_a1_court_lying : Int32) (f_a1_court_his : Int32) (f_a1_court_power : Int32) (f_a1_court_spite : Int32) (f_a1_court_hour : Int32) (f_a1_town_ways : Nat → Int32) (f_a1_town_milky : Int32) (f_a1_sights_saucers : Nat → Int32) (f_a1_sights_losses : Nat → Int32) (f_a1_sights_count : Int32) (A : Nat → Prop) : Array Value → State → Outcome → State → Prop := va_Qv (S := (Nat → Int32) × (Nat → Int32) × Int32 × Int32 × Int32 × Int32 × Int32 × Int32 × (Nat → Int32) × Int32 × (Nat → Int32) × (Nat → Int32) × Int32) (fun u => post u.1 u.2.1 u.2.2.1 u.2.2.2.1 u.2.2.2.2.1 u.2.2.2.2.2.1 u.2.2.2.2.2.2.1 u.2.2.2.2.2.2.2.1 u.2.2.2.2.2.2.2.2.1 u.2.2.2.2.2.2.2.2.2.1 u.2.2.2.2.2.2.2.2.2.2.1 u.2.2.2.2.2.2.2.2.2.2.2.1 u.2.2.2.2.2.2.2.2.2.2.2.2) (fun u t => va_P D vwCl (cw_X7_become cI h h_court h_court_places h_court_creams h_town h_town_ways h_sights h_sights_saucers h_sights_losses ha1 ha1_court ha1_court_places ha1_court_creams ha1_town ha1_town_ways ha1_sights ha1_sights_saucers ha1_sights_losses u.1 u.2.1 u.2.2.1 u.2.2.2.1 u.2.2.2.2.1 u.2.2.2.2.2.1 u.2.2.2.2.2.2.1 u.2.2.2.2.2.2.2.1 u.2.2.2.2.2.2.2.2.1 u.2.2.2.2.2.2.2.2.2.1 u.2.2.2.2.2.2.2.2.2.2.1 u.2.2.2.2.2.2.2.2.2.2.2.1 u.2.2.2.2.2.2.2.2.2.2.2.2 f_a1_court_places f_a1_court_creams f_a1_court_present f_a1_court_lying f_a1_court_his f_a1_court_power f_a1_court_spite f_a1_court_hour f_a1_town_ways f_a1_town_milky f_a1_sights_saucers f_a1_sights_losses f_a1_sights_count) t.heap) A
abbrev v_X7_become : List Cond := .code yX7_become cX7_become 2 none :: zB
theorem hd_X7_become : yX7_become.cls = RX7 ∧ yX7_become.cls ≠ "java/lang/invoke/MethodHandle" ∧ yX7_become.cls ≠ "java/lang/invoke/VarHandle" ∧ (parseMethodDescriptor yX7_become.desc).map (fun d => d.parameters.length) = some 1 := by decide +kernel
set_option maxHeartbeats 4000000 in
set_option maxRecDepth 100000 in
theorem c_X7_become (l : Launch) (D : va_G) (cI cC cZ : ClassId) (h h_court h_court_places h_court_creams h_town h_town_ways h_sights h_sights_saucers h_sights_losses ha1 ha1_court ha1_court_places ha1_court_creams ha1_town ha1_town_ways ha1_sights ha1_sights_saucers ha1_sights_losses : Nat) (f_court_places : Nat → Int32) (f_court_creams : Nat → Int32) (f_court_present : Int32) (f_court_lying : Int32) (f_court_his : Int32) (f_court_power : Int32) (f_court_spite : Int32) (f_court_hour : Int32) (f_town_ways : Nat → Int32) (f_town_milky : Int32) (f_sights_saucers : Nat → Int32) (f_sights_losses : Nat → Int32) (f_sights_count : Int32) (f_a1_court_places : Nat → Int32) (f_a1_court_creams : Nat → Int32) (f_a1_court_present : Int32) (f_a1_court_lying : Int32) (f_a1_court_his : Int32) (f_a1_court_power : Int32) (f_a1_court_spite : Int32) (f_a1_court_hour : Int32) (f_a1_town_ways : Nat → Int32) (f_a1_town_milky : Int32) (f_a1_sights_saucers : Nat → Int32) (f_a1_sights_losses : Nat → Int32) (f_a1_sights_count : Int32) (sz : Nat) (post : (Nat → Int32) → (Nat → Int32) → Int32 → Int32 → Int32 → Int32 → Int32 → Int32 → (Nat → Int32) → Int32 → (Nat → Int32) → (Nat → Int32) → Int32 → Prop) (hw : w_X7_become post f_court_places f_court_creams f_court_present f_court_lying f_court_his f_court_power f_court_spite f_court_hour f_town_ways f_town_milky f_sights_saucers f_sights_losses f_sights_count f_a1_court_places f_a1_court_creams f_a1_court_present f_a1_court_lying f_a1_court_his f_a1_court_power f_a1_court_spite f_a1_court_hour f_a1_town_ways f_a1_town_milky f_a1_sights_saucers f_a1_sights_losses f_a1_sights_count) : Met l yX7_become v_X7_become ({ frames := 2, cells := 0, slots := 0, locals := 61 } : Room) (va_Pc [.ref h, .ref ha1] (zPre D (zT cI cC cZ) sz (cw_X7_become cI h h_court h_court_places h_court_creams h_town h_town_ways h_sights h_sights_saucers h_sights_losses ha1 ha1_court ha1_court_places ha1_court_creams ha1_town ha1_town_ways ha1_sights ha1_sights_saucers ha1_sights_losses f_court_places f_court_creams f_court_present f_court_lying f_court_his f_court_power f_court_spite f_court_hour f_town_ways f_town_milky f_sights_saucers f_sights_losses f_sights_count f_a1_court_places f_a1_court_creams f_a1_court_present f_a1_court_lying f_a1_court_his f_a1_court_power f_a1_court_spite f_a1_court_hour f_a1_town_ways f_a1_town_milky f_a1_sights_saucers f_a1_sights_losses f_a1_sights_count))) (q_X7_become D cI h h_court h_court_places h_court_creams h_town h_town_ways h_sights h_sights_saucers h_sights_losses ha1 ha1_court ha1_court_places ha1_court_creams ha1_town ha1_town_ways ha1_sights ha1_sights_saucers ha1_sights_losses post f_a1_court_places f_a1_court_creams f_a1_court_present f_a1_court_lying f_a1_court_his f_a1_court_power f_a1_court_spite f_a1_court_hour f_a1_town_ways f_a1_town_milky f_a1_sights_saucers f_a1_sights_losses f_a1_sights_count (va_A (cw_X7_become cI h h_court h_court_places h_court_creams h_town h_town_ways h_sights h_sights_saucers h_sights_losses ha1 ha1_court ha1_court_places ha1_court_creams ha1_town ha1_town_ways ha1_sights ha1_sights_saucers ha1_sights_losses f_court_places f_court_creams f_court_present f_court_lying f_court_his f_court_power f_court_spite f_court_hour f_town_ways f_town_milky f_sights_saucers f_sights_losses f_sights_count f_a1_court_places f_a1_court_creams f_a1_court_present f_a1_court_lying f_a1_court_his f_a1_court_power f_a1_court_spite f_a1_court_hour f_a1_town_ways f_a1_town_milky f_a1_sights_saucers f_a1_sights_losses f_a1_sights_count) sz)) 0 0 (va_A (cw_X7_become cI h h_court h_court_places h_court_creams h_town h_town_ways h_sights h_sights_saucers h_sights_losses ha1 ha1_court ha1_court_places ha1_court_creams ha1_town ha1_town_ways ha1_sights ha1_sights_saucers ha1_sights_losses f_court_places f_court_creams f_court_present f_court_lying f_court_his f_court_power f_court_spite f_court_hour f_town_ways f_town_milky f_sights_saucers f_sights_losses f_sights_count f_a1_court_places f_a1_court_creams f_a1_court_present f_a1_court_lying f_a1_court_his f_a1_court_power f_a1_court_spite f_a1_court_hour f_a1_town_ways f_a1_town_milky f_a1_sights_saucers f_a1_sights_losses f_a1_sights_count) sz) := by
  refine Met.ofW (cc := cX7_become) (maxL := 2) (ret := none) (by decide) rfl ?_
  intro p e s m args below meth c s₁ B hml hv
  obtain ⟨rfl, hsz, hP, hK, hD0⟩ := hv
  subst hsz
  have hx := B.exec
  have hb := B.bytes
  have hr := B.returns
  have hz : ∀ w ∈ zB, w.before _ s = true := fun w h => atoms_spec (ws := v_X7_become) B.pre w (List.mem_cons_of_mem _ h)
  have hown : s.vm.findClass RX7 = some m.cls := findClass_of_methodNamed B.named
  have hlocks := B.notSynchronized
  have hF : CallFix p m c cX7_become 2 s (([.ref h, .ref ha1] : List Value).toArray) zB RX7 := ⟨hx, hb, hml, hown, hz⟩
  have hD := hD0.self (sz := s.heap.size)
  generalize hAe : va_A (cw_X7_become cI h h_court h_court_places h_court_creams h_town h_town_ways h_sights h_sights_saucers h_sights_losses ha1 ha1_court ha1_court_places ha1_court_creams ha1_town ha1_town_ways ha1_sights ha1_sights_saucers ha1_sights_losses f_court_places f_court_creams f_court_present f_court_lying f_court_his f_court_power f_court_spite f_court_hour f_town_ways f_town_milky f_sights_saucers f_sights_losses f_sights_count f_a1_court_places f_a1_court_creams f_a1_court_present f_a1_court_lying f_a1_court_his f_a1_court_power f_a1_court_spite f_a1_court_hour f_a1_town_ways f_a1_town_milky f_a1_sights_saucers f_a1_sights_losses f_a1_sights_count) s.heap.size = A at hD ⊢
  have hA : ∀ q : Nat, s.heap.size ≤ q → A q := fun q h => by rw [← hAe]; exact Or.inr h
  have hS : va_S A s.heap s.heap [] := va_S.rf
  have hP : va_P D vwCl (cw_X7_become cI h h_court h_court_places h_court_creams h_town h_town_ways h_sights h_sights_saucers h_sights_losses ha1 ha1_court ha1_court_places ha1_court_creams ha1_town ha1_town_ways ha1_sights ha1_sights_saucers ha1_sights_losses f_court_places f_court_creams f_court_present f_court_lying f_court_his f_court_power f_court_spite f_court_hour f_town_ways f_town_milky f_sights_saucers f_sights_losses f_sights_count f_a1_court_places f_a1_court_creams f_a1_court_present f_a1_court_lying f_a1_court_his f_a1_court_power f_a1_court_spite f_a1_court_hour f_a1_town_ways f_a1_town_milky f_a1_sights_saucers f_a1_sights_losses f_a1_sights_count) s.heap := hP
  have hl := lv_entry ([.ref h, .ref ha1]) (n := 2) (Nat.le_of_ble_eq_true rfl)
  rw [lg_entry_eq]
  generalize (lg_sl ([.ref h, .ref ha1]) ++ List.replicate (2 - (lg_sl ([.ref h, .ref ha1])).length) Slot.unset).toArray = ls at hl ⊢
  have hl : lv_has ls 2 [(0, .ref h), (1, .ref ha1)] := hl
  unfold w_X7_become at hw
  refine lv_aload_n hx hb dX7_become_0 rfl (lv_at hl 0 rfl) ?_
  refine va_get (D := D) (ci := 7) (v := .ref h_court) (C := RX7) (T := TX7) (N := 3) hx hb hz hX_X7 hown hK.1 hP 0 rfl rfl 0 (by decide) (hz _ z1_97) (fun _ h9 => h9) rfl dX7_become_1 ?_
  refine lv_aload_n hx hb dX7_become_4 rfl (lv_at hl 1 rfl) ?_
  refine va_get (D := D) (ci := 7) (v := .ref ha1_court) (C := RX7) (T := TX7) (N := 3) hx hb hz hX_X7 hown hK.1 hP 9 rfl rfl 0 (by decide) (hz _ z1_97) (fun _ h9 => h9) rfl dX7_become_5 ?_
  refine z_rv (z_runV (As := [.ref ha1_court]) (rest := []) hF (c_X1_become l D cI cC cZ h_court h_court_places h_court_creams ha1_court ha1_court_places ha1_court_creams f_court_places f_court_creams f_court_present f_court_lying f_court_his f_court_power f_court_spite f_court_hour f_a1_court_places f_a1_court_creams f_a1_court_present f_a1_court_lying f_a1_court_his f_a1_court_power f_a1_court_spite f_a1_court_hour _ _ hw) (cwV 1 hz (z_gV z3_122 z2_66 z2_67 z1_3 z2_68) rfl rfl rfl hd_X1_become ⟨Nat.le_of_ble_eq_true rfl, Nat.le_of_ble_eq_true rfl⟩) hK hP hD [1, 2, 3, 10, 11, 12] rfl rfl 1 1 rfl rfl rfl rfl hl.1 rfl (Nat.le_of_ble_eq_true rfl) dX7_become_8 ⟨Nat.zero_le _, Nat.zero_le _⟩) hP hD hS hA [1, 2, 3, 10, 11, 12] rfl (fun _ => rfl) (fun u => cw_X7_become cI h h_court h_court_places h_court_creams h_town h_town_ways h_sights h_sights_saucers h_sights_losses ha1 ha1_court ha1_court_places ha1_court_creams ha1_town ha1_town_ways ha1_sights ha1_sights_saucers ha1_sights_losses u.1 u.2.1 u.2.2.1 u.2.2.2.1 u.2.2.2.2.1 u.2.2.2.2.2.1 u.2.2.2.2.2.2.1 u.2.2.2.2.2.2.2 f_town_ways f_town_milky f_sights_saucers f_sights_losses f_sights_count f_a1_court_places f_a1_court_creams f_a1_court_present f_a1_court_lying f_a1_court_his f_a1_court_power f_a1_court_spite f_a1_court_hour f_a1_town_ways f_a1_town_milky f_a1_sights_saucers f_a1_sights_losses f_a1_sights_count) (fun _ => rfl) (fun u8 H locs hw hP hD hS => ?_)
  obtain ⟨u8_0, u8_1, u8_2, u8_3, u8_4, u8_5, u8_6, u8_7⟩ := u8
  try dsimp only at hw
  have hP : va_P D vwCl (cw_X7_become cI h h_court h_court_places h_court_creams h_town h_town_ways h_sights h_sights_saucers h_sights_losses ha1 ha1_court ha1_court_places ha1_court_creams ha1_town ha1_town_ways ha1_sights ha1_sights_saucers ha1_sights_losses u8_0 u8_1 u8_2 u8_3 u8_4 u8_5 u8_6 u8_7 f_town_ways f_town_milky f_sights_saucers f_sights_losses f_sights_count f_a1_court_places f_a1_court_creams f_a1_court_present f_a1_court_lying f_a1_court_his f_a1_court_power f_a1_court_spite f_a1_court_hour f_a1_town_ways f_a1_town_milky f_a1_sights_saucers f_a1_sights_losses f_a1_sights_count) H := hP
  have hD : va_D A (cw_X7_become cI h h_court h_court_places h_court_creams h_town h_town_ways h_sights h_sights_saucers h_sights_losses ha1 ha1_court ha1_court_places ha1_court_creams ha1_town ha1_town_ways ha1_sights ha1_sights_saucers ha1_sights_losses u8_0 u8_1 u8_2 u8_3 u8_4 u8_5 u8_6 u8_7 f_town_ways f_town_milky f_sights_saucers f_sights_losses f_sights_count f_a1_court_places f_a1_court_creams f_a1_court_present f_a1_court_lying f_a1_court_his f_a1_court_power f_a1_court_spite f_a1_court_hour f_a1_town_ways f_a1_town_milky f_a1_sights_saucers f_a1_sights_losses f_a1_sights_count) := hD
  refine lv_aload_n hx hb dX7_become_11 rfl (lv_at hl 0 rfl) ?_
  refine va_get (D := D) (ci := 7) (v := .ref h_town) (C := RX7) (T := TX7) (N := 3) hx hb hz hX_X7 hown hK.1 hP 0 rfl rfl 1 (by decide) (hz _ z1_99) (fun _ h9 => h9) rfl dX7_become_12 ?_
  refine lv_aload_n hx hb dX7_become_15 rfl (lv_at hl 1 rfl) ?_
  refine va_get (D := D) (ci := 7) (v := .ref ha1_town) (C := RX7) (T := TX7) (N := 3) hx hb hz hX_X7 hown hK.1 hP 9 rfl rfl 1 (by decide) (hz _ z1_99) (fun _ h9 => h9) rfl dX7_become_16 ?_
  refine z_rv (z_runV (As := [.ref ha1_town]) (rest := []) hF (c_X6_become l D cI cC cZ h_town h_town_ways ha1_town ha1_town_ways f_town_ways f_town_milky f_a1_town_ways f_a1_town_milky _ _ hw) (cwV 1 hz (z_gV z3_123 z3_124 z3_125 z1_4 z3_126) rfl rfl rfl hd_X6_become ⟨Nat.le_of_ble_eq_true rfl, Nat.le_of_ble_eq_true rfl⟩) hK hP hD [4, 5, 13, 14] rfl rfl 4 6 rfl rfl rfl rfl hl.1 rfl (Nat.le_of_ble_eq_true rfl) dX7_become_19 ⟨Nat.zero_le _, Nat.zero_le _⟩) hP hD hS hA [4, 5, 13, 14] rfl (fun _ => rfl) (fun u => cw_X7_become cI h h_court h_court_places h_court_creams h_town h_town_ways h_sights h_sights_saucers h_sights_losses ha1 ha1_court ha1_court_places ha1_court_creams ha1_town ha1_town_ways ha1_sights ha1_sights_saucers ha1_sights_losses u8_0 u8_1 u8_2 u8_3 u8_4 u8_5 u8_6 u8_7 u.1 u.2 f_sights_saucers f_sights_losses f_sights_count f_a1_court_places f_a1_court_creams f_a1_court_present f_a1_court_lying f_a1_court_his f_a1_court_power f_a1_court_spite f_a1_court_hour f_a1_town_ways f_a1_town_milky f_a1_sights_saucers f_a1_sights_losses f_a1_sights_count) (fun _ => rfl) (fun u19 H locs hw hP hD hS => ?_)
  obtain ⟨u19_0, u19_1⟩ := u19
  try dsimp only at hw
  have hP : va_P D vwCl (cw_X7_become cI h h_court h_court_places h_court_creams h_town h_town_ways h_sights h_sights_saucers h_sights_losses ha1 ha1_court ha1_court_places ha1_court_creams ha1_town ha1_town_ways ha1_sights ha1_sights_saucers ha1_sights_losses u8_0 u8_1 u8_2 u8_3 u8_4 u8_5 u8_6 u8_7 u19_0 u19_1 f_sights_saucers f_sights_losses f_sights_count f_a1_court_places f_a1_court_creams f_a1_court_present f_a1_court_lying f_a1_court_his f_a1_court_power f_a1_court_spite f_a1_court_hour f_a1_town_ways f_a1_town_milky f_a1_sights_saucers f_a1_sights_losses f_a1_sights_count) H := hP
  have hD : va_D A (cw_X7_become cI h h_court h_court_places h_court_creams h_town h_town_ways h_sights h_sights_saucers h_sights_losses ha1 ha1_court ha1_court_places ha1_court_creams ha1_town ha1_town_ways ha1_sights ha1_sights_saucers ha1_sights_losses u8_0 u8_1 u8_2 u8_3 u8_4 u8_5 u8_6 u8_7 u19_0 u19_1 f_sights_saucers f_sights_losses f_sights_count f_a1_court_places f_a1_court_creams f_a1_court_present f_a1_court_lying f_a1_court_his f_a1_court_power f_a1_court_spite f_a1_court_hour f_a1_town_ways f_a1_town_milky f_a1_sights_saucers f_a1_sights_losses f_a1_sights_count) := hD
  refine lv_aload_n hx hb dX7_become_22 rfl (lv_at hl 0 rfl) ?_
  refine va_get (D := D) (ci := 7) (v := .ref h_sights) (C := RX7) (T := TX7) (N := 3) hx hb hz hX_X7 hown hK.1 hP 0 rfl rfl 2 (by decide) (hz _ z1_101) (fun _ h9 => h9) rfl dX7_become_23 ?_
  refine lv_aload_n hx hb dX7_become_26 rfl (lv_at hl 1 rfl) ?_
  refine va_get (D := D) (ci := 7) (v := .ref ha1_sights) (C := RX7) (T := TX7) (N := 3) hx hb hz hX_X7 hown hK.1 hP 9 rfl rfl 2 (by decide) (hz _ z1_101) (fun _ h9 => h9) rfl dX7_become_27 ?_
  refine z_rv (z_runV (As := [.ref ha1_sights]) (rest := []) hF (c_X5_become l D cI cC cZ h_sights h_sights_saucers h_sights_losses ha1_sights ha1_sights_saucers ha1_sights_losses f_sights_saucers f_sights_losses f_sights_count f_a1_sights_saucers f_a1_sights_losses f_a1_sights_count _ _ hw) (cwV 1 hz (z_gV z3_128 z3_129 z3_130 z1_5 z3_131) rfl rfl rfl hd_X5_become ⟨Nat.le_of_ble_eq_true rfl, Nat.le_of_ble_eq_true rfl⟩) hK hP hD [6, 7, 8, 15, 16, 17] rfl rfl 6 5 rfl rfl rfl rfl hl.1 rfl (Nat.le_of_ble_eq_true rfl) dX7_become_30 ⟨Nat.zero_le _, Nat.zero_le _⟩) hP hD hS hA [6, 7, 8, 15, 16, 17] rfl (fun _ => rfl) (fun u => cw_X7_become cI h h_court h_court_places h_court_creams h_town h_town_ways h_sights h_sights_saucers h_sights_losses ha1 ha1_court ha1_court_places ha1_court_creams ha1_town ha1_town_ways ha1_sights ha1_sights_saucers ha1_sights_losses u8_0 u8_1 u8_2 u8_3 u8_4 u8_5 u8_6 u8_7 u19_0 u19_1 u.1 u.2.1 u.2.2 f_a1_court_places f_a1_court_creams f_a1_court_present f_a1_court_lying f_a1_court_his f_a1_court_power f_a1_court_spite f_a1_court_hour f_a1_town_ways f_a1_town_milky f_a1_sights_saucers f_a1_sights_losses f_a1_sights_count) (fun _ => rfl) (fun u30 H locs hw hP hD hS => ?_)
  obtain ⟨u30_0, u30_1, u30_2⟩ := u30
  try dsimp only at hw
  have hP : va_P D vwCl (cw_X7_become cI h h_court h_court_places h_court_creams h_town h_town_ways h_sights h_sights_saucers h_sights_losses ha1 ha1_court ha1_court_places ha1_court_creams ha1_town ha1_town_ways ha1_sights ha1_sights_saucers ha1_sights_losses u8_0 u8_1 u8_2 u8_3 u8_4 u8_5 u8_6 u8_7 u19_0 u19_1 u30_0 u30_1 u30_2 f_a1_court_places f_a1_court_creams f_a1_court_present f_a1_court_lying f_a1_court_his f_a1_court_power f_a1_court_spite f_a1_court_hour f_a1_town_ways f_a1_town_milky f_a1_sights_saucers f_a1_sights_losses f_a1_sights_count) H := hP
  have hD : va_D A (cw_X7_become cI h h_court h_court_places h_court_creams h_town h_town_ways h_sights h_sights_saucers h_sights_losses ha1 ha1_court ha1_court_places ha1_court_creams ha1_town ha1_town_ways ha1_sights ha1_sights_saucers ha1_sights_losses u8_0 u8_1 u8_2 u8_3 u8_4 u8_5 u8_6 u8_7 u19_0 u19_1 u30_0 u30_1 u30_2 f_a1_court_places f_a1_court_creams f_a1_court_present f_a1_court_lying f_a1_court_his f_a1_court_power f_a1_court_spite f_a1_court_hour f_a1_town_ways f_a1_town_milky f_a1_sights_saucers f_a1_sights_losses f_a1_sights_count) := hD
  exact z_vret hx hb hr hlocks (u8_0, u8_1, u8_2, u8_3, u8_4, u8_5, u8_6, u8_7, u19_0, u19_1, u30_0, u30_1, u30_2) hw hP hS dX7_become_33
abbrev cw_X1_placeOf (cI : ClassId) (h h_places : Nat) (g_creams g_present g_lying g_his g_power g_spite g_hour : Value) (f_places : Nat → Int32) : va_W := [(h, .inr (1, [.ref h_places, g_creams, g_present, g_lying, g_his, g_power, g_spite, g_hour])), (h_places, .inl (cI, 8, .inl f_places))]
abbrev q_X1_placeOf (D : va_G) (cI : ClassId) (h h_places : Nat) (g_creams g_present g_lying g_his g_power g_spite g_hour : Value) (post : Int32 → Prop) (f_places : Nat → Int32) (A : Nat → Prop) : Array Value → State → Outcome → State → Prop := va_Qi (S := Unit) (fun r _ => post r ) (fun _ t => va_P D vwCl (cw_X1_placeOf cI h h_places g_creams g_present g_lying g_his g_power g_spite g_hour f_places) t.heap) A
abbrev v_X1_placeOf : List Cond := .code yX1_placeOf cX1_placeOf 2 (some .int) :: zB
theorem hd_X1_placeOf : yX1_placeOf.cls = RX1 ∧ yX1_placeOf.cls ≠ "java/lang/invoke/MethodHandle" ∧ yX1_placeOf.cls ≠ "java/lang/invoke/VarHandle" ∧ (parseMethodDescriptor yX1_placeOf.desc).map (fun d => d.parameters.length) = some 1 := by decide +kernel
set_option maxHeartbeats 4000000 in
set_option maxRecDepth 100000 in
theorem c_X1_placeOf (l : Launch) (D : va_G) (cI cC cZ : ClassId) (h h_places : Nat) (g_creams g_present g_lying g_his g_power g_spite g_hour : Value) (f_places : Nat → Int32) (p1 : Int32) (sz : Nat) (post : Int32 → Prop) (hw : w_X1_placeOf post f_places p1) : Met l yX1_placeOf v_X1_placeOf ({ frames := 1, cells := 0, slots := 0, locals := 20 } : Room) (va_Pc [.ref h, .int p1] (zPre D (zT cI cC cZ) sz (cw_X1_placeOf cI h h_places g_creams g_present g_lying g_his g_power g_spite g_hour f_places))) (q_X1_placeOf D cI h h_places g_creams g_present g_lying g_his g_power g_spite g_hour post f_places (va_A (cw_X1_placeOf cI h h_places g_creams g_present g_lying g_his g_power g_spite g_hour f_places) sz)) 0 0 (va_A (cw_X1_placeOf cI h h_places g_creams g_present g_lying g_his g_power g_spite g_hour f_places) sz) := by
  refine Met.ofW (cc := cX1_placeOf) (maxL := 2) (ret := (some .int)) (by decide) rfl ?_
  intro p e s m args below meth c s₁ B hml hv
  obtain ⟨rfl, hsz, hP, hK, hD0⟩ := hv
  subst hsz
  have hx := B.exec
  have hb := B.bytes
  have hr := B.returns
  have hz : ∀ w ∈ zB, w.before _ s = true := fun w h => atoms_spec (ws := v_X1_placeOf) B.pre w (List.mem_cons_of_mem _ h)
  have hown : s.vm.findClass RX1 = some m.cls := findClass_of_methodNamed B.named
  have hlocks := B.notSynchronized
  have hF : CallFix p m c cX1_placeOf 2 s (([.ref h, .int p1] : List Value).toArray) zB RX1 := ⟨hx, hb, hml, hown, hz⟩
  have hD := hD0.self (sz := s.heap.size)
  generalize hAe : va_A (cw_X1_placeOf cI h h_places g_creams g_present g_lying g_his g_power g_spite g_hour f_places) s.heap.size = A at hD ⊢
  have hA : ∀ q : Nat, s.heap.size ≤ q → A q := fun q h => by rw [← hAe]; exact Or.inr h
  have hS : va_S A s.heap s.heap [] := va_S.rf
  have hP : va_P D vwCl (cw_X1_placeOf cI h h_places g_creams g_present g_lying g_his g_power g_spite g_hour f_places) s.heap := hP
  have hl := lv_entry ([.ref h, .int p1]) (n := 2) (Nat.le_of_ble_eq_true rfl)
  rw [lg_entry_eq]
  generalize (lg_sl ([.ref h, .int p1]) ++ List.replicate (2 - (lg_sl ([.ref h, .int p1])).length) Slot.unset).toArray = ls at hl ⊢
  have hl : lv_has ls 2 [(0, .ref h), (1, .int p1)] := hl
  unfold w_X1_placeOf at hw
  refine lv_iload_n hx hb dX1_placeOf_0 rfl (lv_at hl 1 rfl) ?_
  refine z_ri (z_runSN (As := [.int p1]) (rest := []) hF (c_X8_isWitness l D cI cC cZ p1 _ _ hw) ⟨va_cnB 1 hz (z_gN z1_208) rfl rfl rfl (hK.2.1 _ (List.mem_of_getElem? (i := 18) rfl)) (hz _ z1_1) hd_X8_isWitness ⟨Nat.le_of_ble_eq_true rfl, Nat.le_of_ble_eq_true rfl⟩, (hz _ z1_207), trivial⟩ hK hP hD [] rfl rfl rfl hl.1 rfl (Nat.le_of_ble_eq_true rfl) dX1_placeOf_1 ⟨Nat.zero_le _, Nat.zero_le _⟩) hP hD hS hA [] rfl (fun _ => rfl) (fun _ => cw_X1_placeOf cI h h_places g_creams g_present g_lying g_his g_power g_spite g_hour f_places) (fun _ => rfl) (fun r1 u1 H locs hw hP hD hS => ?_)
  obtain ⟨hn1, hw⟩ := hw
  try dsimp only at hw
  refine lv_if_eq (tgt := 16) hx hb dX1_placeOf_4 (by decide) (fun c4 => ?_) (fun c4 => ?_)
  · have hw := hw.1 c4
    refine lv_iconst (v := (0 : Int32)) hx hb dX1_placeOf_16 (by decide) ?_
    exact z_iret hx hb hr hlocks () hw hP hS dX1_placeOf_17
  have hw := hw.2 c4
  refine lv_aload_n hx hb dX1_placeOf_7 rfl (lv_at hl 0 rfl) ?_
  refine va_get (D := D) (ci := 1) (v := .ref h_places) (C := RX1) (T := TX1) (N := 8) hx hb hz hX_X1 hown hK.1 hP 0 rfl rfl 0 (by decide) (hz _ z1_35) (fun _ h9 => h9) rfl dX1_placeOf_8 ?_
  refine lv_iload_n hx hb dX1_placeOf_11 rfl (lv_at hl 1 rfl) ?_
  obtain ⟨hi12, hw⟩ := hw
  refine va_iald hx hb hK.1 hP 1 0 rfl rfl hi12 dX1_placeOf_12 ?_
  refine lv_goto (tgt := 17) hx hb dX1_placeOf_13 (by decide) ?_
  exact z_iret hx hb hr hlocks () hw hP hS dX1_placeOf_17
abbrev cw_X8_toldOfWitness (cI : ClassId) (h h_world h_world_court h_world_court_places h_world_court_creams : Nat) (g_images g_pad g_hearing g_bowls g_guesses g_world_town g_world_sights g_world_court_his g_world_court_power g_world_court_spite g_world_court_hour : Value) (f_world_court_places : Nat → Int32) (f_world_court_creams : Nat → Int32) (f_world_court_present : Int32) (f_world_court_lying : Int32) : va_W := [(h, .inr (8, [.ref h_world, g_images, g_pad, g_hearing, g_bowls, g_guesses])), (h_world, .inr (7, [.ref h_world_court, g_world_town, g_world_sights])), (h_world_court, .inr (1, [.ref h_world_court_places, .ref h_world_court_creams, .int f_world_court_present, .int f_world_court_lying, g_world_court_his, g_world_court_power, g_world_court_spite, g_world_court_hour])), (h_world_court_places, .inl (cI, 8, .inl f_world_court_places)), (h_world_court_creams, .inl (cI, 8, .inl f_world_court_creams))]
abbrev q_X8_toldOfWitness (D : va_G) (cI : ClassId) (h h_world h_world_court h_world_court_places h_world_court_creams : Nat) (g_images g_pad g_hearing g_bowls g_guesses g_world_town g_world_sights g_world_court_his g_world_court_power g_world_court_spite g_world_court_hour : Value) (post : Int32 → Prop) (f_world_court_places : Nat → Int32) (f_world_court_creams : Nat → Int32) (f_world_court_present : Int32) (f_world_court_lying : Int32) (A : Nat → Prop) : Array Value → State → Outcome → State → Prop := va_Qi (S := Unit) (fun r _ => post r ) (fun _ t => va_P D vwCl (cw_X8_toldOfWitness cI h h_world h_world_court h_world_court_places h_world_court_creams g_images g_pad g_hearing g_bowls g_guesses g_world_town g_world_sights g_world_court_his g_world_court_power g_world_court_spite g_world_court_hour f_world_court_places f_world_court_creams f_world_court_present f_world_court_lying) t.heap) A
abbrev v_X8_toldOfWitness : List Cond := .code yX8_toldOfWitness cX8_toldOfWitness 4 (some .int) :: zB
theorem hd_X8_toldOfWitness : yX8_toldOfWitness.cls = RX8 ∧ yX8_toldOfWitness.cls ≠ "java/lang/invoke/MethodHandle" ∧ yX8_toldOfWitness.cls ≠ "java/lang/invoke/VarHandle" ∧ (parseMethodDescriptor yX8_toldOfWitness.desc).map (fun d => d.parameters.length) = some 2 := by decide +kernel
set_option maxHeartbeats 4000000 in
set_option maxRecDepth 100000 in
theorem c_X8_toldOfWitness (l : Launch) (D : va_G) (cI cC cZ : ClassId) (h h_world h_world_court h_world_court_places h_world_court_creams : Nat) (g_images g_pad g_hearing g_bowls g_guesses g_world_town g_world_sights g_world_court_his g_world_court_power g_world_court_spite g_world_court_hour : Value) (f_world_court_places : Nat → Int32) (f_world_court_creams : Nat → Int32) (f_world_court_present : Int32) (f_world_court_lying : Int32) (p1 : Int32) (p2 : Int32) (sz : Nat) (post : Int32 → Prop) (hw : w_X8_toldOfWitness post f_world_court_places f_world_court_creams f_world_court_present f_world_court_lying p1 p2) : Met l yX8_toldOfWitness v_X8_toldOfWitness ({ frames := 2, cells := 0, slots := 0, locals := 41 } : Room) (va_Pc [.ref h, .int p1, .int p2] (zPre D (zT cI cC cZ) sz (cw_X8_toldOfWitness cI h h_world h_world_court h_world_court_places h_world_court_creams g_images g_pad g_hearing g_bowls g_guesses g_world_town g_world_sights g_world_court_his g_world_court_power g_world_court_spite g_world_court_hour f_world_court_places f_world_court_creams f_world_court_present f_world_court_lying))) (q_X8_toldOfWitness D cI h h_world h_world_court h_world_court_places h_world_court_creams g_images g_pad g_hearing g_bowls g_guesses g_world_town g_world_sights g_world_court_his g_world_court_power g_world_court_spite g_world_court_hour post f_world_court_places f_world_court_creams f_world_court_present f_world_court_lying (va_A (cw_X8_toldOfWitness cI h h_world h_world_court h_world_court_places h_world_court_creams g_images g_pad g_hearing g_bowls g_guesses g_world_town g_world_sights g_world_court_his g_world_court_power g_world_court_spite g_world_court_hour f_world_court_places f_world_court_creams f_world_court_present f_world_court_lying) sz)) 0 0 (va_A (cw_X8_toldOfWitness cI h h_world h_world_court h_world_court_places h_world_court_creams g_images g_pad g_hearing g_bowls g_guesses g_world_town g_world_sights g_world_court_his g_world_court_power g_world_court_spite g_world_court_hour f_world_court_places f_world_court_creams f_world_court_present f_world_court_lying) sz) := by
  refine Met.ofW (cc := cX8_toldOfWitness) (maxL := 4) (ret := (some .int)) (by decide) rfl ?_
  intro p e s m args below meth c s₁ B hml hv
  obtain ⟨rfl, hsz, hP, hK, hD0⟩ := hv
  subst hsz
  have hx := B.exec
  have hb := B.bytes
  have hr := B.returns
  have hz : ∀ w ∈ zB, w.before _ s = true := fun w h => atoms_spec (ws := v_X8_toldOfWitness) B.pre w (List.mem_cons_of_mem _ h)
  have hown : s.vm.findClass RX8 = some m.cls := findClass_of_methodNamed B.named
  have hlocks := B.notSynchronized
  have hF : CallFix p m c cX8_toldOfWitness 4 s (([.ref h, .int p1, .int p2] : List Value).toArray) zB RX8 := ⟨hx, hb, hml, hown, hz⟩
  have hD := hD0.self (sz := s.heap.size)
  generalize hAe : va_A (cw_X8_toldOfWitness cI h h_world h_world_court h_world_court_places h_world_court_creams g_images g_pad g_hearing g_bowls g_guesses g_world_town g_world_sights g_world_court_his g_world_court_power g_world_court_spite g_world_court_hour f_world_court_places f_world_court_creams f_world_court_present f_world_court_lying) s.heap.size = A at hD ⊢
  have hA : ∀ q : Nat, s.heap.size ≤ q → A q := fun q h => by rw [← hAe]; exact Or.inr h
  have hS : va_S A s.heap s.heap [] := va_S.rf
  have hP : va_P D vwCl (cw_X8_toldOfWitness cI h h_world h_world_court h_world_court_places h_world_court_creams g_images g_pad g_hearing g_bowls g_guesses g_world_town g_world_sights g_world_court_his g_world_court_power g_world_court_spite g_world_court_hour f_world_court_places f_world_court_creams f_world_court_present f_world_court_lying) s.heap := hP
  have hl := lv_entry ([.ref h, .int p1, .int p2]) (n := 4) (Nat.le_of_ble_eq_true rfl)
  rw [lg_entry_eq]
  generalize (lg_sl ([.ref h, .int p1, .int p2]) ++ List.replicate (4 - (lg_sl ([.ref h, .int p1, .int p2])).length) Slot.unset).toArray = ls at hl ⊢
  have hl : lv_has ls 4 [(0, .ref h), (1, .int p1), (2, .int p2)] := hl
  unfold w_X8_toldOfWitness at hw
  refine lv_aload_n hx hb dX8_toldOfWitness_0 rfl (lv_at hl 0 rfl) ?_
  refine va_get (D := D) (ci := 8) (v := .ref h_world) (C := RX8) (T := TX8) (N := 6) hx hb hz hX_X8 hown hK.1 hP 0 rfl rfl 0 (by decide) (hz _ z1_183) (fun _ h9 => h9) rfl dX8_toldOfWitness_1 ?_
  refine va_getN (D := D) (ci := 7) (v := .ref h_world_court) (C := RX7) (T := TX7) (N := 3) hx hb hz hX_X7 hown hK.1 hP 1 rfl rfl 0 (by decide) (va_Nw.use rfl (hK.2.1 _ (List.mem_of_getElem? (i := 7) rfl))) (fun _ h9 => h9) rfl dX8_toldOfWitness_4 ?_
  refine lv_astore_n (lv' := [(3, .ref h_world_court), (0, .ref h), (1, .int p1), (2, .int p2)]) hx hb dX8_toldOfWitness_7 rfl hl (by decide) rfl (fun ls hl => ?_)
  refine lv_aload_n hx hb dX8_toldOfWitness_8 rfl (lv_at hl 0 rfl) ?_
  refine lv_iload_n hx hb dX8_toldOfWitness_9 rfl (lv_at hl 2 rfl) ?_
  refine z_ri (z_runV (As := [.int p1]) (rest := []) hF (c_X1_has l D cI cC cZ h_world_court (.ref h_world_court_places) (.ref h_world_court_creams) (.int f_world_court_lying) g_world_court_his g_world_court_power g_world_court_spite g_world_court_hour f_world_court_present p1 _ _ hw) (cwV 1 hz (z_gV z2_161 z2_91 z2_92 z1_3 z2_93) rfl rfl rfl hd_X1_has ⟨Nat.le_of_ble_eq_true rfl, Nat.le_of_ble_eq_true rfl⟩) hK hP hD [2] rfl rfl 2 1 rfl rfl rfl rfl hl.1 rfl (Nat.le_of_ble_eq_true rfl) dX8_toldOfWitness_10 ⟨Nat.zero_le _, Nat.zero_le _⟩) hP hD hS hA [2] rfl (fun _ => rfl) (fun _ => cw_X8_toldOfWitness cI h h_world h_world_court h_world_court_places h_world_court_creams g_images g_pad g_hearing g_bowls g_guesses g_world_town g_world_sights g_world_court_his g_world_court_power g_world_court_spite g_world_court_hour f_world_court_places f_world_court_creams f_world_court_present f_world_court_lying) (fun _ => rfl) (fun r10 u10 H locs hw hP hD hS => ?_)
  obtain ⟨hn10, hw⟩ := hw
  try dsimp only at hw
  refine lv_if_ne (tgt := 19) hx hb dX8_toldOfWitness_13 (by decide) (fun c13 => ?_) (fun c13 => ?_)
  · have hw := hw.2 c13
    refine lv_iload_n hx hb dX8_toldOfWitness_19 rfl (lv_at hl 3 rfl) ?_
    by_cases c20_0 : p2 = (0 : Int32)
    · have hw := hw.1 c20_0
      refine lv_tableIn (off := 28) (tgt := 48) hx hb dX8_toldOfWitness_20 (by rw [c20_0]; decide) (by rw [c20_0]; decide) (by rw [c20_0]; rfl) (by decide) ?_
      refine lv_aload_n hx hb dX8_toldOfWitness_48 rfl (lv_at hl 0 rfl) ?_
      refine lv_iload_n hx hb dX8_toldOfWitness_49 rfl (lv_at hl 2 rfl) ?_
      refine z_ri (z_runV (As := [.int p1]) (rest := []) hF (c_X1_placeOf l D cI cC cZ h_world_court h_world_court_places (.ref h_world_court_creams) (.int f_world_court_present) (.int f_world_court_lying) g_world_court_his g_world_court_power g_world_court_spite g_world_court_hour f_world_court_places p1 _ _ hw) (cwV 1 hz (z_gV z3_146 z3_147 z3_148 z1_3 z3_149) rfl rfl rfl hd_X1_placeOf ⟨Nat.le_of_ble_eq_true rfl, Nat.le_of_ble_eq_true rfl⟩) hK hP hD [2, 3] rfl rfl 2 1 rfl rfl rfl rfl hl.1 rfl (Nat.le_of_ble_eq_true rfl) dX8_toldOfWitness_50 ⟨Nat.zero_le _, Nat.zero_le _⟩) hP hD hS hA [2, 3] rfl (fun _ => rfl) (fun _ => cw_X8_toldOfWitness cI h h_world h_world_court h_world_court_places h_world_court_creams g_images g_pad g_hearing g_bowls g_guesses g_world_town g_world_sights g_world_court_his g_world_court_power g_world_court_spite g_world_court_hour f_world_court_places f_world_court_creams f_world_court_present f_world_court_lying) (fun _ => rfl) (fun r50 u50 H locs hw hP hD hS => ?_)
      try dsimp only at hw
      exact z_iret hx hb hr hlocks () hw hP hS dX8_toldOfWitness_53
    have hw := hw.2 c20_0
    have i20_0 : p2.toInt ≠ 0 := fun h => c20_0 (Int32.toInt_inj.mp (h.trans (by decide)))
    by_cases c20_1 : p2 = (1 : Int32)
    · have hw := hw.1 c20_1
      refine lv_tableIn (off := 34) (tgt := 54) hx hb dX8_toldOfWitness_20 (by rw [c20_1]; decide) (by rw [c20_1]; decide) (by rw [c20_1]; rfl) (by decide) ?_
      refine lv_aload_n hx hb dX8_toldOfWitness_54 rfl (lv_at hl 0 rfl) ?_
      refine lv_iload_n hx hb dX8_toldOfWitness_55 rfl (lv_at hl 2 rfl) ?_
      refine z_ri (z_runV (As := [.int p1]) (rest := []) hF (c_X1_isLiar l D cI cC cZ h_world_court (.ref h_world_court_places) (.ref h_world_court_creams) (.int f_world_court_present) g_world_court_his g_world_court_power g_world_court_spite g_world_court_hour f_world_court_lying p1 _ _ hw) (cwV 1 hz (z_gV z2_163 z2_126 z2_127 z1_3 z2_128) rfl rfl rfl hd_X1_isLiar ⟨Nat.le_of_ble_eq_true rfl, Nat.le_of_ble_eq_true rfl⟩) hK hP hD [2] rfl rfl 2 1 rfl rfl rfl rfl hl.1 rfl (Nat.le_of_ble_eq_true rfl) dX8_toldOfWitness_56 ⟨Nat.zero_le _, Nat.zero_le _⟩) hP hD hS hA [2] rfl (fun _ => rfl) (fun _ => cw_X8_toldOfWitness cI h h_world h_world_court h_world_court_places h_world_court_creams g_images g_pad g_hearing g_bowls g_guesses g_world_town g_world_sights g_world_court_his g_world_court_power g_world_court_spite g_world_court_hour f_world_court_places f_world_court_creams f_world_court_present f_world_court_lying) (fun _ => rfl) (fun r56 u56 H locs hw hP hD hS => ?_)
      obtain ⟨hn56, hw⟩ := hw
      try dsimp only at hw
      refine z_ri (z_runS (As := [.int r56]) (rest := []) hF (c_X8_asNumber l D cI cC cZ r56 _ _ hw) (va_cwS 1 hz (z_gS z2_164 z2_165 z1_1 z2_166) rfl rfl rfl hd_X8_asNumber ⟨Nat.le_of_ble_eq_true rfl, Nat.le_of_ble_eq_true rfl⟩) hK hP hD [] rfl rfl rfl hl.1 rfl (Nat.le_of_ble_eq_true rfl) dX8_toldOfWitness_59 ⟨Nat.zero_le _, Nat.zero_le _⟩) hP hD hS hA [] rfl (fun _ => rfl) (fun _ => cw_X8_toldOfWitness cI h h_world h_world_court h_world_court_places h_world_court_creams g_images g_pad g_hearing g_bowls g_guesses g_world_town g_world_sights g_world_court_his g_world_court_power g_world_court_spite g_world_court_hour f_world_court_places f_world_court_creams f_world_court_present f_world_court_lying) (fun _ => rfl) (fun r59 u59 H locs hw hP hD hS => ?_)
      try dsimp only at hw
      exact z_iret hx hb hr hlocks () hw hP hS dX8_toldOfWitness_62
    have hw := hw.2 c20_1
    have i20_1 : p2.toInt ≠ 1 := fun h => c20_1 (Int32.toInt_inj.mp (h.trans (by decide)))
    by_cases c20_2 : p2 = (2 : Int32)
    · have hw := hw.1 c20_2
      refine lv_tableIn (off := 43) (tgt := 63) hx hb dX8_toldOfWitness_20 (by rw [c20_2]; decide) (by rw [c20_2]; decide) (by rw [c20_2]; rfl) (by decide) ?_
      refine lv_aload_n hx hb dX8_toldOfWitness_63 rfl (lv_at hl 0 rfl) ?_
      refine lv_iload_n hx hb dX8_toldOfWitness_64 rfl (lv_at hl 2 rfl) ?_
      refine z_ri (z_runV (As := [.int p1]) (rest := []) hF (c_X1_creamOf l D cI cC cZ h_world_court h_world_court_creams (.ref h_world_court_places) (.int f_world_court_present) (.int f_world_court_lying) g_world_court_his g_world_court_power g_world_court_spite g_world_court_hour f_world_court_creams p1 _ _ hw) (cwV 1 hz (z_gV z2_162 z2_99 z2_100 z1_3 z2_101) rfl rfl rfl hd_X1_creamOf ⟨Nat.le_of_ble_eq_true rfl, Nat.le_of_ble_eq_true rfl⟩) hK hP hD [2, 4] rfl rfl 2 1 rfl rfl rfl rfl hl.1 rfl (Nat.le_of_ble_eq_true rfl) dX8_toldOfWitness_65 ⟨Nat.zero_le _, Nat.zero_le _⟩) hP hD hS hA [2, 4] rfl (fun _ => rfl) (fun _ => cw_X8_toldOfWitness cI h h_world h_world_court h_world_court_places h_world_court_creams g_images g_pad g_hearing g_bowls g_guesses g_world_town g_world_sights g_world_court_his g_world_court_power g_world_court_spite g_world_court_hour f_world_court_places f_world_court_creams f_world_court_present f_world_court_lying) (fun _ => rfl) (fun r65 u65 H locs hw hP hD hS => ?_)
      try dsimp only at hw
      exact z_iret hx hb hr hlocks () hw hP hS dX8_toldOfWitness_68
    have hw := hw.2 c20_2
    have i20_2 : p2.toInt ≠ 2 := fun h => c20_2 (Int32.toInt_inj.mp (h.trans (by decide)))
    refine lv_tableOut (tgt := 69) hx hb dX8_toldOfWitness_20 (by omega) (by decide) ?_
    refine lv_bipush (v := (-2 : Int32)) hx hb dX8_toldOfWitness_69 (by decide) ?_
    exact z_iret hx hb hr hlocks () hw hP hS dX8_toldOfWitness_71
  have hw := hw.1 c13
  refine lv_bipush (v := (-2 : Int32)) hx hb dX8_toldOfWitness_16 (by decide) ?_
  exact z_iret hx hb hr hlocks () hw hP hS dX8_toldOfWitness_18
