-- constructors: what they lay
theorem z_clsI {D : va_G} {T0 : List (ClassId × FieldType)} {s : State} {cA cB : ClassId} (hK : va_K D vwCl T0 s) (i j : Nat) (hi : T0[i]? = some (cA, .int)) (hj : T0[j]? = some (cB, .int)) : cA = cB := by
  have h1 : s.vm.findClass ("[" ++ FieldType.int.toString) = some cA := (hK.2 i _ hi).2
  have h2 : s.vm.findClass ("[" ++ FieldType.int.toString) = some cB := (hK.2 j _ hj).2
  exact Option.some.inj (h1.symm.trans h2)
theorem z_clsC {D : va_G} {T0 : List (ClassId × FieldType)} {s : State} {cA cB : ClassId} (hK : va_K D vwCl T0 s) (i j : Nat) (hi : T0[i]? = some (cA, .char)) (hj : T0[j]? = some (cB, .char)) : cA = cB := by
  have h1 : s.vm.findClass ("[" ++ FieldType.char.toString) = some cA := (hK.2 i _ hi).2
  have h2 : s.vm.findClass ("[" ++ FieldType.char.toString) = some cB := (hK.2 j _ hj).2
  exact Option.some.inj (h1.symm.trans h2)
theorem z_clsZ {D : va_G} {T0 : List (ClassId × FieldType)} {s : State} {cA cB : ClassId} (hK : va_K D vwCl T0 s) (i j : Nat) (hi : T0[i]? = some (cA, .boolean)) (hj : T0[j]? = some (cB, .boolean)) : cA = cB := by
  have h1 : s.vm.findClass ("[" ++ FieldType.boolean.toString) = some cA := (hK.2 i _ hi).2
  have h2 : s.vm.findClass ("[" ++ FieldType.boolean.toString) = some cB := (hK.2 j _ hj).2
  exact Option.some.inj (h1.symm.trans h2)
theorem z_rn {S : Type} {c1 : S → va_W} {D : va_G} {p : Program} {l : Launch} {e : Env} {R : Room} {s : State} {m : MethodId} {args : Array Value} {below : List Frame} {meth : Method} {c : Code} {H H0 : Heap} {locs : List Loc} {cells slots mc ms pc : Nat} {ls : Array Slot} {st0 rest : List Value} {c0 ws : va_W} {a : Array Value} {A : Nat → Prop} {Q : State → Prop} (hr : va_Run p l e R s m args below meth c H locs cells slots mc ms (F0 m pc ls st0) rest (va_Qv (fun _ : S => True) (fun u t => va_P D vwCl (c1 u) t.heap ∧ va_D (va_A c0 H.size) (c1 u)) (va_A c0 H.size) a) (va_A c0 H.size)) (hP : va_P D vwCl ws H) (hD : va_D A ws) (hS : va_S A H0 H locs) (hA : ∀ q, H0.size ≤ q → A q) (isC isR : List Nat) (wr : va_W) (hC : isC.map (fun i => ws[i]?) = c0.map some) (hR : isR.map (fun i => ws[i]?) = wr.map some) (hn : va_nd isR = true) (hdis : ∀ i ∈ isR, i ∉ isC)
    (kk : ∀ (u : S) (H1 : Heap) (locs1 : List Loc), va_P D vwCl (wr ++ c1 u) H1 → va_D A (wr ++ c1 u) → va_S A H0 H1 locs1 → W p l e R s m args below meth c H1 locs1 (cells + mc) (slots + ms) Q (F0 m (pc + 3) ls rest)) : W p l e R s m args below meth c H locs cells slots Q (F0 m pc ls st0) := by
  have hF := va_free (wc := c0) hD hS hA isC hC
  refine va_callv hr hS (fun q _ h => hF q h) hF (fun u t H1 locs1 ht hvm hw hB hz1 hk1 hS1 => ?_)
  obtain ⟨hP1, hD1⟩ := hB
  rw [ht] at hP1
  obtain ⟨h1, h2⟩ := va_join (wr := wr) (w1 := c1 u) hP hD isC isR hC hR hn hdis hk1 hF hP1 hD1
  exact kk u H1 locs1 h1 h2 hS1
abbrev n_X0 (cI : ClassId) (h q1 : Nat) : va_W := [(h, .inr (0, [.ref q1])), (q1, .inl (cI, 100, .inl fun _ => 0))]
abbrev v_X0_init : List Cond := .code yX0_init cX0_init 1 none :: zB
theorem hfX0 : ∀ j, j < 1 → defaultValue (tyX0 j) = vp_V [.null] j := fun j hj => match j, hj with
  | 0, _ => rfl
  | k + 1, h => absurd h (by omega)
set_option maxHeartbeats 4000000 in
set_option maxRecDepth 100000 in
theorem c_X0_init (l : Launch) (D : va_G) (cI cC cZ : ClassId) (h sz : Nat) : Met l yX0_init v_X0_init ({ frames := 1, cells := 1, slots := 100, locals := 20 } : Room) (va_Pc [.ref h] (zPre D (zT cI cC cZ) sz [(h, .inr (0, [.null]))])) (va_Qv (S := Nat) (fun _ => True) (fun u t => va_P D vwCl (n_X0 cI h u) t.heap ∧ va_D (va_A [(h, .inr (0, [.null]))] sz) (n_X0 cI h u)) (va_A [(h, .inr (0, [.null]))] sz)) 1 100 (va_A [(h, .inr (0, [.null]))] sz) := by
  refine Met.ofW (cc := cX0_init) (maxL := 1) (ret := none) (by decide) rfl ?_
  intro p e s m args below meth c s₁ B hml hv
  obtain ⟨rfl, hsz, hP, hK, hD0⟩ := hv
  subst hsz
  have hx := B.exec
  have hb := B.bytes
  have hr := B.returns
  have hz : ∀ w ∈ zB, w.before _ s = true := fun w h => atoms_spec (ws := v_X0_init) B.pre w (List.mem_cons_of_mem _ h)
  have hown : s.vm.findClass RX0 = some m.cls := findClass_of_methodNamed B.named
  have hlocks := B.notSynchronized
  have hin : meth.name = "<init>" := (name_of_methodNamed B.named B.method).1
  have hF : CallFix p m c cX0_init 1 s (([.ref h] : List Value).toArray) zB RX0 := ⟨hx, hb, hml, hown, hz⟩
  have hD := hD0.self (sz := s.heap.size)
  generalize hAe : va_A [(h, .inr (0, [.null]))] s.heap.size = A at hD ⊢
  have hA : ∀ q : Nat, s.heap.size ≤ q → A q := fun q h => by rw [← hAe]; exact Or.inr h
  have hS : va_S A s.heap s.heap [] := va_S.rf
  have hP : va_P D vwCl [(h, .inr (0, [.null]))] s.heap := hP
  have hl := lv_entry ([.ref h]) (n := 1) (Nat.le_of_ble_eq_true rfl)
  rw [lg_entry_eq]
  generalize (lg_sl ([.ref h]) ++ List.replicate (1 - (lg_sl ([.ref h])).length) Slot.unset).toArray = ls at hl ⊢
  have hl : lv_has ls 1 [(0, .ref h)] := hl
  refine lv_aload_n hx hb dX0_init_0 rfl (lv_at hl 0 rfl) ?_
  refine W.objInit hx hb hown (hz _ z1_161) (hz _ z1_21) (hz _ z1_22) rfl (by rw [hml]; exact hl.1) rfl dX0_init_1 (Nat.le_of_ble_eq_true rfl) (Nat.le_of_ble_eq_true rfl) ?_
  refine W.eq (g2 := F0 m 4 ls []) rfl ?_
  refine lv_aload_n hx hb dX0_init_4 rfl (lv_at hl 0 rfl) ?_
  refine lv_bipush (v := (100 : Int32)) hx hb dX0_init_5 (by decide) ?_
  refine va_newa (atype := .int) (ty := .int) (a0 := (100, .inl fun _ => 0)) hx hb (hz _ z1_65) rfl hK.1 hP hD hS hA (fun _ => rfl) (by decide) (by decide +kernel) (Nat.le_of_ble_eq_true rfl) (Nat.le_of_ble_eq_true rfl) (Nat.le_of_ble_eq_true rfl) dX0_init_7 (fun q1 cA H hKa hP hD hS => ?_)
  obtain rfl : cI = cA := z_clsI hKa 0 3 rfl rfl
  have hP : va_P D vwCl [(h, .inr (0, [.null])), (q1, .inl (cI, 100, .inl fun _ => 0))] H := hP
  have hD : va_D A [(h, .inr (0, [.null])), (q1, .inl (cI, 100, .inl fun _ => 0))] := hD
  refine va_putF (D := D) (ci := 0) (v := .ref q1) (ty := tyX0 0) (C := RX0) (T := TX0) (N := 1) hx hb hz hX_X0 tyX0 tyX0_ok nmX0 hown hK.1 hP hD hS 0 rfl rfl 0 (by decide) (hz _ z1_162) (fun _ h9 => h9) rfl hin rfl (tyX0_ok 0 (by decide)) rfl rfl (Nat.le_of_ble_eq_true rfl) dX0_init_9 (fun H locs hP hD hS => ?_)
  have hP : va_P D vwCl [(h, .inr (0, [.ref q1])), (q1, .inl (cI, 100, .inl fun _ => 0))] H := hP
  have hD : va_D A [(h, .inr (0, [.ref q1])), (q1, .inl (cI, 100, .inl fun _ => 0))] := hD
  refine W.widen (k := 1) (n := 100) (Nat.le_of_ble_eq_true rfl) (Nat.le_of_ble_eq_true rfl) ?_
  exact W.vret hx hb hr (fun t ht hW => ⟨⟨q1, rfl, trivial, by rw [ht]; exact hP, hD⟩, hS.F ht⟩) hS.2.2 dX0_init_12 hlocks
abbrev n_X1 (cI : ClassId) (h q1 q2 : Nat) : va_W := [(h, .inr (1, [.ref q1, .ref q2, .int 0, .int 0, .int 0, .int 3, .int 5, .int 0])), (q1, .inl (cI, 8, .inl fun _ => 0)), (q2, .inl (cI, 8, .inl fun _ => 0))]
abbrev v_X1_init : List Cond := .code yX1_init cX1_init 1 none :: zB
theorem hfX1 : ∀ j, j < 8 → defaultValue (tyX1 j) = vp_V [.null, .null, .int 0, .int 0, .int 0, .int 0, .int 0, .int 0] j := fun j hj => match j, hj with
  | 0, _ => rfl
  | 1, _ => rfl
  | 2, _ => rfl
  | 3, _ => rfl
  | 4, _ => rfl
  | 5, _ => rfl
  | 6, _ => rfl
  | 7, _ => rfl
  | k + 8, h => absurd h (by omega)
set_option maxHeartbeats 4000000 in
set_option maxRecDepth 100000 in
theorem c_X1_init (l : Launch) (D : va_G) (cI cC cZ : ClassId) (h sz : Nat) : Met l yX1_init v_X1_init ({ frames := 1, cells := 2, slots := 16, locals := 20 } : Room) (va_Pc [.ref h] (zPre D (zT cI cC cZ) sz [(h, .inr (1, [.null, .null, .int 0, .int 0, .int 0, .int 0, .int 0, .int 0]))])) (va_Qv (S := Nat × Nat) (fun _ => True) (fun u t => va_P D vwCl (n_X1 cI h u.1 u.2) t.heap ∧ va_D (va_A [(h, .inr (1, [.null, .null, .int 0, .int 0, .int 0, .int 0, .int 0, .int 0]))] sz) (n_X1 cI h u.1 u.2)) (va_A [(h, .inr (1, [.null, .null, .int 0, .int 0, .int 0, .int 0, .int 0, .int 0]))] sz)) 2 16 (va_A [(h, .inr (1, [.null, .null, .int 0, .int 0, .int 0, .int 0, .int 0, .int 0]))] sz) := by
  refine Met.ofW (cc := cX1_init) (maxL := 1) (ret := none) (by decide) rfl ?_
  intro p e s m args below meth c s₁ B hml hv
  obtain ⟨rfl, hsz, hP, hK, hD0⟩ := hv
  subst hsz
  have hx := B.exec
  have hb := B.bytes
  have hr := B.returns
  have hz : ∀ w ∈ zB, w.before _ s = true := fun w h => atoms_spec (ws := v_X1_init) B.pre w (List.mem_cons_of_mem _ h)
  have hown : s.vm.findClass RX1 = some m.cls := findClass_of_methodNamed B.named
  have hlocks := B.notSynchronized
  have hin : meth.name = "<init>" := (name_of_methodNamed B.named B.method).1
  have hF : CallFix p m c cX1_init 1 s (([.ref h] : List Value).toArray) zB RX1 := ⟨hx, hb, hml, hown, hz⟩
  have hD := hD0.self (sz := s.heap.size)
  generalize hAe : va_A [(h, .inr (1, [.null, .null, .int 0, .int 0, .int 0, .int 0, .int 0, .int 0]))] s.heap.size = A at hD ⊢
  have hA : ∀ q : Nat, s.heap.size ≤ q → A q := fun q h => by rw [← hAe]; exact Or.inr h
  have hS : va_S A s.heap s.heap [] := va_S.rf
  have hP : va_P D vwCl [(h, .inr (1, [.null, .null, .int 0, .int 0, .int 0, .int 0, .int 0, .int 0]))] s.heap := hP
  have hl := lv_entry ([.ref h]) (n := 1) (Nat.le_of_ble_eq_true rfl)
  rw [lg_entry_eq]
  generalize (lg_sl ([.ref h]) ++ List.replicate (1 - (lg_sl ([.ref h])).length) Slot.unset).toArray = ls at hl ⊢
  have hl : lv_has ls 1 [(0, .ref h)] := hl
  refine lv_aload_n hx hb dX1_init_0 rfl (lv_at hl 0 rfl) ?_
  refine W.objInit hx hb hown (hz _ z1_34) (hz _ z1_21) (hz _ z1_22) rfl (by rw [hml]; exact hl.1) rfl dX1_init_1 (Nat.le_of_ble_eq_true rfl) (Nat.le_of_ble_eq_true rfl) ?_
  refine W.eq (g2 := F0 m 4 ls []) rfl ?_
  refine lv_aload_n hx hb dX1_init_4 rfl (lv_at hl 0 rfl) ?_
  refine lv_bipush (v := (8 : Int32)) hx hb dX1_init_5 (by decide) ?_
  refine va_newa (atype := .int) (ty := .int) (a0 := (8, .inl fun _ => 0)) hx hb (hz _ z1_65) rfl hK.1 hP hD hS hA (fun _ => rfl) (by decide) (by decide +kernel) (Nat.le_of_ble_eq_true rfl) (Nat.le_of_ble_eq_true rfl) (Nat.le_of_ble_eq_true rfl) dX1_init_7 (fun q1 cA H hKa hP hD hS => ?_)
  obtain rfl : cI = cA := z_clsI hKa 0 3 rfl rfl
  have hP : va_P D vwCl [(h, .inr (1, [.null, .null, .int 0, .int 0, .int 0, .int 0, .int 0, .int 0])), (q1, .inl (cI, 8, .inl fun _ => 0))] H := hP
  have hD : va_D A [(h, .inr (1, [.null, .null, .int 0, .int 0, .int 0, .int 0, .int 0, .int 0])), (q1, .inl (cI, 8, .inl fun _ => 0))] := hD
  refine va_putF (D := D) (ci := 1) (v := .ref q1) (ty := tyX1 0) (C := RX1) (T := TX1) (N := 8) hx hb hz hX_X1 tyX1 tyX1_ok nmX1 hown hK.1 hP hD hS 0 rfl rfl 0 (by decide) (hz _ z1_35) (fun _ h9 => h9) rfl hin rfl (tyX1_ok 0 (by decide)) rfl rfl (Nat.le_of_ble_eq_true rfl) dX1_init_9 (fun H locs hP hD hS => ?_)
  have hP : va_P D vwCl [(h, .inr (1, [.ref q1, .null, .int 0, .int 0, .int 0, .int 0, .int 0, .int 0])), (q1, .inl (cI, 8, .inl fun _ => 0))] H := hP
  have hD : va_D A [(h, .inr (1, [.ref q1, .null, .int 0, .int 0, .int 0, .int 0, .int 0, .int 0])), (q1, .inl (cI, 8, .inl fun _ => 0))] := hD
  refine lv_aload_n hx hb dX1_init_12 rfl (lv_at hl 0 rfl) ?_
  refine lv_bipush (v := (8 : Int32)) hx hb dX1_init_13 (by decide) ?_
  refine va_newa (atype := .int) (ty := .int) (a0 := (8, .inl fun _ => 0)) hx hb (hz _ z1_65) rfl hK.1 hP hD hS hA (fun _ => rfl) (by decide) (by decide +kernel) (Nat.le_of_ble_eq_true rfl) (Nat.le_of_ble_eq_true rfl) (Nat.le_of_ble_eq_true rfl) dX1_init_15 (fun q2 cA H hKa hP hD hS => ?_)
  obtain rfl : cI = cA := z_clsI hKa 0 3 rfl rfl
  have hP : va_P D vwCl [(h, .inr (1, [.ref q1, .null, .int 0, .int 0, .int 0, .int 0, .int 0, .int 0])), (q1, .inl (cI, 8, .inl fun _ => 0)), (q2, .inl (cI, 8, .inl fun _ => 0))] H := hP
  have hD : va_D A [(h, .inr (1, [.ref q1, .null, .int 0, .int 0, .int 0, .int 0, .int 0, .int 0])), (q1, .inl (cI, 8, .inl fun _ => 0)), (q2, .inl (cI, 8, .inl fun _ => 0))] := hD
  refine va_putF (D := D) (ci := 1) (v := .ref q2) (ty := tyX1 1) (C := RX1) (T := TX1) (N := 8) hx hb hz hX_X1 tyX1 tyX1_ok nmX1 hown hK.1 hP hD hS 0 rfl rfl 1 (by decide) (hz _ z1_36) (fun _ h9 => h9) rfl hin rfl (tyX1_ok 1 (by decide)) rfl rfl (Nat.le_of_ble_eq_true rfl) dX1_init_17 (fun H locs hP hD hS => ?_)
  have hP : va_P D vwCl [(h, .inr (1, [.ref q1, .ref q2, .int 0, .int 0, .int 0, .int 0, .int 0, .int 0])), (q1, .inl (cI, 8, .inl fun _ => 0)), (q2, .inl (cI, 8, .inl fun _ => 0))] H := hP
  have hD : va_D A [(h, .inr (1, [.ref q1, .ref q2, .int 0, .int 0, .int 0, .int 0, .int 0, .int 0])), (q1, .inl (cI, 8, .inl fun _ => 0)), (q2, .inl (cI, 8, .inl fun _ => 0))] := hD
  refine lv_aload_n hx hb dX1_init_20 rfl (lv_at hl 0 rfl) ?_
  refine lv_iconst (v := (3 : Int32)) hx hb dX1_init_21 (by decide) ?_
  refine va_put (D := D) (ci := 1) (v := .int 3) (ty := tyX1 5) (C := RX1) (T := TX1) (N := 8) hx hb hz hX_X1 tyX1 tyX1_ok nmX1 hown hK.1 hP hD hS 0 rfl rfl 5 (by decide) (hz _ z1_42) (fun _ h9 => h9) rfl (tyX1_ok 5 (by decide)) rfl rfl (Nat.le_of_ble_eq_true rfl) dX1_init_22 (fun H locs hP hD hS => ?_)
  have hP : va_P D vwCl [(h, .inr (1, [.ref q1, .ref q2, .int 0, .int 0, .int 0, .int 3, .int 0, .int 0])), (q1, .inl (cI, 8, .inl fun _ => 0)), (q2, .inl (cI, 8, .inl fun _ => 0))] H := hP
  have hD : va_D A [(h, .inr (1, [.ref q1, .ref q2, .int 0, .int 0, .int 0, .int 3, .int 0, .int 0])), (q1, .inl (cI, 8, .inl fun _ => 0)), (q2, .inl (cI, 8, .inl fun _ => 0))] := hD
  refine lv_aload_n hx hb dX1_init_25 rfl (lv_at hl 0 rfl) ?_
  refine lv_iconst (v := (5 : Int32)) hx hb dX1_init_26 (by decide) ?_
  refine va_put (D := D) (ci := 1) (v := .int 5) (ty := tyX1 6) (C := RX1) (T := TX1) (N := 8) hx hb hz hX_X1 tyX1 tyX1_ok nmX1 hown hK.1 hP hD hS 0 rfl rfl 6 (by decide) (hz _ z1_44) (fun _ h9 => h9) rfl (tyX1_ok 6 (by decide)) rfl rfl (Nat.le_of_ble_eq_true rfl) dX1_init_27 (fun H locs hP hD hS => ?_)
  have hP : va_P D vwCl [(h, .inr (1, [.ref q1, .ref q2, .int 0, .int 0, .int 0, .int 3, .int 5, .int 0])), (q1, .inl (cI, 8, .inl fun _ => 0)), (q2, .inl (cI, 8, .inl fun _ => 0))] H := hP
  have hD : va_D A [(h, .inr (1, [.ref q1, .ref q2, .int 0, .int 0, .int 0, .int 3, .int 5, .int 0])), (q1, .inl (cI, 8, .inl fun _ => 0)), (q2, .inl (cI, 8, .inl fun _ => 0))] := hD
  refine W.widen (k := 2) (n := 16) (Nat.le_of_ble_eq_true rfl) (Nat.le_of_ble_eq_true rfl) ?_
  exact W.vret hx hb hr (fun t ht hW => ⟨⟨⟨q1, q2⟩, rfl, trivial, by rw [ht]; exact hP, hD⟩, hS.F ht⟩) hS.2.2 dX1_init_30 hlocks
abbrev n_X2 (cI : ClassId) (h q1 q2 : Nat) : va_W := [(h, .inr (2, [.ref q1, .ref q2, .int 0])), (q1, .inl (cI, 100, .inl fun _ => 0)), (q2, .inl (cI, 46, .inl fun _ => 0))]
abbrev v_X2_init : List Cond := .code yX2_init cX2_init 1 none :: zB
theorem hfX2 : ∀ j, j < 3 → defaultValue (tyX2 j) = vp_V [.null, .null, .int 0] j := fun j hj => match j, hj with
  | 0, _ => rfl
  | 1, _ => rfl
  | 2, _ => rfl
  | k + 3, h => absurd h (by omega)
set_option maxHeartbeats 4000000 in
set_option maxRecDepth 100000 in
theorem c_X2_init (l : Launch) (D : va_G) (cI cC cZ : ClassId) (h sz : Nat) : Met l yX2_init v_X2_init ({ frames := 1, cells := 2, slots := 146, locals := 20 } : Room) (va_Pc [.ref h] (zPre D (zT cI cC cZ) sz [(h, .inr (2, [.null, .null, .int 0]))])) (va_Qv (S := Nat × Nat) (fun _ => True) (fun u t => va_P D vwCl (n_X2 cI h u.1 u.2) t.heap ∧ va_D (va_A [(h, .inr (2, [.null, .null, .int 0]))] sz) (n_X2 cI h u.1 u.2)) (va_A [(h, .inr (2, [.null, .null, .int 0]))] sz)) 2 146 (va_A [(h, .inr (2, [.null, .null, .int 0]))] sz) := by
  refine Met.ofW (cc := cX2_init) (maxL := 1) (ret := none) (by decide) rfl ?_
  intro p e s m args below meth c s₁ B hml hv
  obtain ⟨rfl, hsz, hP, hK, hD0⟩ := hv
  subst hsz
  have hx := B.exec
  have hb := B.bytes
  have hr := B.returns
  have hz : ∀ w ∈ zB, w.before _ s = true := fun w h => atoms_spec (ws := v_X2_init) B.pre w (List.mem_cons_of_mem _ h)
  have hown : s.vm.findClass RX2 = some m.cls := findClass_of_methodNamed B.named
  have hlocks := B.notSynchronized
  have hin : meth.name = "<init>" := (name_of_methodNamed B.named B.method).1
  have hF : CallFix p m c cX2_init 1 s (([.ref h] : List Value).toArray) zB RX2 := ⟨hx, hb, hml, hown, hz⟩
  have hD := hD0.self (sz := s.heap.size)
  generalize hAe : va_A [(h, .inr (2, [.null, .null, .int 0]))] s.heap.size = A at hD ⊢
  have hA : ∀ q : Nat, s.heap.size ≤ q → A q := fun q h => by rw [← hAe]; exact Or.inr h
  have hS : va_S A s.heap s.heap [] := va_S.rf
  have hP : va_P D vwCl [(h, .inr (2, [.null, .null, .int 0]))] s.heap := hP
  have hl := lv_entry ([.ref h]) (n := 1) (Nat.le_of_ble_eq_true rfl)
  rw [lg_entry_eq]
  generalize (lg_sl ([.ref h]) ++ List.replicate (1 - (lg_sl ([.ref h])).length) Slot.unset).toArray = ls at hl ⊢
  have hl : lv_has ls 1 [(0, .ref h)] := hl
  refine lv_aload_n hx hb dX2_init_0 rfl (lv_at hl 0 rfl) ?_
  refine W.objInit hx hb hown (hz _ z1_171) (hz _ z1_21) (hz _ z1_22) rfl (by rw [hml]; exact hl.1) rfl dX2_init_1 (Nat.le_of_ble_eq_true rfl) (Nat.le_of_ble_eq_true rfl) ?_
  refine W.eq (g2 := F0 m 4 ls []) rfl ?_
  refine lv_aload_n hx hb dX2_init_4 rfl (lv_at hl 0 rfl) ?_
  refine lv_bipush (v := (100 : Int32)) hx hb dX2_init_5 (by decide) ?_
  refine va_newa (atype := .int) (ty := .int) (a0 := (100, .inl fun _ => 0)) hx hb (hz _ z1_65) rfl hK.1 hP hD hS hA (fun _ => rfl) (by decide) (by decide +kernel) (Nat.le_of_ble_eq_true rfl) (Nat.le_of_ble_eq_true rfl) (Nat.le_of_ble_eq_true rfl) dX2_init_7 (fun q1 cA H hKa hP hD hS => ?_)
  obtain rfl : cI = cA := z_clsI hKa 0 3 rfl rfl
  have hP : va_P D vwCl [(h, .inr (2, [.null, .null, .int 0])), (q1, .inl (cI, 100, .inl fun _ => 0))] H := hP
  have hD : va_D A [(h, .inr (2, [.null, .null, .int 0])), (q1, .inl (cI, 100, .inl fun _ => 0))] := hD
  refine va_putF (D := D) (ci := 2) (v := .ref q1) (ty := tyX2 0) (C := RX2) (T := TX2) (N := 3) hx hb hz hX_X2 tyX2 tyX2_ok nmX2 hown hK.1 hP hD hS 0 rfl rfl 0 (by decide) (hz _ z1_172) (fun _ h9 => h9) rfl hin rfl (tyX2_ok 0 (by decide)) rfl rfl (Nat.le_of_ble_eq_true rfl) dX2_init_9 (fun H locs hP hD hS => ?_)
  have hP : va_P D vwCl [(h, .inr (2, [.ref q1, .null, .int 0])), (q1, .inl (cI, 100, .inl fun _ => 0))] H := hP
  have hD : va_D A [(h, .inr (2, [.ref q1, .null, .int 0])), (q1, .inl (cI, 100, .inl fun _ => 0))] := hD
  refine lv_aload_n hx hb dX2_init_12 rfl (lv_at hl 0 rfl) ?_
  refine lv_bipush (v := (46 : Int32)) hx hb dX2_init_13 (by decide) ?_
  refine va_newa (atype := .int) (ty := .int) (a0 := (46, .inl fun _ => 0)) hx hb (hz _ z1_65) rfl hK.1 hP hD hS hA (fun _ => rfl) (by decide) (by decide +kernel) (Nat.le_of_ble_eq_true rfl) (Nat.le_of_ble_eq_true rfl) (Nat.le_of_ble_eq_true rfl) dX2_init_15 (fun q2 cA H hKa hP hD hS => ?_)
  obtain rfl : cI = cA := z_clsI hKa 0 3 rfl rfl
  have hP : va_P D vwCl [(h, .inr (2, [.ref q1, .null, .int 0])), (q1, .inl (cI, 100, .inl fun _ => 0)), (q2, .inl (cI, 46, .inl fun _ => 0))] H := hP
  have hD : va_D A [(h, .inr (2, [.ref q1, .null, .int 0])), (q1, .inl (cI, 100, .inl fun _ => 0)), (q2, .inl (cI, 46, .inl fun _ => 0))] := hD
  refine va_putF (D := D) (ci := 2) (v := .ref q2) (ty := tyX2 1) (C := RX2) (T := TX2) (N := 3) hx hb hz hX_X2 tyX2 tyX2_ok nmX2 hown hK.1 hP hD hS 0 rfl rfl 1 (by decide) (hz _ z1_173) (fun _ h9 => h9) rfl hin rfl (tyX2_ok 1 (by decide)) rfl rfl (Nat.le_of_ble_eq_true rfl) dX2_init_17 (fun H locs hP hD hS => ?_)
  have hP : va_P D vwCl [(h, .inr (2, [.ref q1, .ref q2, .int 0])), (q1, .inl (cI, 100, .inl fun _ => 0)), (q2, .inl (cI, 46, .inl fun _ => 0))] H := hP
  have hD : va_D A [(h, .inr (2, [.ref q1, .ref q2, .int 0])), (q1, .inl (cI, 100, .inl fun _ => 0)), (q2, .inl (cI, 46, .inl fun _ => 0))] := hD
  refine W.widen (k := 2) (n := 146) (Nat.le_of_ble_eq_true rfl) (Nat.le_of_ble_eq_true rfl) ?_
  exact W.vret hx hb hr (fun t ht hW => ⟨⟨⟨q1, q2⟩, rfl, trivial, by rw [ht]; exact hP, hD⟩, hS.F ht⟩) hS.2.2 dX2_init_20 hlocks
abbrev n_X4 (cC : ClassId) (h q1 : Nat) : va_W := [(h, .inr (4, [.ref q1, .int 0])), (q1, .inl (cC, 60, .inl fun _ => 0))]
abbrev v_X4_init : List Cond := .code yX4_init cX4_init 1 none :: zB
theorem hfX4 : ∀ j, j < 2 → defaultValue (tyX4 j) = vp_V [.null, .int 0] j := fun j hj => match j, hj with
  | 0, _ => rfl
  | 1, _ => rfl
  | k + 2, h => absurd h (by omega)
set_option maxHeartbeats 4000000 in
set_option maxRecDepth 100000 in
theorem c_X4_init (l : Launch) (D : va_G) (cI cC cZ : ClassId) (h sz : Nat) : Met l yX4_init v_X4_init ({ frames := 1, cells := 1, slots := 60, locals := 20 } : Room) (va_Pc [.ref h] (zPre D (zT cI cC cZ) sz [(h, .inr (4, [.null, .int 0]))])) (va_Qv (S := Nat) (fun _ => True) (fun u t => va_P D vwCl (n_X4 cC h u) t.heap ∧ va_D (va_A [(h, .inr (4, [.null, .int 0]))] sz) (n_X4 cC h u)) (va_A [(h, .inr (4, [.null, .int 0]))] sz)) 1 60 (va_A [(h, .inr (4, [.null, .int 0]))] sz) := by
  refine Met.ofW (cc := cX4_init) (maxL := 1) (ret := none) (by decide) rfl ?_
  intro p e s m args below meth c s₁ B hml hv
  obtain ⟨rfl, hsz, hP, hK, hD0⟩ := hv
  subst hsz
  have hx := B.exec
  have hb := B.bytes
  have hr := B.returns
  have hz : ∀ w ∈ zB, w.before _ s = true := fun w h => atoms_spec (ws := v_X4_init) B.pre w (List.mem_cons_of_mem _ h)
  have hown : s.vm.findClass RX4 = some m.cls := findClass_of_methodNamed B.named
  have hlocks := B.notSynchronized
  have hin : meth.name = "<init>" := (name_of_methodNamed B.named B.method).1
  have hF : CallFix p m c cX4_init 1 s (([.ref h] : List Value).toArray) zB RX4 := ⟨hx, hb, hml, hown, hz⟩
  have hD := hD0.self (sz := s.heap.size)
  generalize hAe : va_A [(h, .inr (4, [.null, .int 0]))] s.heap.size = A at hD ⊢
  have hA : ∀ q : Nat, s.heap.size ≤ q → A q := fun q h => by rw [← hAe]; exact Or.inr h
  have hS : va_S A s.heap s.heap [] := va_S.rf
  have hP : va_P D vwCl [(h, .inr (4, [.null, .int 0]))] s.heap := hP
  have hl := lv_entry ([.ref h]) (n := 1) (Nat.le_of_ble_eq_true rfl)
  rw [lg_entry_eq]
  generalize (lg_sl ([.ref h]) ++ List.replicate (1 - (lg_sl ([.ref h])).length) Slot.unset).toArray = ls at hl ⊢
  have hl : lv_has ls 1 [(0, .ref h)] := hl
  refine lv_aload_n hx hb dX4_init_0 rfl (lv_at hl 0 rfl) ?_
  refine W.objInit hx hb hown (hz _ z1_116) (hz _ z1_21) (hz _ z1_22) rfl (by rw [hml]; exact hl.1) rfl dX4_init_1 (Nat.le_of_ble_eq_true rfl) (Nat.le_of_ble_eq_true rfl) ?_
  refine W.eq (g2 := F0 m 4 ls []) rfl ?_
  refine lv_aload_n hx hb dX4_init_4 rfl (lv_at hl 0 rfl) ?_
  refine lv_bipush (v := (60 : Int32)) hx hb dX4_init_5 (by decide) ?_
  refine va_newa (atype := .char) (ty := .char) (a0 := (60, .inl fun _ => 0)) hx hb (hz _ z1_126) rfl hK.1 hP hD hS hA (fun _ => rfl) (by decide) (by decide +kernel) (Nat.le_of_ble_eq_true rfl) (Nat.le_of_ble_eq_true rfl) (Nat.le_of_ble_eq_true rfl) dX4_init_7 (fun q1 cA H hKa hP hD hS => ?_)
  obtain rfl : cC = cA := z_clsC hKa 1 3 rfl rfl
  have hP : va_P D vwCl [(h, .inr (4, [.null, .int 0])), (q1, .inl (cC, 60, .inl fun _ => 0))] H := hP
  have hD : va_D A [(h, .inr (4, [.null, .int 0])), (q1, .inl (cC, 60, .inl fun _ => 0))] := hD
  refine va_putF (D := D) (ci := 4) (v := .ref q1) (ty := tyX4 0) (C := RX4) (T := TX4) (N := 2) hx hb hz hX_X4 tyX4 tyX4_ok nmX4 hown hK.1 hP hD hS 0 rfl rfl 0 (by decide) (hz _ z1_117) (fun _ h9 => h9) rfl hin rfl (tyX4_ok 0 (by decide)) rfl rfl (Nat.le_of_ble_eq_true rfl) dX4_init_9 (fun H locs hP hD hS => ?_)
  have hP : va_P D vwCl [(h, .inr (4, [.ref q1, .int 0])), (q1, .inl (cC, 60, .inl fun _ => 0))] H := hP
  have hD : va_D A [(h, .inr (4, [.ref q1, .int 0])), (q1, .inl (cC, 60, .inl fun _ => 0))] := hD
  refine W.widen (k := 1) (n := 60) (Nat.le_of_ble_eq_true rfl) (Nat.le_of_ble_eq_true rfl) ?_
  exact W.vret hx hb hr (fun t ht hW => ⟨⟨q1, rfl, trivial, by rw [ht]; exact hP, hD⟩, hS.F ht⟩) hS.2.2 dX4_init_12 hlocks
abbrev n_X5 (cI : ClassId) (h q1 q2 : Nat) : va_W := [(h, .inr (5, [.ref q1, .ref q2, .int 0])), (q1, .inl (cI, 8, .inl fun _ => 0)), (q2, .inl (cI, 8, .inl fun _ => 0))]
abbrev v_X5_init : List Cond := .code yX5_init cX5_init 1 none :: zB
theorem hfX5 : ∀ j, j < 3 → defaultValue (tyX5 j) = vp_V [.null, .null, .int 0] j := fun j hj => match j, hj with
  | 0, _ => rfl
  | 1, _ => rfl
  | 2, _ => rfl
  | k + 3, h => absurd h (by omega)
set_option maxHeartbeats 4000000 in
set_option maxRecDepth 100000 in
theorem c_X5_init (l : Launch) (D : va_G) (cI cC cZ : ClassId) (h sz : Nat) : Met l yX5_init v_X5_init ({ frames := 1, cells := 2, slots := 16, locals := 20 } : Room) (va_Pc [.ref h] (zPre D (zT cI cC cZ) sz [(h, .inr (5, [.null, .null, .int 0]))])) (va_Qv (S := Nat × Nat) (fun _ => True) (fun u t => va_P D vwCl (n_X5 cI h u.1 u.2) t.heap ∧ va_D (va_A [(h, .inr (5, [.null, .null, .int 0]))] sz) (n_X5 cI h u.1 u.2)) (va_A [(h, .inr (5, [.null, .null, .int 0]))] sz)) 2 16 (va_A [(h, .inr (5, [.null, .null, .int 0]))] sz) := by
  refine Met.ofW (cc := cX5_init) (maxL := 1) (ret := none) (by decide) rfl ?_
  intro p e s m args below meth c s₁ B hml hv
  obtain ⟨rfl, hsz, hP, hK, hD0⟩ := hv
  subst hsz
  have hx := B.exec
  have hb := B.bytes
  have hr := B.returns
  have hz : ∀ w ∈ zB, w.before _ s = true := fun w h => atoms_spec (ws := v_X5_init) B.pre w (List.mem_cons_of_mem _ h)
  have hown : s.vm.findClass RX5 = some m.cls := findClass_of_methodNamed B.named
  have hlocks := B.notSynchronized
  have hin : meth.name = "<init>" := (name_of_methodNamed B.named B.method).1
  have hF : CallFix p m c cX5_init 1 s (([.ref h] : List Value).toArray) zB RX5 := ⟨hx, hb, hml, hown, hz⟩
  have hD := hD0.self (sz := s.heap.size)
  generalize hAe : va_A [(h, .inr (5, [.null, .null, .int 0]))] s.heap.size = A at hD ⊢
  have hA : ∀ q : Nat, s.heap.size ≤ q → A q := fun q h => by rw [← hAe]; exact Or.inr h
  have hS : va_S A s.heap s.heap [] := va_S.rf
  have hP : va_P D vwCl [(h, .inr (5, [.null, .null, .int 0]))] s.heap := hP
  have hl := lv_entry ([.ref h]) (n := 1) (Nat.le_of_ble_eq_true rfl)
  rw [lg_entry_eq]
  generalize (lg_sl ([.ref h]) ++ List.replicate (1 - (lg_sl ([.ref h])).length) Slot.unset).toArray = ls at hl ⊢
  have hl : lv_has ls 1 [(0, .ref h)] := hl
  refine lv_aload_n hx hb dX5_init_0 rfl (lv_at hl 0 rfl) ?_
  refine W.objInit hx hb hown (hz _ z1_85) (hz _ z1_21) (hz _ z1_22) rfl (by rw [hml]; exact hl.1) rfl dX5_init_1 (Nat.le_of_ble_eq_true rfl) (Nat.le_of_ble_eq_true rfl) ?_
  refine W.eq (g2 := F0 m 4 ls []) rfl ?_
  refine lv_aload_n hx hb dX5_init_4 rfl (lv_at hl 0 rfl) ?_
  refine lv_bipush (v := (8 : Int32)) hx hb dX5_init_5 (by decide) ?_
  refine va_newa (atype := .int) (ty := .int) (a0 := (8, .inl fun _ => 0)) hx hb (hz _ z1_65) rfl hK.1 hP hD hS hA (fun _ => rfl) (by decide) (by decide +kernel) (Nat.le_of_ble_eq_true rfl) (Nat.le_of_ble_eq_true rfl) (Nat.le_of_ble_eq_true rfl) dX5_init_7 (fun q1 cA H hKa hP hD hS => ?_)
  obtain rfl : cI = cA := z_clsI hKa 0 3 rfl rfl
  have hP : va_P D vwCl [(h, .inr (5, [.null, .null, .int 0])), (q1, .inl (cI, 8, .inl fun _ => 0))] H := hP
  have hD : va_D A [(h, .inr (5, [.null, .null, .int 0])), (q1, .inl (cI, 8, .inl fun _ => 0))] := hD
  refine va_putF (D := D) (ci := 5) (v := .ref q1) (ty := tyX5 0) (C := RX5) (T := TX5) (N := 3) hx hb hz hX_X5 tyX5 tyX5_ok nmX5 hown hK.1 hP hD hS 0 rfl rfl 0 (by decide) (hz _ z1_86) (fun _ h9 => h9) rfl hin rfl (tyX5_ok 0 (by decide)) rfl rfl (Nat.le_of_ble_eq_true rfl) dX5_init_9 (fun H locs hP hD hS => ?_)
  have hP : va_P D vwCl [(h, .inr (5, [.ref q1, .null, .int 0])), (q1, .inl (cI, 8, .inl fun _ => 0))] H := hP
  have hD : va_D A [(h, .inr (5, [.ref q1, .null, .int 0])), (q1, .inl (cI, 8, .inl fun _ => 0))] := hD
  refine lv_aload_n hx hb dX5_init_12 rfl (lv_at hl 0 rfl) ?_
  refine lv_bipush (v := (8 : Int32)) hx hb dX5_init_13 (by decide) ?_
  refine va_newa (atype := .int) (ty := .int) (a0 := (8, .inl fun _ => 0)) hx hb (hz _ z1_65) rfl hK.1 hP hD hS hA (fun _ => rfl) (by decide) (by decide +kernel) (Nat.le_of_ble_eq_true rfl) (Nat.le_of_ble_eq_true rfl) (Nat.le_of_ble_eq_true rfl) dX5_init_15 (fun q2 cA H hKa hP hD hS => ?_)
  obtain rfl : cI = cA := z_clsI hKa 0 3 rfl rfl
  have hP : va_P D vwCl [(h, .inr (5, [.ref q1, .null, .int 0])), (q1, .inl (cI, 8, .inl fun _ => 0)), (q2, .inl (cI, 8, .inl fun _ => 0))] H := hP
  have hD : va_D A [(h, .inr (5, [.ref q1, .null, .int 0])), (q1, .inl (cI, 8, .inl fun _ => 0)), (q2, .inl (cI, 8, .inl fun _ => 0))] := hD
  refine va_putF (D := D) (ci := 5) (v := .ref q2) (ty := tyX5 1) (C := RX5) (T := TX5) (N := 3) hx hb hz hX_X5 tyX5 tyX5_ok nmX5 hown hK.1 hP hD hS 0 rfl rfl 1 (by decide) (hz _ z1_87) (fun _ h9 => h9) rfl hin rfl (tyX5_ok 1 (by decide)) rfl rfl (Nat.le_of_ble_eq_true rfl) dX5_init_17 (fun H locs hP hD hS => ?_)
  have hP : va_P D vwCl [(h, .inr (5, [.ref q1, .ref q2, .int 0])), (q1, .inl (cI, 8, .inl fun _ => 0)), (q2, .inl (cI, 8, .inl fun _ => 0))] H := hP
  have hD : va_D A [(h, .inr (5, [.ref q1, .ref q2, .int 0])), (q1, .inl (cI, 8, .inl fun _ => 0)), (q2, .inl (cI, 8, .inl fun _ => 0))] := hD
  refine W.widen (k := 2) (n := 16) (Nat.le_of_ble_eq_true rfl) (Nat.le_of_ble_eq_true rfl) ?_
  exact W.vret hx hb hr (fun t ht hW => ⟨⟨⟨q1, q2⟩, rfl, trivial, by rw [ht]; exact hP, hD⟩, hS.F ht⟩) hS.2.2 dX5_init_20 hlocks
abbrev n_X6 (cI : ClassId) (h q1 : Nat) : va_W := [(h, .inr (6, [.ref q1, .int 0])), (q1, .inl (cI, 12, .inl fun _ => 0))]
abbrev v_X6_init : List Cond := .code yX6_init cX6_init 1 none :: zB
theorem hfX6 : ∀ j, j < 2 → defaultValue (tyX6 j) = vp_V [.null, .int 0] j := fun j hj => match j, hj with
  | 0, _ => rfl
  | 1, _ => rfl
  | k + 2, h => absurd h (by omega)
set_option maxHeartbeats 4000000 in
set_option maxRecDepth 100000 in
theorem c_X6_init (l : Launch) (D : va_G) (cI cC cZ : ClassId) (h sz : Nat) : Met l yX6_init v_X6_init ({ frames := 1, cells := 1, slots := 12, locals := 20 } : Room) (va_Pc [.ref h] (zPre D (zT cI cC cZ) sz [(h, .inr (6, [.null, .int 0]))])) (va_Qv (S := Nat) (fun _ => True) (fun u t => va_P D vwCl (n_X6 cI h u) t.heap ∧ va_D (va_A [(h, .inr (6, [.null, .int 0]))] sz) (n_X6 cI h u)) (va_A [(h, .inr (6, [.null, .int 0]))] sz)) 1 12 (va_A [(h, .inr (6, [.null, .int 0]))] sz) := by
  refine Met.ofW (cc := cX6_init) (maxL := 1) (ret := none) (by decide) rfl ?_
  intro p e s m args below meth c s₁ B hml hv
  obtain ⟨rfl, hsz, hP, hK, hD0⟩ := hv
  subst hsz
  have hx := B.exec
  have hb := B.bytes
  have hr := B.returns
  have hz : ∀ w ∈ zB, w.before _ s = true := fun w h => atoms_spec (ws := v_X6_init) B.pre w (List.mem_cons_of_mem _ h)
  have hown : s.vm.findClass RX6 = some m.cls := findClass_of_methodNamed B.named
  have hlocks := B.notSynchronized
  have hin : meth.name = "<init>" := (name_of_methodNamed B.named B.method).1
  have hF : CallFix p m c cX6_init 1 s (([.ref h] : List Value).toArray) zB RX6 := ⟨hx, hb, hml, hown, hz⟩
  have hD := hD0.self (sz := s.heap.size)
  generalize hAe : va_A [(h, .inr (6, [.null, .int 0]))] s.heap.size = A at hD ⊢
  have hA : ∀ q : Nat, s.heap.size ≤ q → A q := fun q h => by rw [← hAe]; exact Or.inr h
  have hS : va_S A s.heap s.heap [] := va_S.rf
  have hP : va_P D vwCl [(h, .inr (6, [.null, .int 0]))] s.heap := hP
  have hl := lv_entry ([.ref h]) (n := 1) (Nat.le_of_ble_eq_true rfl)
  rw [lg_entry_eq]
  generalize (lg_sl ([.ref h]) ++ List.replicate (1 - (lg_sl ([.ref h])).length) Slot.unset).toArray = ls at hl ⊢
  have hl : lv_has ls 1 [(0, .ref h)] := hl
  refine lv_aload_n hx hb dX6_init_0 rfl (lv_at hl 0 rfl) ?_
  refine W.objInit hx hb hown (hz _ z1_71) (hz _ z1_21) (hz _ z1_22) rfl (by rw [hml]; exact hl.1) rfl dX6_init_1 (Nat.le_of_ble_eq_true rfl) (Nat.le_of_ble_eq_true rfl) ?_
  refine W.eq (g2 := F0 m 4 ls []) rfl ?_
  refine lv_aload_n hx hb dX6_init_4 rfl (lv_at hl 0 rfl) ?_
  refine lv_bipush (v := (12 : Int32)) hx hb dX6_init_5 (by decide) ?_
  refine va_newa (atype := .int) (ty := .int) (a0 := (12, .inl fun _ => 0)) hx hb (hz _ z1_65) rfl hK.1 hP hD hS hA (fun _ => rfl) (by decide) (by decide +kernel) (Nat.le_of_ble_eq_true rfl) (Nat.le_of_ble_eq_true rfl) (Nat.le_of_ble_eq_true rfl) dX6_init_7 (fun q1 cA H hKa hP hD hS => ?_)
  obtain rfl : cI = cA := z_clsI hKa 0 3 rfl rfl
  have hP : va_P D vwCl [(h, .inr (6, [.null, .int 0])), (q1, .inl (cI, 12, .inl fun _ => 0))] H := hP
  have hD : va_D A [(h, .inr (6, [.null, .int 0])), (q1, .inl (cI, 12, .inl fun _ => 0))] := hD
  refine va_putF (D := D) (ci := 6) (v := .ref q1) (ty := tyX6 0) (C := RX6) (T := TX6) (N := 2) hx hb hz hX_X6 tyX6 tyX6_ok nmX6 hown hK.1 hP hD hS 0 rfl rfl 0 (by decide) (hz _ z1_72) (fun _ h9 => h9) rfl hin rfl (tyX6_ok 0 (by decide)) rfl rfl (Nat.le_of_ble_eq_true rfl) dX6_init_9 (fun H locs hP hD hS => ?_)
  have hP : va_P D vwCl [(h, .inr (6, [.ref q1, .int 0])), (q1, .inl (cI, 12, .inl fun _ => 0))] H := hP
  have hD : va_D A [(h, .inr (6, [.ref q1, .int 0])), (q1, .inl (cI, 12, .inl fun _ => 0))] := hD
  refine W.widen (k := 1) (n := 12) (Nat.le_of_ble_eq_true rfl) (Nat.le_of_ble_eq_true rfl) ?_
  exact W.vret hx hb hr (fun t ht hW => ⟨⟨q1, rfl, trivial, by rw [ht]; exact hP, hD⟩, hS.F ht⟩) hS.2.2 dX6_init_12 hlocks
abbrev n_X3 (cI : ClassId) (h q1 q2 q3 : Nat) : va_W := [(h, .inr (3, [.ref q1, .int 0, .int 0, .int 0, .int 0])), (q1, .inr (1, [.ref q2, .ref q3, .int 0, .int 0, .int 0, .int 3, .int 5, .int 0])), (q2, .inl (cI, 8, .inl fun _ => 0)), (q3, .inl (cI, 8, .inl fun _ => 0))]
abbrev v_X3_init : List Cond := .code yX3_init cX3_init 1 none :: zB
theorem hfX3 : ∀ j, j < 5 → defaultValue (tyX3 j) = vp_V [.null, .int 0, .int 0, .int 0, .int 0] j := fun j hj => match j, hj with
  | 0, _ => rfl
  | 1, _ => rfl
  | 2, _ => rfl
  | 3, _ => rfl
  | 4, _ => rfl
  | k + 5, h => absurd h (by omega)
set_option maxHeartbeats 4000000 in
set_option maxRecDepth 100000 in
theorem c_X3_init (l : Launch) (D : va_G) (cI cC cZ : ClassId) (h sz : Nat) : Met l yX3_init v_X3_init ({ frames := 2, cells := 3, slots := 24, locals := 40 } : Room) (va_Pc [.ref h] (zPre D (zT cI cC cZ) sz [(h, .inr (3, [.null, .int 0, .int 0, .int 0, .int 0]))])) (va_Qv (S := Nat × Nat × Nat) (fun _ => True) (fun u t => va_P D vwCl (n_X3 cI h u.1 u.2.1 u.2.2) t.heap ∧ va_D (va_A [(h, .inr (3, [.null, .int 0, .int 0, .int 0, .int 0]))] sz) (n_X3 cI h u.1 u.2.1 u.2.2)) (va_A [(h, .inr (3, [.null, .int 0, .int 0, .int 0, .int 0]))] sz)) 3 24 (va_A [(h, .inr (3, [.null, .int 0, .int 0, .int 0, .int 0]))] sz) := by
  refine Met.ofW (cc := cX3_init) (maxL := 1) (ret := none) (by decide) rfl ?_
  intro p e s m args below meth c s₁ B hml hv
  obtain ⟨rfl, hsz, hP, hK, hD0⟩ := hv
  subst hsz
  have hx := B.exec
  have hb := B.bytes
  have hr := B.returns
  have hz : ∀ w ∈ zB, w.before _ s = true := fun w h => atoms_spec (ws := v_X3_init) B.pre w (List.mem_cons_of_mem _ h)
  have hown : s.vm.findClass RX3 = some m.cls := findClass_of_methodNamed B.named
  have hlocks := B.notSynchronized
  have hin : meth.name = "<init>" := (name_of_methodNamed B.named B.method).1
  have hF : CallFix p m c cX3_init 1 s (([.ref h] : List Value).toArray) zB RX3 := ⟨hx, hb, hml, hown, hz⟩
  have hD := hD0.self (sz := s.heap.size)
  generalize hAe : va_A [(h, .inr (3, [.null, .int 0, .int 0, .int 0, .int 0]))] s.heap.size = A at hD ⊢
  have hA : ∀ q : Nat, s.heap.size ≤ q → A q := fun q h => by rw [← hAe]; exact Or.inr h
  have hS : va_S A s.heap s.heap [] := va_S.rf
  have hP : va_P D vwCl [(h, .inr (3, [.null, .int 0, .int 0, .int 0, .int 0]))] s.heap := hP
  have hl := lv_entry ([.ref h]) (n := 1) (Nat.le_of_ble_eq_true rfl)
  rw [lg_entry_eq]
  generalize (lg_sl ([.ref h]) ++ List.replicate (1 - (lg_sl ([.ref h])).length) Slot.unset).toArray = ls at hl ⊢
  have hl : lv_has ls 1 [(0, .ref h)] := hl
  refine lv_aload_n hx hb dX3_init_0 rfl (lv_at hl 0 rfl) ?_
  refine W.objInit hx hb hown (hz _ z1_132) (hz _ z1_21) (hz _ z1_22) rfl (by rw [hml]; exact hl.1) rfl dX3_init_1 (Nat.le_of_ble_eq_true rfl) (Nat.le_of_ble_eq_true rfl) ?_
  refine W.eq (g2 := F0 m 4 ls []) rfl ?_
  refine lv_aload_n hx hb dX3_init_4 rfl (lv_at hl 0 rfl) ?_
  refine va_new (ci := 1) (fs := [.null, .null, .int 0, .int 0, .int 0, .int 0, .int 0, .int 0]) (C := RX1) (T := TX1) (N := 8) hx hb hz hX_X1 tyX1 tyX1_ok hown (hz _ z1_133) (hz _ z1_30) (hz _ z1_3) hK.1 hP hD hS hA rfl hfX1 (Nat.le_of_ble_eq_true rfl) (Nat.le_of_ble_eq_true rfl) dX3_init_5 (fun q1 H hP hD hS => ?_)
  have hP : va_P D vwCl [(h, .inr (3, [.null, .int 0, .int 0, .int 0, .int 0])), (q1, .inr (1, [.null, .null, .int 0, .int 0, .int 0, .int 0, .int 0, .int 0]))] H := hP
  have hD : va_D A [(h, .inr (3, [.null, .int 0, .int 0, .int 0, .int 0])), (q1, .inr (1, [.null, .null, .int 0, .int 0, .int 0, .int 0, .int 0, .int 0]))] := hD
  refine lv_dup hx hb dX3_init_8 rfl ?_
  refine z_rn (S := Nat × Nat) (c1 := (fun u => n_X1 cI q1 u.1 u.2)) (z_runI (As := []) (rest := [.ref q1, .ref h]) hF (c_X1_init l D cI cC cZ q1 H.size) (cwI 0 hz (z_gN z1_33) rfl rfl rfl (hz _ z1_3) (hz _ z1_134) (hz _ z1_32) rfl (by decide +kernel) ⟨Nat.le_of_ble_eq_true rfl, Nat.le_of_ble_eq_true rfl⟩) hK hP hD [1] rfl rfl rfl hl.1 rfl (Nat.le_of_ble_eq_true rfl) dX3_init_9 ⟨Nat.le_of_ble_eq_true rfl, Nat.le_of_ble_eq_true rfl⟩) hP hD hS hA [1] [0] [(h, .inr (3, [.null, .int 0, .int 0, .int 0, .int 0]))] rfl rfl rfl (by decide) (fun u9 H locs hP hD hS => ?_)
  obtain ⟨q2, q3⟩ := u9
  have hP : va_P D vwCl [(h, .inr (3, [.null, .int 0, .int 0, .int 0, .int 0])), (q1, .inr (1, [.ref q2, .ref q3, .int 0, .int 0, .int 0, .int 3, .int 5, .int 0])), (q2, .inl (cI, 8, .inl fun _ => 0)), (q3, .inl (cI, 8, .inl fun _ => 0))] H := hP
  have hD : va_D A [(h, .inr (3, [.null, .int 0, .int 0, .int 0, .int 0])), (q1, .inr (1, [.ref q2, .ref q3, .int 0, .int 0, .int 0, .int 3, .int 5, .int 0])), (q2, .inl (cI, 8, .inl fun _ => 0)), (q3, .inl (cI, 8, .inl fun _ => 0))] := hD
  refine va_putF (D := D) (ci := 3) (v := .ref q1) (ty := tyX3 0) (C := RX3) (T := TX3) (N := 5) hx hb hz hX_X3 tyX3 tyX3_ok nmX3 hown hK.1 hP hD hS 0 rfl rfl 0 (by decide) (hz _ z1_135) (fun _ h9 => h9) rfl hin rfl (tyX3_ok 0 (by decide)) rfl rfl (Nat.le_of_ble_eq_true rfl) dX3_init_12 (fun H locs hP hD hS => ?_)
  have hP : va_P D vwCl [(h, .inr (3, [.ref q1, .int 0, .int 0, .int 0, .int 0])), (q1, .inr (1, [.ref q2, .ref q3, .int 0, .int 0, .int 0, .int 3, .int 5, .int 0])), (q2, .inl (cI, 8, .inl fun _ => 0)), (q3, .inl (cI, 8, .inl fun _ => 0))] H := hP
  have hD : va_D A [(h, .inr (3, [.ref q1, .int 0, .int 0, .int 0, .int 0])), (q1, .inr (1, [.ref q2, .ref q3, .int 0, .int 0, .int 0, .int 3, .int 5, .int 0])), (q2, .inl (cI, 8, .inl fun _ => 0)), (q3, .inl (cI, 8, .inl fun _ => 0))] := hD
  refine W.widen (k := 3) (n := 24) (Nat.le_of_ble_eq_true rfl) (Nat.le_of_ble_eq_true rfl) ?_
  exact W.vret hx hb hr (fun t ht hW => ⟨⟨⟨q1, q2, q3⟩, rfl, trivial, by rw [ht]; exact hP, hD⟩, hS.F ht⟩) hS.2.2 dX3_init_15 hlocks
abbrev n_X7 (cI : ClassId) (h q1 q2 q3 q4 q5 q6 q7 q8 : Nat) : va_W := [(h, .inr (7, [.ref q1, .ref q4, .ref q6])), (q1, .inr (1, [.ref q2, .ref q3, .int 0, .int 0, .int 0, .int 3, .int 5, .int 0])), (q2, .inl (cI, 8, .inl fun _ => 0)), (q3, .inl (cI, 8, .inl fun _ => 0)), (q4, .inr (6, [.ref q5, .int 0])), (q5, .inl (cI, 12, .inl fun _ => 0)), (q6, .inr (5, [.ref q7, .ref q8, .int 0])), (q7, .inl (cI, 8, .inl fun _ => 0)), (q8, .inl (cI, 8, .inl fun _ => 0))]
abbrev v_X7_init : List Cond := .code yX7_init cX7_init 1 none :: zB
theorem hfX7 : ∀ j, j < 3 → defaultValue (tyX7 j) = vp_V [.null, .null, .null] j := fun j hj => match j, hj with
  | 0, _ => rfl
  | 1, _ => rfl
  | 2, _ => rfl
  | k + 3, h => absurd h (by omega)
set_option maxHeartbeats 4000000 in
set_option maxRecDepth 100000 in
theorem c_X7_init (l : Launch) (D : va_G) (cI cC cZ : ClassId) (h sz : Nat) : Met l yX7_init v_X7_init ({ frames := 2, cells := 8, slots := 57, locals := 40 } : Room) (va_Pc [.ref h] (zPre D (zT cI cC cZ) sz [(h, .inr (7, [.null, .null, .null]))])) (va_Qv (S := Nat × Nat × Nat × Nat × Nat × Nat × Nat × Nat) (fun _ => True) (fun u t => va_P D vwCl (n_X7 cI h u.1 u.2.1 u.2.2.1 u.2.2.2.1 u.2.2.2.2.1 u.2.2.2.2.2.1 u.2.2.2.2.2.2.1 u.2.2.2.2.2.2.2) t.heap ∧ va_D (va_A [(h, .inr (7, [.null, .null, .null]))] sz) (n_X7 cI h u.1 u.2.1 u.2.2.1 u.2.2.2.1 u.2.2.2.2.1 u.2.2.2.2.2.1 u.2.2.2.2.2.2.1 u.2.2.2.2.2.2.2)) (va_A [(h, .inr (7, [.null, .null, .null]))] sz)) 8 57 (va_A [(h, .inr (7, [.null, .null, .null]))] sz) := by
  refine Met.ofW (cc := cX7_init) (maxL := 1) (ret := none) (by decide) rfl ?_
  intro p e s m args below meth c s₁ B hml hv
  obtain ⟨rfl, hsz, hP, hK, hD0⟩ := hv
  subst hsz
  have hx := B.exec
  have hb := B.bytes
  have hr := B.returns
  have hz : ∀ w ∈ zB, w.before _ s = true := fun w h => atoms_spec (ws := v_X7_init) B.pre w (List.mem_cons_of_mem _ h)
  have hown : s.vm.findClass RX7 = some m.cls := findClass_of_methodNamed B.named
  have hlocks := B.notSynchronized
  have hin : meth.name = "<init>" := (name_of_methodNamed B.named B.method).1
  have hF : CallFix p m c cX7_init 1 s (([.ref h] : List Value).toArray) zB RX7 := ⟨hx, hb, hml, hown, hz⟩
  have hD := hD0.self (sz := s.heap.size)
  generalize hAe : va_A [(h, .inr (7, [.null, .null, .null]))] s.heap.size = A at hD ⊢
  have hA : ∀ q : Nat, s.heap.size ≤ q → A q := fun q h => by rw [← hAe]; exact Or.inr h
  have hS : va_S A s.heap s.heap [] := va_S.rf
  have hP : va_P D vwCl [(h, .inr (7, [.null, .null, .null]))] s.heap := hP
  have hl := lv_entry ([.ref h]) (n := 1) (Nat.le_of_ble_eq_true rfl)
  rw [lg_entry_eq]
  generalize (lg_sl ([.ref h]) ++ List.replicate (1 - (lg_sl ([.ref h])).length) Slot.unset).toArray = ls at hl ⊢
  have hl : lv_has ls 1 [(0, .ref h)] := hl
  refine lv_aload_n hx hb dX7_init_0 rfl (lv_at hl 0 rfl) ?_
  refine W.objInit hx hb hown (hz _ z1_28) (hz _ z1_21) (hz _ z1_22) rfl (by rw [hml]; exact hl.1) rfl dX7_init_1 (Nat.le_of_ble_eq_true rfl) (Nat.le_of_ble_eq_true rfl) ?_
  refine W.eq (g2 := F0 m 4 ls []) rfl ?_
  refine lv_aload_n hx hb dX7_init_4 rfl (lv_at hl 0 rfl) ?_
  refine va_new (ci := 1) (fs := [.null, .null, .int 0, .int 0, .int 0, .int 0, .int 0, .int 0]) (C := RX1) (T := TX1) (N := 8) hx hb hz hX_X1 tyX1 tyX1_ok hown (hz _ z1_29) (hz _ z1_30) (hz _ z1_3) hK.1 hP hD hS hA rfl hfX1 (Nat.le_of_ble_eq_true rfl) (Nat.le_of_ble_eq_true rfl) dX7_init_5 (fun q1 H hP hD hS => ?_)
  have hP : va_P D vwCl [(h, .inr (7, [.null, .null, .null])), (q1, .inr (1, [.null, .null, .int 0, .int 0, .int 0, .int 0, .int 0, .int 0]))] H := hP
  have hD : va_D A [(h, .inr (7, [.null, .null, .null])), (q1, .inr (1, [.null, .null, .int 0, .int 0, .int 0, .int 0, .int 0, .int 0]))] := hD
  refine lv_dup hx hb dX7_init_8 rfl ?_
  refine z_rn (S := Nat × Nat) (c1 := (fun u => n_X1 cI q1 u.1 u.2)) (z_runI (As := []) (rest := [.ref q1, .ref h]) hF (c_X1_init l D cI cC cZ q1 H.size) (cwI 0 hz (z_gN z1_33) rfl rfl rfl (hz _ z1_3) (hz _ z1_31) (hz _ z1_32) rfl (by decide +kernel) ⟨Nat.le_of_ble_eq_true rfl, Nat.le_of_ble_eq_true rfl⟩) hK hP hD [1] rfl rfl rfl hl.1 rfl (Nat.le_of_ble_eq_true rfl) dX7_init_9 ⟨Nat.le_of_ble_eq_true rfl, Nat.le_of_ble_eq_true rfl⟩) hP hD hS hA [1] [0] [(h, .inr (7, [.null, .null, .null]))] rfl rfl rfl (by decide) (fun u9 H locs hP hD hS => ?_)
  obtain ⟨q2, q3⟩ := u9
  have hP : va_P D vwCl [(h, .inr (7, [.null, .null, .null])), (q1, .inr (1, [.ref q2, .ref q3, .int 0, .int 0, .int 0, .int 3, .int 5, .int 0])), (q2, .inl (cI, 8, .inl fun _ => 0)), (q3, .inl (cI, 8, .inl fun _ => 0))] H := hP
  have hD : va_D A [(h, .inr (7, [.null, .null, .null])), (q1, .inr (1, [.ref q2, .ref q3, .int 0, .int 0, .int 0, .int 3, .int 5, .int 0])), (q2, .inl (cI, 8, .inl fun _ => 0)), (q3, .inl (cI, 8, .inl fun _ => 0))] := hD
  refine va_putF (D := D) (ci := 7) (v := .ref q1) (ty := tyX7 0) (C := RX7) (T := TX7) (N := 3) hx hb hz hX_X7 tyX7 tyX7_ok nmX7 hown hK.1 hP hD hS 0 rfl rfl 0 (by decide) (hz _ z1_97) (fun _ h9 => h9) rfl hin rfl (tyX7_ok 0 (by decide)) rfl rfl (Nat.le_of_ble_eq_true rfl) dX7_init_12 (fun H locs hP hD hS => ?_)
  have hP : va_P D vwCl [(h, .inr (7, [.ref q1, .null, .null])), (q1, .inr (1, [.ref q2, .ref q3, .int 0, .int 0, .int 0, .int 3, .int 5, .int 0])), (q2, .inl (cI, 8, .inl fun _ => 0)), (q3, .inl (cI, 8, .inl fun _ => 0))] H := hP
  have hD : va_D A [(h, .inr (7, [.ref q1, .null, .null])), (q1, .inr (1, [.ref q2, .ref q3, .int 0, .int 0, .int 0, .int 3, .int 5, .int 0])), (q2, .inl (cI, 8, .inl fun _ => 0)), (q3, .inl (cI, 8, .inl fun _ => 0))] := hD
  refine lv_aload_n hx hb dX7_init_15 rfl (lv_at hl 0 rfl) ?_
  refine va_new (ci := 6) (fs := [.null, .int 0]) (C := RX6) (T := TX6) (N := 2) hx hb hz hX_X6 tyX6 tyX6_ok hown (hz _ z1_66) (hz _ z1_67) (hz _ z1_4) hK.1 hP hD hS hA rfl hfX6 (Nat.le_of_ble_eq_true rfl) (Nat.le_of_ble_eq_true rfl) dX7_init_16 (fun q4 H hP hD hS => ?_)
  have hP : va_P D vwCl [(h, .inr (7, [.ref q1, .null, .null])), (q1, .inr (1, [.ref q2, .ref q3, .int 0, .int 0, .int 0, .int 3, .int 5, .int 0])), (q2, .inl (cI, 8, .inl fun _ => 0)), (q3, .inl (cI, 8, .inl fun _ => 0)), (q4, .inr (6, [.null, .int 0]))] H := hP
  have hD : va_D A [(h, .inr (7, [.ref q1, .null, .null])), (q1, .inr (1, [.ref q2, .ref q3, .int 0, .int 0, .int 0, .int 3, .int 5, .int 0])), (q2, .inl (cI, 8, .inl fun _ => 0)), (q3, .inl (cI, 8, .inl fun _ => 0)), (q4, .inr (6, [.null, .int 0]))] := hD
  refine lv_dup hx hb dX7_init_19 rfl ?_
  refine z_rn (S := Nat) (c1 := (fun u => n_X6 cI q4 u)) (z_runI (As := []) (rest := [.ref q4, .ref h]) hF (c_X6_init l D cI cC cZ q4 H.size) (cwI 0 hz (z_gN z1_70) rfl rfl rfl (hz _ z1_4) (hz _ z1_68) (hz _ z1_69) rfl (by decide +kernel) ⟨Nat.le_of_ble_eq_true rfl, Nat.le_of_ble_eq_true rfl⟩) hK hP hD [4] rfl rfl rfl hl.1 rfl (Nat.le_of_ble_eq_true rfl) dX7_init_20 ⟨Nat.le_of_ble_eq_true rfl, Nat.le_of_ble_eq_true rfl⟩) hP hD hS hA [4] [0, 1, 2, 3] [(h, .inr (7, [.ref q1, .null, .null])), (q1, .inr (1, [.ref q2, .ref q3, .int 0, .int 0, .int 0, .int 3, .int 5, .int 0])), (q2, .inl (cI, 8, .inl fun _ => 0)), (q3, .inl (cI, 8, .inl fun _ => 0))] rfl rfl rfl (by decide) (fun u20 H locs hP hD hS => ?_)
  obtain ⟨q5, rfl⟩ : ∃ z, z = u20 := ⟨_, rfl⟩
  have hP : va_P D vwCl [(h, .inr (7, [.ref q1, .null, .null])), (q1, .inr (1, [.ref q2, .ref q3, .int 0, .int 0, .int 0, .int 3, .int 5, .int 0])), (q2, .inl (cI, 8, .inl fun _ => 0)), (q3, .inl (cI, 8, .inl fun _ => 0)), (q4, .inr (6, [.ref q5, .int 0])), (q5, .inl (cI, 12, .inl fun _ => 0))] H := hP
  have hD : va_D A [(h, .inr (7, [.ref q1, .null, .null])), (q1, .inr (1, [.ref q2, .ref q3, .int 0, .int 0, .int 0, .int 3, .int 5, .int 0])), (q2, .inl (cI, 8, .inl fun _ => 0)), (q3, .inl (cI, 8, .inl fun _ => 0)), (q4, .inr (6, [.ref q5, .int 0])), (q5, .inl (cI, 12, .inl fun _ => 0))] := hD
  refine va_putF (D := D) (ci := 7) (v := .ref q4) (ty := tyX7 1) (C := RX7) (T := TX7) (N := 3) hx hb hz hX_X7 tyX7 tyX7_ok nmX7 hown hK.1 hP hD hS 0 rfl rfl 1 (by decide) (hz _ z1_99) (fun _ h9 => h9) rfl hin rfl (tyX7_ok 1 (by decide)) rfl rfl (Nat.le_of_ble_eq_true rfl) dX7_init_23 (fun H locs hP hD hS => ?_)
  have hP : va_P D vwCl [(h, .inr (7, [.ref q1, .ref q4, .null])), (q1, .inr (1, [.ref q2, .ref q3, .int 0, .int 0, .int 0, .int 3, .int 5, .int 0])), (q2, .inl (cI, 8, .inl fun _ => 0)), (q3, .inl (cI, 8, .inl fun _ => 0)), (q4, .inr (6, [.ref q5, .int 0])), (q5, .inl (cI, 12, .inl fun _ => 0))] H := hP
  have hD : va_D A [(h, .inr (7, [.ref q1, .ref q4, .null])), (q1, .inr (1, [.ref q2, .ref q3, .int 0, .int 0, .int 0, .int 3, .int 5, .int 0])), (q2, .inl (cI, 8, .inl fun _ => 0)), (q3, .inl (cI, 8, .inl fun _ => 0)), (q4, .inr (6, [.ref q5, .int 0])), (q5, .inl (cI, 12, .inl fun _ => 0))] := hD
  refine lv_aload_n hx hb dX7_init_26 rfl (lv_at hl 0 rfl) ?_
  refine va_new (ci := 5) (fs := [.null, .null, .int 0]) (C := RX5) (T := TX5) (N := 3) hx hb hz hX_X5 tyX5 tyX5_ok hown (hz _ z1_80) (hz _ z1_81) (hz _ z1_5) hK.1 hP hD hS hA rfl hfX5 (Nat.le_of_ble_eq_true rfl) (Nat.le_of_ble_eq_true rfl) dX7_init_27 (fun q6 H hP hD hS => ?_)
  have hP : va_P D vwCl [(h, .inr (7, [.ref q1, .ref q4, .null])), (q1, .inr (1, [.ref q2, .ref q3, .int 0, .int 0, .int 0, .int 3, .int 5, .int 0])), (q2, .inl (cI, 8, .inl fun _ => 0)), (q3, .inl (cI, 8, .inl fun _ => 0)), (q4, .inr (6, [.ref q5, .int 0])), (q5, .inl (cI, 12, .inl fun _ => 0)), (q6, .inr (5, [.null, .null, .int 0]))] H := hP
  have hD : va_D A [(h, .inr (7, [.ref q1, .ref q4, .null])), (q1, .inr (1, [.ref q2, .ref q3, .int 0, .int 0, .int 0, .int 3, .int 5, .int 0])), (q2, .inl (cI, 8, .inl fun _ => 0)), (q3, .inl (cI, 8, .inl fun _ => 0)), (q4, .inr (6, [.ref q5, .int 0])), (q5, .inl (cI, 12, .inl fun _ => 0)), (q6, .inr (5, [.null, .null, .int 0]))] := hD
  refine lv_dup hx hb dX7_init_30 rfl ?_
  refine z_rn (S := Nat × Nat) (c1 := (fun u => n_X5 cI q6 u.1 u.2)) (z_runI (As := []) (rest := [.ref q6, .ref h]) hF (c_X5_init l D cI cC cZ q6 H.size) (cwI 0 hz (z_gN z1_84) rfl rfl rfl (hz _ z1_5) (hz _ z1_82) (hz _ z1_83) rfl (by decide +kernel) ⟨Nat.le_of_ble_eq_true rfl, Nat.le_of_ble_eq_true rfl⟩) hK hP hD [6] rfl rfl rfl hl.1 rfl (Nat.le_of_ble_eq_true rfl) dX7_init_31 ⟨Nat.le_of_ble_eq_true rfl, Nat.le_of_ble_eq_true rfl⟩) hP hD hS hA [6] [0, 1, 2, 3, 4, 5] [(h, .inr (7, [.ref q1, .ref q4, .null])), (q1, .inr (1, [.ref q2, .ref q3, .int 0, .int 0, .int 0, .int 3, .int 5, .int 0])), (q2, .inl (cI, 8, .inl fun _ => 0)), (q3, .inl (cI, 8, .inl fun _ => 0)), (q4, .inr (6, [.ref q5, .int 0])), (q5, .inl (cI, 12, .inl fun _ => 0))] rfl rfl rfl (by decide) (fun u31 H locs hP hD hS => ?_)
  obtain ⟨q7, q8⟩ := u31
  have hP : va_P D vwCl [(h, .inr (7, [.ref q1, .ref q4, .null])), (q1, .inr (1, [.ref q2, .ref q3, .int 0, .int 0, .int 0, .int 3, .int 5, .int 0])), (q2, .inl (cI, 8, .inl fun _ => 0)), (q3, .inl (cI, 8, .inl fun _ => 0)), (q4, .inr (6, [.ref q5, .int 0])), (q5, .inl (cI, 12, .inl fun _ => 0)), (q6, .inr (5, [.ref q7, .ref q8, .int 0])), (q7, .inl (cI, 8, .inl fun _ => 0)), (q8, .inl (cI, 8, .inl fun _ => 0))] H := hP
  have hD : va_D A [(h, .inr (7, [.ref q1, .ref q4, .null])), (q1, .inr (1, [.ref q2, .ref q3, .int 0, .int 0, .int 0, .int 3, .int 5, .int 0])), (q2, .inl (cI, 8, .inl fun _ => 0)), (q3, .inl (cI, 8, .inl fun _ => 0)), (q4, .inr (6, [.ref q5, .int 0])), (q5, .inl (cI, 12, .inl fun _ => 0)), (q6, .inr (5, [.ref q7, .ref q8, .int 0])), (q7, .inl (cI, 8, .inl fun _ => 0)), (q8, .inl (cI, 8, .inl fun _ => 0))] := hD
  refine va_putF (D := D) (ci := 7) (v := .ref q6) (ty := tyX7 2) (C := RX7) (T := TX7) (N := 3) hx hb hz hX_X7 tyX7 tyX7_ok nmX7 hown hK.1 hP hD hS 0 rfl rfl 2 (by decide) (hz _ z1_101) (fun _ h9 => h9) rfl hin rfl (tyX7_ok 2 (by decide)) rfl rfl (Nat.le_of_ble_eq_true rfl) dX7_init_34 (fun H locs hP hD hS => ?_)
  have hP : va_P D vwCl [(h, .inr (7, [.ref q1, .ref q4, .ref q6])), (q1, .inr (1, [.ref q2, .ref q3, .int 0, .int 0, .int 0, .int 3, .int 5, .int 0])), (q2, .inl (cI, 8, .inl fun _ => 0)), (q3, .inl (cI, 8, .inl fun _ => 0)), (q4, .inr (6, [.ref q5, .int 0])), (q5, .inl (cI, 12, .inl fun _ => 0)), (q6, .inr (5, [.ref q7, .ref q8, .int 0])), (q7, .inl (cI, 8, .inl fun _ => 0)), (q8, .inl (cI, 8, .inl fun _ => 0))] H := hP
  have hD : va_D A [(h, .inr (7, [.ref q1, .ref q4, .ref q6])), (q1, .inr (1, [.ref q2, .ref q3, .int 0, .int 0, .int 0, .int 3, .int 5, .int 0])), (q2, .inl (cI, 8, .inl fun _ => 0)), (q3, .inl (cI, 8, .inl fun _ => 0)), (q4, .inr (6, [.ref q5, .int 0])), (q5, .inl (cI, 12, .inl fun _ => 0)), (q6, .inr (5, [.ref q7, .ref q8, .int 0])), (q7, .inl (cI, 8, .inl fun _ => 0)), (q8, .inl (cI, 8, .inl fun _ => 0))] := hD
  refine W.widen (k := 8) (n := 57) (Nat.le_of_ble_eq_true rfl) (Nat.le_of_ble_eq_true rfl) ?_
  exact W.vret hx hb hr (fun t ht hW => ⟨⟨⟨q1, q2, q3, q4, q5, q6, q7, q8⟩, rfl, trivial, by rw [ht]; exact hP, hD⟩, hS.F ht⟩) hS.2.2 dX7_init_37 hlocks
abbrev n_X9 (cI cZ : ClassId) (h q1 q2 q3 q4 q5 q6 q7 q8 q9 q10 q11 q12 : Nat) : va_W := [(h, .inr (9, [.ref q1, .ref q2, .ref q3, .int 3, .int 5, .ref q4, .int 0, .int 0, .ref q5, .int 0, .ref q6, .int 0, .int 0, .int 0, .int 0, .ref q7, .ref q8, .ref q9, .ref q10, .ref q11, .ref q12])), (q1, .inl (cI, 12, .inl fun _ => 0)), (q2, .inl (cI, 12, .inl fun _ => 0)), (q3, .inl (cI, 8, .inl fun _ => 0)), (q4, .inl (cI, 12, .inl fun _ => 0)), (q5, .inl (cI, 24, .inl fun _ => 0)), (q6, .inl (cI, 60, .inl fun _ => 0)), (q7, .inl (cI, 100, .inl fun _ => 0)), (q8, .inl (cI, 1722, .inl fun _ => 0)), (q9, .inl (cI, 100, .inl fun _ => 0)), (q10, .inl (cI, 10000, .inl fun _ => 0)), (q11, .inl (cI, 140, .inl fun _ => 0)), (q12, .inl (cZ, 2, .inl fun _ => 0))]
abbrev v_X9_init : List Cond := .code yX9_init cX9_init 1 none :: zB
theorem hfX9 : ∀ j, j < 21 → defaultValue (tyX9 j) = vp_V [.null, .null, .null, .int 0, .int 0, .null, .int 0, .int 0, .null, .int 0, .null, .int 0, .int 0, .int 0, .int 0, .null, .null, .null, .null, .null, .null] j := fun j hj => match j, hj with
  | 0, _ => rfl
  | 1, _ => rfl
  | 2, _ => rfl
  | 3, _ => rfl
  | 4, _ => rfl
  | 5, _ => rfl
  | 6, _ => rfl
  | 7, _ => rfl
  | 8, _ => rfl
  | 9, _ => rfl
  | 10, _ => rfl
  | 11, _ => rfl
  | 12, _ => rfl
  | 13, _ => rfl
  | 14, _ => rfl
  | 15, _ => rfl
  | 16, _ => rfl
  | 17, _ => rfl
  | 18, _ => rfl
  | 19, _ => rfl
  | 20, _ => rfl
  | k + 21, h => absurd h (by omega)
set_option maxHeartbeats 4000000 in
set_option maxRecDepth 100000 in
theorem c_X9_init (l : Launch) (D : va_G) (cI cC cZ : ClassId) (h sz : Nat) : Met l yX9_init v_X9_init ({ frames := 1, cells := 12, slots := 12192, locals := 20 } : Room) (va_Pc [.ref h] (zPre D (zT cI cC cZ) sz [(h, .inr (9, [.null, .null, .null, .int 0, .int 0, .null, .int 0, .int 0, .null, .int 0, .null, .int 0, .int 0, .int 0, .int 0, .null, .null, .null, .null, .null, .null]))])) (va_Qv (S := Nat × Nat × Nat × Nat × Nat × Nat × Nat × Nat × Nat × Nat × Nat × Nat) (fun _ => True) (fun u t => va_P D vwCl (n_X9 cI cZ h u.1 u.2.1 u.2.2.1 u.2.2.2.1 u.2.2.2.2.1 u.2.2.2.2.2.1 u.2.2.2.2.2.2.1 u.2.2.2.2.2.2.2.1 u.2.2.2.2.2.2.2.2.1 u.2.2.2.2.2.2.2.2.2.1 u.2.2.2.2.2.2.2.2.2.2.1 u.2.2.2.2.2.2.2.2.2.2.2) t.heap ∧ va_D (va_A [(h, .inr (9, [.null, .null, .null, .int 0, .int 0, .null, .int 0, .int 0, .null, .int 0, .null, .int 0, .int 0, .int 0, .int 0, .null, .null, .null, .null, .null, .null]))] sz) (n_X9 cI cZ h u.1 u.2.1 u.2.2.1 u.2.2.2.1 u.2.2.2.2.1 u.2.2.2.2.2.1 u.2.2.2.2.2.2.1 u.2.2.2.2.2.2.2.1 u.2.2.2.2.2.2.2.2.1 u.2.2.2.2.2.2.2.2.2.1 u.2.2.2.2.2.2.2.2.2.2.1 u.2.2.2.2.2.2.2.2.2.2.2)) (va_A [(h, .inr (9, [.null, .null, .null, .int 0, .int 0, .null, .int 0, .int 0, .null, .int 0, .null, .int 0, .int 0, .int 0, .int 0, .null, .null, .null, .null, .null, .null]))] sz)) 12 12192 (va_A [(h, .inr (9, [.null, .null, .null, .int 0, .int 0, .null, .int 0, .int 0, .null, .int 0, .null, .int 0, .int 0, .int 0, .int 0, .null, .null, .null, .null, .null, .null]))] sz) := by
  refine Met.ofW (cc := cX9_init) (maxL := 1) (ret := none) (by decide) rfl ?_
  intro p e s m args below meth c s₁ B hml hv
  obtain ⟨rfl, hsz, hP, hK, hD0⟩ := hv
  subst hsz
  have hx := B.exec
  have hb := B.bytes
  have hr := B.returns
  have hz : ∀ w ∈ zB, w.before _ s = true := fun w h => atoms_spec (ws := v_X9_init) B.pre w (List.mem_cons_of_mem _ h)
  have hown : s.vm.findClass RX9 = some m.cls := findClass_of_methodNamed B.named
  have hlocks := B.notSynchronized
  have hin : meth.name = "<init>" := (name_of_methodNamed B.named B.method).1
  have hF : CallFix p m c cX9_init 1 s (([.ref h] : List Value).toArray) zB RX9 := ⟨hx, hb, hml, hown, hz⟩
  have hD := hD0.self (sz := s.heap.size)
  generalize hAe : va_A [(h, .inr (9, [.null, .null, .null, .int 0, .int 0, .null, .int 0, .int 0, .null, .int 0, .null, .int 0, .int 0, .int 0, .int 0, .null, .null, .null, .null, .null, .null]))] s.heap.size = A at hD ⊢
  have hA : ∀ q : Nat, s.heap.size ≤ q → A q := fun q h => by rw [← hAe]; exact Or.inr h
  have hS : va_S A s.heap s.heap [] := va_S.rf
  have hP : va_P D vwCl [(h, .inr (9, [.null, .null, .null, .int 0, .int 0, .null, .int 0, .int 0, .null, .int 0, .null, .int 0, .int 0, .int 0, .int 0, .null, .null, .null, .null, .null, .null]))] s.heap := hP
  have hl := lv_entry ([.ref h]) (n := 1) (Nat.le_of_ble_eq_true rfl)
  rw [lg_entry_eq]
  generalize (lg_sl ([.ref h]) ++ List.replicate (1 - (lg_sl ([.ref h])).length) Slot.unset).toArray = ls at hl ⊢
  have hl : lv_has ls 1 [(0, .ref h)] := hl
  refine lv_aload_n hx hb dX9_init_0 rfl (lv_at hl 0 rfl) ?_
  refine W.objInit hx hb hown (hz _ z3_155) (hz _ z1_21) (hz _ z1_22) rfl (by rw [hml]; exact hl.1) rfl dX9_init_1 (Nat.le_of_ble_eq_true rfl) (Nat.le_of_ble_eq_true rfl) ?_
  refine W.eq (g2 := F0 m 4 ls []) rfl ?_
  refine lv_aload_n hx hb dX9_init_4 rfl (lv_at hl 0 rfl) ?_
  refine lv_bipush (v := (12 : Int32)) hx hb dX9_init_5 (by decide) ?_
  refine va_newa (atype := .int) (ty := .int) (a0 := (12, .inl fun _ => 0)) hx hb (hz _ z1_65) rfl hK.1 hP hD hS hA (fun _ => rfl) (by decide) (by decide +kernel) (Nat.le_of_ble_eq_true rfl) (Nat.le_of_ble_eq_true rfl) (Nat.le_of_ble_eq_true rfl) dX9_init_7 (fun q1 cA H hKa hP hD hS => ?_)
  obtain rfl : cI = cA := z_clsI hKa 0 3 rfl rfl
  have hP : va_P D vwCl [(h, .inr (9, [.null, .null, .null, .int 0, .int 0, .null, .int 0, .int 0, .null, .int 0, .null, .int 0, .int 0, .int 0, .int 0, .null, .null, .null, .null, .null, .null])), (q1, .inl (cI, 12, .inl fun _ => 0))] H := hP
  have hD : va_D A [(h, .inr (9, [.null, .null, .null, .int 0, .int 0, .null, .int 0, .int 0, .null, .int 0, .null, .int 0, .int 0, .int 0, .int 0, .null, .null, .null, .null, .null, .null])), (q1, .inl (cI, 12, .inl fun _ => 0))] := hD
  refine va_putF (D := D) (ci := 9) (v := .ref q1) (ty := tyX9 0) (C := RX9) (T := TX9) (N := 21) hx hb hz hX_X9 tyX9 tyX9_ok nmX9 hown hK.1 hP hD hS 0 rfl rfl 0 (by decide) (hz _ z3_156) (fun _ h9 => h9) rfl hin rfl (tyX9_ok 0 (by decide)) rfl rfl (Nat.le_of_ble_eq_true rfl) dX9_init_9 (fun H locs hP hD hS => ?_)
  have hP : va_P D vwCl [(h, .inr (9, [.ref q1, .null, .null, .int 0, .int 0, .null, .int 0, .int 0, .null, .int 0, .null, .int 0, .int 0, .int 0, .int 0, .null, .null, .null, .null, .null, .null])), (q1, .inl (cI, 12, .inl fun _ => 0))] H := hP
  have hD : va_D A [(h, .inr (9, [.ref q1, .null, .null, .int 0, .int 0, .null, .int 0, .int 0, .null, .int 0, .null, .int 0, .int 0, .int 0, .int 0, .null, .null, .null, .null, .null, .null])), (q1, .inl (cI, 12, .inl fun _ => 0))] := hD
  refine lv_aload_n hx hb dX9_init_12 rfl (lv_at hl 0 rfl) ?_
  refine lv_bipush (v := (12 : Int32)) hx hb dX9_init_13 (by decide) ?_
  refine va_newa (atype := .int) (ty := .int) (a0 := (12, .inl fun _ => 0)) hx hb (hz _ z1_65) rfl hK.1 hP hD hS hA (fun _ => rfl) (by decide) (by decide +kernel) (Nat.le_of_ble_eq_true rfl) (Nat.le_of_ble_eq_true rfl) (Nat.le_of_ble_eq_true rfl) dX9_init_15 (fun q2 cA H hKa hP hD hS => ?_)
  obtain rfl : cI = cA := z_clsI hKa 0 3 rfl rfl
  have hP : va_P D vwCl [(h, .inr (9, [.ref q1, .null, .null, .int 0, .int 0, .null, .int 0, .int 0, .null, .int 0, .null, .int 0, .int 0, .int 0, .int 0, .null, .null, .null, .null, .null, .null])), (q1, .inl (cI, 12, .inl fun _ => 0)), (q2, .inl (cI, 12, .inl fun _ => 0))] H := hP
  have hD : va_D A [(h, .inr (9, [.ref q1, .null, .null, .int 0, .int 0, .null, .int 0, .int 0, .null, .int 0, .null, .int 0, .int 0, .int 0, .int 0, .null, .null, .null, .null, .null, .null])), (q1, .inl (cI, 12, .inl fun _ => 0)), (q2, .inl (cI, 12, .inl fun _ => 0))] := hD
  refine va_putF (D := D) (ci := 9) (v := .ref q2) (ty := tyX9 1) (C := RX9) (T := TX9) (N := 21) hx hb hz hX_X9 tyX9 tyX9_ok nmX9 hown hK.1 hP hD hS 0 rfl rfl 1 (by decide) (hz _ z3_157) (fun _ h9 => h9) rfl hin rfl (tyX9_ok 1 (by decide)) rfl rfl (Nat.le_of_ble_eq_true rfl) dX9_init_17 (fun H locs hP hD hS => ?_)
  have hP : va_P D vwCl [(h, .inr (9, [.ref q1, .ref q2, .null, .int 0, .int 0, .null, .int 0, .int 0, .null, .int 0, .null, .int 0, .int 0, .int 0, .int 0, .null, .null, .null, .null, .null, .null])), (q1, .inl (cI, 12, .inl fun _ => 0)), (q2, .inl (cI, 12, .inl fun _ => 0))] H := hP
  have hD : va_D A [(h, .inr (9, [.ref q1, .ref q2, .null, .int 0, .int 0, .null, .int 0, .int 0, .null, .int 0, .null, .int 0, .int 0, .int 0, .int 0, .null, .null, .null, .null, .null, .null])), (q1, .inl (cI, 12, .inl fun _ => 0)), (q2, .inl (cI, 12, .inl fun _ => 0))] := hD
  refine lv_aload_n hx hb dX9_init_20 rfl (lv_at hl 0 rfl) ?_
  refine lv_bipush (v := (8 : Int32)) hx hb dX9_init_21 (by decide) ?_
  refine va_newa (atype := .int) (ty := .int) (a0 := (8, .inl fun _ => 0)) hx hb (hz _ z1_65) rfl hK.1 hP hD hS hA (fun _ => rfl) (by decide) (by decide +kernel) (Nat.le_of_ble_eq_true rfl) (Nat.le_of_ble_eq_true rfl) (Nat.le_of_ble_eq_true rfl) dX9_init_23 (fun q3 cA H hKa hP hD hS => ?_)
  obtain rfl : cI = cA := z_clsI hKa 0 3 rfl rfl
  have hP : va_P D vwCl [(h, .inr (9, [.ref q1, .ref q2, .null, .int 0, .int 0, .null, .int 0, .int 0, .null, .int 0, .null, .int 0, .int 0, .int 0, .int 0, .null, .null, .null, .null, .null, .null])), (q1, .inl (cI, 12, .inl fun _ => 0)), (q2, .inl (cI, 12, .inl fun _ => 0)), (q3, .inl (cI, 8, .inl fun _ => 0))] H := hP
  have hD : va_D A [(h, .inr (9, [.ref q1, .ref q2, .null, .int 0, .int 0, .null, .int 0, .int 0, .null, .int 0, .null, .int 0, .int 0, .int 0, .int 0, .null, .null, .null, .null, .null, .null])), (q1, .inl (cI, 12, .inl fun _ => 0)), (q2, .inl (cI, 12, .inl fun _ => 0)), (q3, .inl (cI, 8, .inl fun _ => 0))] := hD
  refine va_putF (D := D) (ci := 9) (v := .ref q3) (ty := tyX9 2) (C := RX9) (T := TX9) (N := 21) hx hb hz hX_X9 tyX9 tyX9_ok nmX9 hown hK.1 hP hD hS 0 rfl rfl 2 (by decide) (hz _ z3_158) (fun _ h9 => h9) rfl hin rfl (tyX9_ok 2 (by decide)) rfl rfl (Nat.le_of_ble_eq_true rfl) dX9_init_25 (fun H locs hP hD hS => ?_)
  have hP : va_P D vwCl [(h, .inr (9, [.ref q1, .ref q2, .ref q3, .int 0, .int 0, .null, .int 0, .int 0, .null, .int 0, .null, .int 0, .int 0, .int 0, .int 0, .null, .null, .null, .null, .null, .null])), (q1, .inl (cI, 12, .inl fun _ => 0)), (q2, .inl (cI, 12, .inl fun _ => 0)), (q3, .inl (cI, 8, .inl fun _ => 0))] H := hP
  have hD : va_D A [(h, .inr (9, [.ref q1, .ref q2, .ref q3, .int 0, .int 0, .null, .int 0, .int 0, .null, .int 0, .null, .int 0, .int 0, .int 0, .int 0, .null, .null, .null, .null, .null, .null])), (q1, .inl (cI, 12, .inl fun _ => 0)), (q2, .inl (cI, 12, .inl fun _ => 0)), (q3, .inl (cI, 8, .inl fun _ => 0))] := hD
  refine lv_aload_n hx hb dX9_init_28 rfl (lv_at hl 0 rfl) ?_
  refine lv_iconst (v := (3 : Int32)) hx hb dX9_init_29 (by decide) ?_
  refine va_put (D := D) (ci := 9) (v := .int 3) (ty := tyX9 3) (C := RX9) (T := TX9) (N := 21) hx hb hz hX_X9 tyX9 tyX9_ok nmX9 hown hK.1 hP hD hS 0 rfl rfl 3 (by decide) (hz _ z3_159) (fun _ h9 => h9) rfl (tyX9_ok 3 (by decide)) rfl rfl (Nat.le_of_ble_eq_true rfl) dX9_init_30 (fun H locs hP hD hS => ?_)
  have hP : va_P D vwCl [(h, .inr (9, [.ref q1, .ref q2, .ref q3, .int 3, .int 0, .null, .int 0, .int 0, .null, .int 0, .null, .int 0, .int 0, .int 0, .int 0, .null, .null, .null, .null, .null, .null])), (q1, .inl (cI, 12, .inl fun _ => 0)), (q2, .inl (cI, 12, .inl fun _ => 0)), (q3, .inl (cI, 8, .inl fun _ => 0))] H := hP
  have hD : va_D A [(h, .inr (9, [.ref q1, .ref q2, .ref q3, .int 3, .int 0, .null, .int 0, .int 0, .null, .int 0, .null, .int 0, .int 0, .int 0, .int 0, .null, .null, .null, .null, .null, .null])), (q1, .inl (cI, 12, .inl fun _ => 0)), (q2, .inl (cI, 12, .inl fun _ => 0)), (q3, .inl (cI, 8, .inl fun _ => 0))] := hD
  refine lv_aload_n hx hb dX9_init_33 rfl (lv_at hl 0 rfl) ?_
  refine lv_iconst (v := (5 : Int32)) hx hb dX9_init_34 (by decide) ?_
  refine va_put (D := D) (ci := 9) (v := .int 5) (ty := tyX9 4) (C := RX9) (T := TX9) (N := 21) hx hb hz hX_X9 tyX9 tyX9_ok nmX9 hown hK.1 hP hD hS 0 rfl rfl 4 (by decide) (hz _ z3_160) (fun _ h9 => h9) rfl (tyX9_ok 4 (by decide)) rfl rfl (Nat.le_of_ble_eq_true rfl) dX9_init_35 (fun H locs hP hD hS => ?_)
  have hP : va_P D vwCl [(h, .inr (9, [.ref q1, .ref q2, .ref q3, .int 3, .int 5, .null, .int 0, .int 0, .null, .int 0, .null, .int 0, .int 0, .int 0, .int 0, .null, .null, .null, .null, .null, .null])), (q1, .inl (cI, 12, .inl fun _ => 0)), (q2, .inl (cI, 12, .inl fun _ => 0)), (q3, .inl (cI, 8, .inl fun _ => 0))] H := hP
  have hD : va_D A [(h, .inr (9, [.ref q1, .ref q2, .ref q3, .int 3, .int 5, .null, .int 0, .int 0, .null, .int 0, .null, .int 0, .int 0, .int 0, .int 0, .null, .null, .null, .null, .null, .null])), (q1, .inl (cI, 12, .inl fun _ => 0)), (q2, .inl (cI, 12, .inl fun _ => 0)), (q3, .inl (cI, 8, .inl fun _ => 0))] := hD
  refine lv_aload_n hx hb dX9_init_38 rfl (lv_at hl 0 rfl) ?_
  refine lv_bipush (v := (12 : Int32)) hx hb dX9_init_39 (by decide) ?_
  refine va_newa (atype := .int) (ty := .int) (a0 := (12, .inl fun _ => 0)) hx hb (hz _ z1_65) rfl hK.1 hP hD hS hA (fun _ => rfl) (by decide) (by decide +kernel) (Nat.le_of_ble_eq_true rfl) (Nat.le_of_ble_eq_true rfl) (Nat.le_of_ble_eq_true rfl) dX9_init_41 (fun q4 cA H hKa hP hD hS => ?_)
  obtain rfl : cI = cA := z_clsI hKa 0 3 rfl rfl
  have hP : va_P D vwCl [(h, .inr (9, [.ref q1, .ref q2, .ref q3, .int 3, .int 5, .null, .int 0, .int 0, .null, .int 0, .null, .int 0, .int 0, .int 0, .int 0, .null, .null, .null, .null, .null, .null])), (q1, .inl (cI, 12, .inl fun _ => 0)), (q2, .inl (cI, 12, .inl fun _ => 0)), (q3, .inl (cI, 8, .inl fun _ => 0)), (q4, .inl (cI, 12, .inl fun _ => 0))] H := hP
  have hD : va_D A [(h, .inr (9, [.ref q1, .ref q2, .ref q3, .int 3, .int 5, .null, .int 0, .int 0, .null, .int 0, .null, .int 0, .int 0, .int 0, .int 0, .null, .null, .null, .null, .null, .null])), (q1, .inl (cI, 12, .inl fun _ => 0)), (q2, .inl (cI, 12, .inl fun _ => 0)), (q3, .inl (cI, 8, .inl fun _ => 0)), (q4, .inl (cI, 12, .inl fun _ => 0))] := hD
  refine va_putF (D := D) (ci := 9) (v := .ref q4) (ty := tyX9 5) (C := RX9) (T := TX9) (N := 21) hx hb hz hX_X9 tyX9 tyX9_ok nmX9 hown hK.1 hP hD hS 0 rfl rfl 5 (by decide) (hz _ z3_161) (fun _ h9 => h9) rfl hin rfl (tyX9_ok 5 (by decide)) rfl rfl (Nat.le_of_ble_eq_true rfl) dX9_init_43 (fun H locs hP hD hS => ?_)
  have hP : va_P D vwCl [(h, .inr (9, [.ref q1, .ref q2, .ref q3, .int 3, .int 5, .ref q4, .int 0, .int 0, .null, .int 0, .null, .int 0, .int 0, .int 0, .int 0, .null, .null, .null, .null, .null, .null])), (q1, .inl (cI, 12, .inl fun _ => 0)), (q2, .inl (cI, 12, .inl fun _ => 0)), (q3, .inl (cI, 8, .inl fun _ => 0)), (q4, .inl (cI, 12, .inl fun _ => 0))] H := hP
  have hD : va_D A [(h, .inr (9, [.ref q1, .ref q2, .ref q3, .int 3, .int 5, .ref q4, .int 0, .int 0, .null, .int 0, .null, .int 0, .int 0, .int 0, .int 0, .null, .null, .null, .null, .null, .null])), (q1, .inl (cI, 12, .inl fun _ => 0)), (q2, .inl (cI, 12, .inl fun _ => 0)), (q3, .inl (cI, 8, .inl fun _ => 0)), (q4, .inl (cI, 12, .inl fun _ => 0))] := hD
  refine lv_aload_n hx hb dX9_init_46 rfl (lv_at hl 0 rfl) ?_
  refine lv_bipush (v := (24 : Int32)) hx hb dX9_init_47 (by decide) ?_
  refine va_newa (atype := .int) (ty := .int) (a0 := (24, .inl fun _ => 0)) hx hb (hz _ z1_65) rfl hK.1 hP hD hS hA (fun _ => rfl) (by decide) (by decide +kernel) (Nat.le_of_ble_eq_true rfl) (Nat.le_of_ble_eq_true rfl) (Nat.le_of_ble_eq_true rfl) dX9_init_49 (fun q5 cA H hKa hP hD hS => ?_)
  obtain rfl : cI = cA := z_clsI hKa 0 3 rfl rfl
  have hP : va_P D vwCl [(h, .inr (9, [.ref q1, .ref q2, .ref q3, .int 3, .int 5, .ref q4, .int 0, .int 0, .null, .int 0, .null, .int 0, .int 0, .int 0, .int 0, .null, .null, .null, .null, .null, .null])), (q1, .inl (cI, 12, .inl fun _ => 0)), (q2, .inl (cI, 12, .inl fun _ => 0)), (q3, .inl (cI, 8, .inl fun _ => 0)), (q4, .inl (cI, 12, .inl fun _ => 0)), (q5, .inl (cI, 24, .inl fun _ => 0))] H := hP
  have hD : va_D A [(h, .inr (9, [.ref q1, .ref q2, .ref q3, .int 3, .int 5, .ref q4, .int 0, .int 0, .null, .int 0, .null, .int 0, .int 0, .int 0, .int 0, .null, .null, .null, .null, .null, .null])), (q1, .inl (cI, 12, .inl fun _ => 0)), (q2, .inl (cI, 12, .inl fun _ => 0)), (q3, .inl (cI, 8, .inl fun _ => 0)), (q4, .inl (cI, 12, .inl fun _ => 0)), (q5, .inl (cI, 24, .inl fun _ => 0))] := hD
  refine va_putF (D := D) (ci := 9) (v := .ref q5) (ty := tyX9 8) (C := RX9) (T := TX9) (N := 21) hx hb hz hX_X9 tyX9 tyX9_ok nmX9 hown hK.1 hP hD hS 0 rfl rfl 8 (by decide) (hz _ z3_164) (fun _ h9 => h9) rfl hin rfl (tyX9_ok 8 (by decide)) rfl rfl (Nat.le_of_ble_eq_true rfl) dX9_init_51 (fun H locs hP hD hS => ?_)
  have hP : va_P D vwCl [(h, .inr (9, [.ref q1, .ref q2, .ref q3, .int 3, .int 5, .ref q4, .int 0, .int 0, .ref q5, .int 0, .null, .int 0, .int 0, .int 0, .int 0, .null, .null, .null, .null, .null, .null])), (q1, .inl (cI, 12, .inl fun _ => 0)), (q2, .inl (cI, 12, .inl fun _ => 0)), (q3, .inl (cI, 8, .inl fun _ => 0)), (q4, .inl (cI, 12, .inl fun _ => 0)), (q5, .inl (cI, 24, .inl fun _ => 0))] H := hP
  have hD : va_D A [(h, .inr (9, [.ref q1, .ref q2, .ref q3, .int 3, .int 5, .ref q4, .int 0, .int 0, .ref q5, .int 0, .null, .int 0, .int 0, .int 0, .int 0, .null, .null, .null, .null, .null, .null])), (q1, .inl (cI, 12, .inl fun _ => 0)), (q2, .inl (cI, 12, .inl fun _ => 0)), (q3, .inl (cI, 8, .inl fun _ => 0)), (q4, .inl (cI, 12, .inl fun _ => 0)), (q5, .inl (cI, 24, .inl fun _ => 0))] := hD
  refine lv_aload_n hx hb dX9_init_54 rfl (lv_at hl 0 rfl) ?_
  refine lv_bipush (v := (60 : Int32)) hx hb dX9_init_55 (by decide) ?_
  refine va_newa (atype := .int) (ty := .int) (a0 := (60, .inl fun _ => 0)) hx hb (hz _ z1_65) rfl hK.1 hP hD hS hA (fun _ => rfl) (by decide) (by decide +kernel) (Nat.le_of_ble_eq_true rfl) (Nat.le_of_ble_eq_true rfl) (Nat.le_of_ble_eq_true rfl) dX9_init_57 (fun q6 cA H hKa hP hD hS => ?_)
  obtain rfl : cI = cA := z_clsI hKa 0 3 rfl rfl
  have hP : va_P D vwCl [(h, .inr (9, [.ref q1, .ref q2, .ref q3, .int 3, .int 5, .ref q4, .int 0, .int 0, .ref q5, .int 0, .null, .int 0, .int 0, .int 0, .int 0, .null, .null, .null, .null, .null, .null])), (q1, .inl (cI, 12, .inl fun _ => 0)), (q2, .inl (cI, 12, .inl fun _ => 0)), (q3, .inl (cI, 8, .inl fun _ => 0)), (q4, .inl (cI, 12, .inl fun _ => 0)), (q5, .inl (cI, 24, .inl fun _ => 0)), (q6, .inl (cI, 60, .inl fun _ => 0))] H := hP
  have hD : va_D A [(h, .inr (9, [.ref q1, .ref q2, .ref q3, .int 3, .int 5, .ref q4, .int 0, .int 0, .ref q5, .int 0, .null, .int 0, .int 0, .int 0, .int 0, .null, .null, .null, .null, .null, .null])), (q1, .inl (cI, 12, .inl fun _ => 0)), (q2, .inl (cI, 12, .inl fun _ => 0)), (q3, .inl (cI, 8, .inl fun _ => 0)), (q4, .inl (cI, 12, .inl fun _ => 0)), (q5, .inl (cI, 24, .inl fun _ => 0)), (q6, .inl (cI, 60, .inl fun _ => 0))] := hD
  refine va_putF (D := D) (ci := 9) (v := .ref q6) (ty := tyX9 10) (C := RX9) (T := TX9) (N := 21) hx hb hz hX_X9 tyX9 tyX9_ok nmX9 hown hK.1 hP hD hS 0 rfl rfl 10 (by decide) (hz _ z3_166) (fun _ h9 => h9) rfl hin rfl (tyX9_ok 10 (by decide)) rfl rfl (Nat.le_of_ble_eq_true rfl) dX9_init_59 (fun H locs hP hD hS => ?_)
  have hP : va_P D vwCl [(h, .inr (9, [.ref q1, .ref q2, .ref q3, .int 3, .int 5, .ref q4, .int 0, .int 0, .ref q5, .int 0, .ref q6, .int 0, .int 0, .int 0, .int 0, .null, .null, .null, .null, .null, .null])), (q1, .inl (cI, 12, .inl fun _ => 0)), (q2, .inl (cI, 12, .inl fun _ => 0)), (q3, .inl (cI, 8, .inl fun _ => 0)), (q4, .inl (cI, 12, .inl fun _ => 0)), (q5, .inl (cI, 24, .inl fun _ => 0)), (q6, .inl (cI, 60, .inl fun _ => 0))] H := hP
  have hD : va_D A [(h, .inr (9, [.ref q1, .ref q2, .ref q3, .int 3, .int 5, .ref q4, .int 0, .int 0, .ref q5, .int 0, .ref q6, .int 0, .int 0, .int 0, .int 0, .null, .null, .null, .null, .null, .null])), (q1, .inl (cI, 12, .inl fun _ => 0)), (q2, .inl (cI, 12, .inl fun _ => 0)), (q3, .inl (cI, 8, .inl fun _ => 0)), (q4, .inl (cI, 12, .inl fun _ => 0)), (q5, .inl (cI, 24, .inl fun _ => 0)), (q6, .inl (cI, 60, .inl fun _ => 0))] := hD
  refine lv_aload_n hx hb dX9_init_62 rfl (lv_at hl 0 rfl) ?_
  refine lv_bipush (v := (100 : Int32)) hx hb dX9_init_63 (by decide) ?_
  refine va_newa (atype := .int) (ty := .int) (a0 := (100, .inl fun _ => 0)) hx hb (hz _ z1_65) rfl hK.1 hP hD hS hA (fun _ => rfl) (by decide) (by decide +kernel) (Nat.le_of_ble_eq_true rfl) (Nat.le_of_ble_eq_true rfl) (Nat.le_of_ble_eq_true rfl) dX9_init_65 (fun q7 cA H hKa hP hD hS => ?_)
  obtain rfl : cI = cA := z_clsI hKa 0 3 rfl rfl
  have hP : va_P D vwCl [(h, .inr (9, [.ref q1, .ref q2, .ref q3, .int 3, .int 5, .ref q4, .int 0, .int 0, .ref q5, .int 0, .ref q6, .int 0, .int 0, .int 0, .int 0, .null, .null, .null, .null, .null, .null])), (q1, .inl (cI, 12, .inl fun _ => 0)), (q2, .inl (cI, 12, .inl fun _ => 0)), (q3, .inl (cI, 8, .inl fun _ => 0)), (q4, .inl (cI, 12, .inl fun _ => 0)), (q5, .inl (cI, 24, .inl fun _ => 0)), (q6, .inl (cI, 60, .inl fun _ => 0)), (q7, .inl (cI, 100, .inl fun _ => 0))] H := hP
  have hD : va_D A [(h, .inr (9, [.ref q1, .ref q2, .ref q3, .int 3, .int 5, .ref q4, .int 0, .int 0, .ref q5, .int 0, .ref q6, .int 0, .int 0, .int 0, .int 0, .null, .null, .null, .null, .null, .null])), (q1, .inl (cI, 12, .inl fun _ => 0)), (q2, .inl (cI, 12, .inl fun _ => 0)), (q3, .inl (cI, 8, .inl fun _ => 0)), (q4, .inl (cI, 12, .inl fun _ => 0)), (q5, .inl (cI, 24, .inl fun _ => 0)), (q6, .inl (cI, 60, .inl fun _ => 0)), (q7, .inl (cI, 100, .inl fun _ => 0))] := hD
  refine va_putF (D := D) (ci := 9) (v := .ref q7) (ty := tyX9 15) (C := RX9) (T := TX9) (N := 21) hx hb hz hX_X9 tyX9 tyX9_ok nmX9 hown hK.1 hP hD hS 0 rfl rfl 15 (by decide) (hz _ z3_171) (fun _ h9 => h9) rfl hin rfl (tyX9_ok 15 (by decide)) rfl rfl (Nat.le_of_ble_eq_true rfl) dX9_init_67 (fun H locs hP hD hS => ?_)
  have hP : va_P D vwCl [(h, .inr (9, [.ref q1, .ref q2, .ref q3, .int 3, .int 5, .ref q4, .int 0, .int 0, .ref q5, .int 0, .ref q6, .int 0, .int 0, .int 0, .int 0, .ref q7, .null, .null, .null, .null, .null])), (q1, .inl (cI, 12, .inl fun _ => 0)), (q2, .inl (cI, 12, .inl fun _ => 0)), (q3, .inl (cI, 8, .inl fun _ => 0)), (q4, .inl (cI, 12, .inl fun _ => 0)), (q5, .inl (cI, 24, .inl fun _ => 0)), (q6, .inl (cI, 60, .inl fun _ => 0)), (q7, .inl (cI, 100, .inl fun _ => 0))] H := hP
  have hD : va_D A [(h, .inr (9, [.ref q1, .ref q2, .ref q3, .int 3, .int 5, .ref q4, .int 0, .int 0, .ref q5, .int 0, .ref q6, .int 0, .int 0, .int 0, .int 0, .ref q7, .null, .null, .null, .null, .null])), (q1, .inl (cI, 12, .inl fun _ => 0)), (q2, .inl (cI, 12, .inl fun _ => 0)), (q3, .inl (cI, 8, .inl fun _ => 0)), (q4, .inl (cI, 12, .inl fun _ => 0)), (q5, .inl (cI, 24, .inl fun _ => 0)), (q6, .inl (cI, 60, .inl fun _ => 0)), (q7, .inl (cI, 100, .inl fun _ => 0))] := hD
  refine lv_aload_n hx hb dX9_init_70 rfl (lv_at hl 0 rfl) ?_
  refine lv_sipush (v := (1722 : Int32)) hx hb dX9_init_71 (by decide) ?_
  refine va_newa (atype := .int) (ty := .int) (a0 := (1722, .inl fun _ => 0)) hx hb (hz _ z1_65) rfl hK.1 hP hD hS hA (fun _ => rfl) (by decide) (by decide +kernel) (Nat.le_of_ble_eq_true rfl) (Nat.le_of_ble_eq_true rfl) (Nat.le_of_ble_eq_true rfl) dX9_init_74 (fun q8 cA H hKa hP hD hS => ?_)
  obtain rfl : cI = cA := z_clsI hKa 0 3 rfl rfl
  have hP : va_P D vwCl [(h, .inr (9, [.ref q1, .ref q2, .ref q3, .int 3, .int 5, .ref q4, .int 0, .int 0, .ref q5, .int 0, .ref q6, .int 0, .int 0, .int 0, .int 0, .ref q7, .null, .null, .null, .null, .null])), (q1, .inl (cI, 12, .inl fun _ => 0)), (q2, .inl (cI, 12, .inl fun _ => 0)), (q3, .inl (cI, 8, .inl fun _ => 0)), (q4, .inl (cI, 12, .inl fun _ => 0)), (q5, .inl (cI, 24, .inl fun _ => 0)), (q6, .inl (cI, 60, .inl fun _ => 0)), (q7, .inl (cI, 100, .inl fun _ => 0)), (q8, .inl (cI, 1722, .inl fun _ => 0))] H := hP
  have hD : va_D A [(h, .inr (9, [.ref q1, .ref q2, .ref q3, .int 3, .int 5, .ref q4, .int 0, .int 0, .ref q5, .int 0, .ref q6, .int 0, .int 0, .int 0, .int 0, .ref q7, .null, .null, .null, .null, .null])), (q1, .inl (cI, 12, .inl fun _ => 0)), (q2, .inl (cI, 12, .inl fun _ => 0)), (q3, .inl (cI, 8, .inl fun _ => 0)), (q4, .inl (cI, 12, .inl fun _ => 0)), (q5, .inl (cI, 24, .inl fun _ => 0)), (q6, .inl (cI, 60, .inl fun _ => 0)), (q7, .inl (cI, 100, .inl fun _ => 0)), (q8, .inl (cI, 1722, .inl fun _ => 0))] := hD
  refine va_putF (D := D) (ci := 9) (v := .ref q8) (ty := tyX9 16) (C := RX9) (T := TX9) (N := 21) hx hb hz hX_X9 tyX9 tyX9_ok nmX9 hown hK.1 hP hD hS 0 rfl rfl 16 (by decide) (hz _ z3_172) (fun _ h9 => h9) rfl hin rfl (tyX9_ok 16 (by decide)) rfl rfl (Nat.le_of_ble_eq_true rfl) dX9_init_76 (fun H locs hP hD hS => ?_)
  have hP : va_P D vwCl [(h, .inr (9, [.ref q1, .ref q2, .ref q3, .int 3, .int 5, .ref q4, .int 0, .int 0, .ref q5, .int 0, .ref q6, .int 0, .int 0, .int 0, .int 0, .ref q7, .ref q8, .null, .null, .null, .null])), (q1, .inl (cI, 12, .inl fun _ => 0)), (q2, .inl (cI, 12, .inl fun _ => 0)), (q3, .inl (cI, 8, .inl fun _ => 0)), (q4, .inl (cI, 12, .inl fun _ => 0)), (q5, .inl (cI, 24, .inl fun _ => 0)), (q6, .inl (cI, 60, .inl fun _ => 0)), (q7, .inl (cI, 100, .inl fun _ => 0)), (q8, .inl (cI, 1722, .inl fun _ => 0))] H := hP
  have hD : va_D A [(h, .inr (9, [.ref q1, .ref q2, .ref q3, .int 3, .int 5, .ref q4, .int 0, .int 0, .ref q5, .int 0, .ref q6, .int 0, .int 0, .int 0, .int 0, .ref q7, .ref q8, .null, .null, .null, .null])), (q1, .inl (cI, 12, .inl fun _ => 0)), (q2, .inl (cI, 12, .inl fun _ => 0)), (q3, .inl (cI, 8, .inl fun _ => 0)), (q4, .inl (cI, 12, .inl fun _ => 0)), (q5, .inl (cI, 24, .inl fun _ => 0)), (q6, .inl (cI, 60, .inl fun _ => 0)), (q7, .inl (cI, 100, .inl fun _ => 0)), (q8, .inl (cI, 1722, .inl fun _ => 0))] := hD
  refine lv_aload_n hx hb dX9_init_79 rfl (lv_at hl 0 rfl) ?_
  refine lv_bipush (v := (100 : Int32)) hx hb dX9_init_80 (by decide) ?_
  refine va_newa (atype := .int) (ty := .int) (a0 := (100, .inl fun _ => 0)) hx hb (hz _ z1_65) rfl hK.1 hP hD hS hA (fun _ => rfl) (by decide) (by decide +kernel) (Nat.le_of_ble_eq_true rfl) (Nat.le_of_ble_eq_true rfl) (Nat.le_of_ble_eq_true rfl) dX9_init_82 (fun q9 cA H hKa hP hD hS => ?_)
  obtain rfl : cI = cA := z_clsI hKa 0 3 rfl rfl
  have hP : va_P D vwCl [(h, .inr (9, [.ref q1, .ref q2, .ref q3, .int 3, .int 5, .ref q4, .int 0, .int 0, .ref q5, .int 0, .ref q6, .int 0, .int 0, .int 0, .int 0, .ref q7, .ref q8, .null, .null, .null, .null])), (q1, .inl (cI, 12, .inl fun _ => 0)), (q2, .inl (cI, 12, .inl fun _ => 0)), (q3, .inl (cI, 8, .inl fun _ => 0)), (q4, .inl (cI, 12, .inl fun _ => 0)), (q5, .inl (cI, 24, .inl fun _ => 0)), (q6, .inl (cI, 60, .inl fun _ => 0)), (q7, .inl (cI, 100, .inl fun _ => 0)), (q8, .inl (cI, 1722, .inl fun _ => 0)), (q9, .inl (cI, 100, .inl fun _ => 0))] H := hP
  have hD : va_D A [(h, .inr (9, [.ref q1, .ref q2, .ref q3, .int 3, .int 5, .ref q4, .int 0, .int 0, .ref q5, .int 0, .ref q6, .int 0, .int 0, .int 0, .int 0, .ref q7, .ref q8, .null, .null, .null, .null])), (q1, .inl (cI, 12, .inl fun _ => 0)), (q2, .inl (cI, 12, .inl fun _ => 0)), (q3, .inl (cI, 8, .inl fun _ => 0)), (q4, .inl (cI, 12, .inl fun _ => 0)), (q5, .inl (cI, 24, .inl fun _ => 0)), (q6, .inl (cI, 60, .inl fun _ => 0)), (q7, .inl (cI, 100, .inl fun _ => 0)), (q8, .inl (cI, 1722, .inl fun _ => 0)), (q9, .inl (cI, 100, .inl fun _ => 0))] := hD
  refine va_putF (D := D) (ci := 9) (v := .ref q9) (ty := tyX9 17) (C := RX9) (T := TX9) (N := 21) hx hb hz hX_X9 tyX9 tyX9_ok nmX9 hown hK.1 hP hD hS 0 rfl rfl 17 (by decide) (hz _ z3_173) (fun _ h9 => h9) rfl hin rfl (tyX9_ok 17 (by decide)) rfl rfl (Nat.le_of_ble_eq_true rfl) dX9_init_84 (fun H locs hP hD hS => ?_)
  have hP : va_P D vwCl [(h, .inr (9, [.ref q1, .ref q2, .ref q3, .int 3, .int 5, .ref q4, .int 0, .int 0, .ref q5, .int 0, .ref q6, .int 0, .int 0, .int 0, .int 0, .ref q7, .ref q8, .ref q9, .null, .null, .null])), (q1, .inl (cI, 12, .inl fun _ => 0)), (q2, .inl (cI, 12, .inl fun _ => 0)), (q3, .inl (cI, 8, .inl fun _ => 0)), (q4, .inl (cI, 12, .inl fun _ => 0)), (q5, .inl (cI, 24, .inl fun _ => 0)), (q6, .inl (cI, 60, .inl fun _ => 0)), (q7, .inl (cI, 100, .inl fun _ => 0)), (q8, .inl (cI, 1722, .inl fun _ => 0)), (q9, .inl (cI, 100, .inl fun _ => 0))] H := hP
  have hD : va_D A [(h, .inr (9, [.ref q1, .ref q2, .ref q3, .int 3, .int 5, .ref q4, .int 0, .int 0, .ref q5, .int 0, .ref q6, .int 0, .int 0, .int 0, .int 0, .ref q7, .ref q8, .ref q9, .null, .null, .null])), (q1, .inl (cI, 12, .inl fun _ => 0)), (q2, .inl (cI, 12, .inl fun _ => 0)), (q3, .inl (cI, 8, .inl fun _ => 0)), (q4, .inl (cI, 12, .inl fun _ => 0)), (q5, .inl (cI, 24, .inl fun _ => 0)), (q6, .inl (cI, 60, .inl fun _ => 0)), (q7, .inl (cI, 100, .inl fun _ => 0)), (q8, .inl (cI, 1722, .inl fun _ => 0)), (q9, .inl (cI, 100, .inl fun _ => 0))] := hD
  refine lv_aload_n hx hb dX9_init_87 rfl (lv_at hl 0 rfl) ?_
  refine lv_sipush (v := (10000 : Int32)) hx hb dX9_init_88 (by decide) ?_
  refine va_newa (atype := .int) (ty := .int) (a0 := (10000, .inl fun _ => 0)) hx hb (hz _ z1_65) rfl hK.1 hP hD hS hA (fun _ => rfl) (by decide) (by decide +kernel) (Nat.le_of_ble_eq_true rfl) (Nat.le_of_ble_eq_true rfl) (Nat.le_of_ble_eq_true rfl) dX9_init_91 (fun q10 cA H hKa hP hD hS => ?_)
  obtain rfl : cI = cA := z_clsI hKa 0 3 rfl rfl
  have hP : va_P D vwCl [(h, .inr (9, [.ref q1, .ref q2, .ref q3, .int 3, .int 5, .ref q4, .int 0, .int 0, .ref q5, .int 0, .ref q6, .int 0, .int 0, .int 0, .int 0, .ref q7, .ref q8, .ref q9, .null, .null, .null])), (q1, .inl (cI, 12, .inl fun _ => 0)), (q2, .inl (cI, 12, .inl fun _ => 0)), (q3, .inl (cI, 8, .inl fun _ => 0)), (q4, .inl (cI, 12, .inl fun _ => 0)), (q5, .inl (cI, 24, .inl fun _ => 0)), (q6, .inl (cI, 60, .inl fun _ => 0)), (q7, .inl (cI, 100, .inl fun _ => 0)), (q8, .inl (cI, 1722, .inl fun _ => 0)), (q9, .inl (cI, 100, .inl fun _ => 0)), (q10, .inl (cI, 10000, .inl fun _ => 0))] H := hP
  have hD : va_D A [(h, .inr (9, [.ref q1, .ref q2, .ref q3, .int 3, .int 5, .ref q4, .int 0, .int 0, .ref q5, .int 0, .ref q6, .int 0, .int 0, .int 0, .int 0, .ref q7, .ref q8, .ref q9, .null, .null, .null])), (q1, .inl (cI, 12, .inl fun _ => 0)), (q2, .inl (cI, 12, .inl fun _ => 0)), (q3, .inl (cI, 8, .inl fun _ => 0)), (q4, .inl (cI, 12, .inl fun _ => 0)), (q5, .inl (cI, 24, .inl fun _ => 0)), (q6, .inl (cI, 60, .inl fun _ => 0)), (q7, .inl (cI, 100, .inl fun _ => 0)), (q8, .inl (cI, 1722, .inl fun _ => 0)), (q9, .inl (cI, 100, .inl fun _ => 0)), (q10, .inl (cI, 10000, .inl fun _ => 0))] := hD
  refine va_putF (D := D) (ci := 9) (v := .ref q10) (ty := tyX9 18) (C := RX9) (T := TX9) (N := 21) hx hb hz hX_X9 tyX9 tyX9_ok nmX9 hown hK.1 hP hD hS 0 rfl rfl 18 (by decide) (hz _ z3_174) (fun _ h9 => h9) rfl hin rfl (tyX9_ok 18 (by decide)) rfl rfl (Nat.le_of_ble_eq_true rfl) dX9_init_93 (fun H locs hP hD hS => ?_)
  have hP : va_P D vwCl [(h, .inr (9, [.ref q1, .ref q2, .ref q3, .int 3, .int 5, .ref q4, .int 0, .int 0, .ref q5, .int 0, .ref q6, .int 0, .int 0, .int 0, .int 0, .ref q7, .ref q8, .ref q9, .ref q10, .null, .null])), (q1, .inl (cI, 12, .inl fun _ => 0)), (q2, .inl (cI, 12, .inl fun _ => 0)), (q3, .inl (cI, 8, .inl fun _ => 0)), (q4, .inl (cI, 12, .inl fun _ => 0)), (q5, .inl (cI, 24, .inl fun _ => 0)), (q6, .inl (cI, 60, .inl fun _ => 0)), (q7, .inl (cI, 100, .inl fun _ => 0)), (q8, .inl (cI, 1722, .inl fun _ => 0)), (q9, .inl (cI, 100, .inl fun _ => 0)), (q10, .inl (cI, 10000, .inl fun _ => 0))] H := hP
  have hD : va_D A [(h, .inr (9, [.ref q1, .ref q2, .ref q3, .int 3, .int 5, .ref q4, .int 0, .int 0, .ref q5, .int 0, .ref q6, .int 0, .int 0, .int 0, .int 0, .ref q7, .ref q8, .ref q9, .ref q10, .null, .null])), (q1, .inl (cI, 12, .inl fun _ => 0)), (q2, .inl (cI, 12, .inl fun _ => 0)), (q3, .inl (cI, 8, .inl fun _ => 0)), (q4, .inl (cI, 12, .inl fun _ => 0)), (q5, .inl (cI, 24, .inl fun _ => 0)), (q6, .inl (cI, 60, .inl fun _ => 0)), (q7, .inl (cI, 100, .inl fun _ => 0)), (q8, .inl (cI, 1722, .inl fun _ => 0)), (q9, .inl (cI, 100, .inl fun _ => 0)), (q10, .inl (cI, 10000, .inl fun _ => 0))] := hD
  refine lv_aload_n hx hb dX9_init_96 rfl (lv_at hl 0 rfl) ?_
  refine lv_sipush (v := (140 : Int32)) hx hb dX9_init_97 (by decide) ?_
  refine va_newa (atype := .int) (ty := .int) (a0 := (140, .inl fun _ => 0)) hx hb (hz _ z1_65) rfl hK.1 hP hD hS hA (fun _ => rfl) (by decide) (by decide +kernel) (Nat.le_of_ble_eq_true rfl) (Nat.le_of_ble_eq_true rfl) (Nat.le_of_ble_eq_true rfl) dX9_init_100 (fun q11 cA H hKa hP hD hS => ?_)
  obtain rfl : cI = cA := z_clsI hKa 0 3 rfl rfl
  have hP : va_P D vwCl [(h, .inr (9, [.ref q1, .ref q2, .ref q3, .int 3, .int 5, .ref q4, .int 0, .int 0, .ref q5, .int 0, .ref q6, .int 0, .int 0, .int 0, .int 0, .ref q7, .ref q8, .ref q9, .ref q10, .null, .null])), (q1, .inl (cI, 12, .inl fun _ => 0)), (q2, .inl (cI, 12, .inl fun _ => 0)), (q3, .inl (cI, 8, .inl fun _ => 0)), (q4, .inl (cI, 12, .inl fun _ => 0)), (q5, .inl (cI, 24, .inl fun _ => 0)), (q6, .inl (cI, 60, .inl fun _ => 0)), (q7, .inl (cI, 100, .inl fun _ => 0)), (q8, .inl (cI, 1722, .inl fun _ => 0)), (q9, .inl (cI, 100, .inl fun _ => 0)), (q10, .inl (cI, 10000, .inl fun _ => 0)), (q11, .inl (cI, 140, .inl fun _ => 0))] H := hP
  have hD : va_D A [(h, .inr (9, [.ref q1, .ref q2, .ref q3, .int 3, .int 5, .ref q4, .int 0, .int 0, .ref q5, .int 0, .ref q6, .int 0, .int 0, .int 0, .int 0, .ref q7, .ref q8, .ref q9, .ref q10, .null, .null])), (q1, .inl (cI, 12, .inl fun _ => 0)), (q2, .inl (cI, 12, .inl fun _ => 0)), (q3, .inl (cI, 8, .inl fun _ => 0)), (q4, .inl (cI, 12, .inl fun _ => 0)), (q5, .inl (cI, 24, .inl fun _ => 0)), (q6, .inl (cI, 60, .inl fun _ => 0)), (q7, .inl (cI, 100, .inl fun _ => 0)), (q8, .inl (cI, 1722, .inl fun _ => 0)), (q9, .inl (cI, 100, .inl fun _ => 0)), (q10, .inl (cI, 10000, .inl fun _ => 0)), (q11, .inl (cI, 140, .inl fun _ => 0))] := hD
  refine va_putF (D := D) (ci := 9) (v := .ref q11) (ty := tyX9 19) (C := RX9) (T := TX9) (N := 21) hx hb hz hX_X9 tyX9 tyX9_ok nmX9 hown hK.1 hP hD hS 0 rfl rfl 19 (by decide) (hz _ z3_175) (fun _ h9 => h9) rfl hin rfl (tyX9_ok 19 (by decide)) rfl rfl (Nat.le_of_ble_eq_true rfl) dX9_init_102 (fun H locs hP hD hS => ?_)
  have hP : va_P D vwCl [(h, .inr (9, [.ref q1, .ref q2, .ref q3, .int 3, .int 5, .ref q4, .int 0, .int 0, .ref q5, .int 0, .ref q6, .int 0, .int 0, .int 0, .int 0, .ref q7, .ref q8, .ref q9, .ref q10, .ref q11, .null])), (q1, .inl (cI, 12, .inl fun _ => 0)), (q2, .inl (cI, 12, .inl fun _ => 0)), (q3, .inl (cI, 8, .inl fun _ => 0)), (q4, .inl (cI, 12, .inl fun _ => 0)), (q5, .inl (cI, 24, .inl fun _ => 0)), (q6, .inl (cI, 60, .inl fun _ => 0)), (q7, .inl (cI, 100, .inl fun _ => 0)), (q8, .inl (cI, 1722, .inl fun _ => 0)), (q9, .inl (cI, 100, .inl fun _ => 0)), (q10, .inl (cI, 10000, .inl fun _ => 0)), (q11, .inl (cI, 140, .inl fun _ => 0))] H := hP
  have hD : va_D A [(h, .inr (9, [.ref q1, .ref q2, .ref q3, .int 3, .int 5, .ref q4, .int 0, .int 0, .ref q5, .int 0, .ref q6, .int 0, .int 0, .int 0, .int 0, .ref q7, .ref q8, .ref q9, .ref q10, .ref q11, .null])), (q1, .inl (cI, 12, .inl fun _ => 0)), (q2, .inl (cI, 12, .inl fun _ => 0)), (q3, .inl (cI, 8, .inl fun _ => 0)), (q4, .inl (cI, 12, .inl fun _ => 0)), (q5, .inl (cI, 24, .inl fun _ => 0)), (q6, .inl (cI, 60, .inl fun _ => 0)), (q7, .inl (cI, 100, .inl fun _ => 0)), (q8, .inl (cI, 1722, .inl fun _ => 0)), (q9, .inl (cI, 100, .inl fun _ => 0)), (q10, .inl (cI, 10000, .inl fun _ => 0)), (q11, .inl (cI, 140, .inl fun _ => 0))] := hD
  refine lv_aload_n hx hb dX9_init_105 rfl (lv_at hl 0 rfl) ?_
  refine lv_iconst (v := (2 : Int32)) hx hb dX9_init_106 (by decide) ?_
  refine va_newa (atype := .boolean) (ty := .boolean) (a0 := (2, .inl fun _ => 0)) hx hb (hz _ z3_220) rfl hK.1 hP hD hS hA (fun _ => rfl) (by decide) (by decide +kernel) (Nat.le_of_ble_eq_true rfl) (Nat.le_of_ble_eq_true rfl) (Nat.le_of_ble_eq_true rfl) dX9_init_107 (fun q12 cA H hKa hP hD hS => ?_)
  obtain rfl : cZ = cA := z_clsZ hKa 2 3 rfl rfl
  have hP : va_P D vwCl [(h, .inr (9, [.ref q1, .ref q2, .ref q3, .int 3, .int 5, .ref q4, .int 0, .int 0, .ref q5, .int 0, .ref q6, .int 0, .int 0, .int 0, .int 0, .ref q7, .ref q8, .ref q9, .ref q10, .ref q11, .null])), (q1, .inl (cI, 12, .inl fun _ => 0)), (q2, .inl (cI, 12, .inl fun _ => 0)), (q3, .inl (cI, 8, .inl fun _ => 0)), (q4, .inl (cI, 12, .inl fun _ => 0)), (q5, .inl (cI, 24, .inl fun _ => 0)), (q6, .inl (cI, 60, .inl fun _ => 0)), (q7, .inl (cI, 100, .inl fun _ => 0)), (q8, .inl (cI, 1722, .inl fun _ => 0)), (q9, .inl (cI, 100, .inl fun _ => 0)), (q10, .inl (cI, 10000, .inl fun _ => 0)), (q11, .inl (cI, 140, .inl fun _ => 0)), (q12, .inl (cZ, 2, .inl fun _ => 0))] H := hP
  have hD : va_D A [(h, .inr (9, [.ref q1, .ref q2, .ref q3, .int 3, .int 5, .ref q4, .int 0, .int 0, .ref q5, .int 0, .ref q6, .int 0, .int 0, .int 0, .int 0, .ref q7, .ref q8, .ref q9, .ref q10, .ref q11, .null])), (q1, .inl (cI, 12, .inl fun _ => 0)), (q2, .inl (cI, 12, .inl fun _ => 0)), (q3, .inl (cI, 8, .inl fun _ => 0)), (q4, .inl (cI, 12, .inl fun _ => 0)), (q5, .inl (cI, 24, .inl fun _ => 0)), (q6, .inl (cI, 60, .inl fun _ => 0)), (q7, .inl (cI, 100, .inl fun _ => 0)), (q8, .inl (cI, 1722, .inl fun _ => 0)), (q9, .inl (cI, 100, .inl fun _ => 0)), (q10, .inl (cI, 10000, .inl fun _ => 0)), (q11, .inl (cI, 140, .inl fun _ => 0)), (q12, .inl (cZ, 2, .inl fun _ => 0))] := hD
  refine va_putF (D := D) (ci := 9) (v := .ref q12) (ty := tyX9 20) (C := RX9) (T := TX9) (N := 21) hx hb hz hX_X9 tyX9 tyX9_ok nmX9 hown hK.1 hP hD hS 0 rfl rfl 20 (by decide) (hz _ z3_176) (fun _ h9 => h9) rfl hin rfl (tyX9_ok 20 (by decide)) rfl rfl (Nat.le_of_ble_eq_true rfl) dX9_init_109 (fun H locs hP hD hS => ?_)
  have hP : va_P D vwCl [(h, .inr (9, [.ref q1, .ref q2, .ref q3, .int 3, .int 5, .ref q4, .int 0, .int 0, .ref q5, .int 0, .ref q6, .int 0, .int 0, .int 0, .int 0, .ref q7, .ref q8, .ref q9, .ref q10, .ref q11, .ref q12])), (q1, .inl (cI, 12, .inl fun _ => 0)), (q2, .inl (cI, 12, .inl fun _ => 0)), (q3, .inl (cI, 8, .inl fun _ => 0)), (q4, .inl (cI, 12, .inl fun _ => 0)), (q5, .inl (cI, 24, .inl fun _ => 0)), (q6, .inl (cI, 60, .inl fun _ => 0)), (q7, .inl (cI, 100, .inl fun _ => 0)), (q8, .inl (cI, 1722, .inl fun _ => 0)), (q9, .inl (cI, 100, .inl fun _ => 0)), (q10, .inl (cI, 10000, .inl fun _ => 0)), (q11, .inl (cI, 140, .inl fun _ => 0)), (q12, .inl (cZ, 2, .inl fun _ => 0))] H := hP
  have hD : va_D A [(h, .inr (9, [.ref q1, .ref q2, .ref q3, .int 3, .int 5, .ref q4, .int 0, .int 0, .ref q5, .int 0, .ref q6, .int 0, .int 0, .int 0, .int 0, .ref q7, .ref q8, .ref q9, .ref q10, .ref q11, .ref q12])), (q1, .inl (cI, 12, .inl fun _ => 0)), (q2, .inl (cI, 12, .inl fun _ => 0)), (q3, .inl (cI, 8, .inl fun _ => 0)), (q4, .inl (cI, 12, .inl fun _ => 0)), (q5, .inl (cI, 24, .inl fun _ => 0)), (q6, .inl (cI, 60, .inl fun _ => 0)), (q7, .inl (cI, 100, .inl fun _ => 0)), (q8, .inl (cI, 1722, .inl fun _ => 0)), (q9, .inl (cI, 100, .inl fun _ => 0)), (q10, .inl (cI, 10000, .inl fun _ => 0)), (q11, .inl (cI, 140, .inl fun _ => 0)), (q12, .inl (cZ, 2, .inl fun _ => 0))] := hD
  refine W.widen (k := 12) (n := 12192) (Nat.le_of_ble_eq_true rfl) (Nat.le_of_ble_eq_true rfl) ?_
  exact W.vret hx hb hr (fun t ht hW => ⟨⟨⟨q1, q2, q3, q4, q5, q6, q7, q8, q9, q10, q11, q12⟩, rfl, trivial, by rw [ht]; exact hP, hD⟩, hS.F ht⟩) hS.2.2 dX9_init_112 hlocks
abbrev n_X8 (cI cC cW : ClassId) (h q1 q2 q3 q4 q5 q6 q7 q8 q9 q10 q11 q12 q13 q14 q15 q16 q17 q18 q19 q20 q21 : Nat) : va_W := [(h, .inr (8, [.ref q1, .ref q10, .ref q11, .ref q13, .ref q17, .ref q19])), (q1, .inr (7, [.ref q2, .ref q5, .ref q7])), (q2, .inr (1, [.ref q3, .ref q4, .int 0, .int 0, .int 0, .int 3, .int 5, .int 0])), (q3, .inl (cI, 8, .inl fun _ => 0)), (q4, .inl (cI, 8, .inl fun _ => 0)), (q5, .inr (6, [.ref q6, .int 0])), (q6, .inl (cI, 12, .inl fun _ => 0)), (q7, .inr (5, [.ref q8, .ref q9, .int 0])), (q8, .inl (cI, 8, .inl fun _ => 0)), (q9, .inl (cI, 8, .inl fun _ => 0)), (q10, .inl (cW, 2, .inr (.inr (.inr (.inr (fun _ => none)))))), (q11, .inr (4, [.ref q12, .int 0])), (q12, .inl (cC, 60, .inl fun _ => 0)), (q13, .inr (3, [.ref q14, .int 0, .int 0, .int 0, .int 0])), (q14, .inr (1, [.ref q15, .ref q16, .int 0, .int 0, .int 0, .int 3, .int 5, .int 0])), (q15, .inl (cI, 8, .inl fun _ => 0)), (q16, .inl (cI, 8, .inl fun _ => 0)), (q17, .inr (0, [.ref q18])), (q18, .inl (cI, 100, .inl fun _ => 0)), (q19, .inr (2, [.ref q20, .ref q21, .int 0])), (q20, .inl (cI, 100, .inl fun _ => 0)), (q21, .inl (cI, 46, .inl fun _ => 0))]
abbrev v_X8_init : List Cond := .code yX8_init cX8_init 1 none :: zB
theorem hfX8 : ∀ j, j < 6 → defaultValue (tyX8 j) = vp_V [.null, .null, .null, .null, .null, .null] j := fun j hj => match j, hj with
  | 0, _ => rfl
  | 1, _ => rfl
  | 2, _ => rfl
  | 3, _ => rfl
  | 4, _ => rfl
  | 5, _ => rfl
  | k + 6, h => absurd h (by omega)
set_option maxHeartbeats 4000000 in
set_option maxRecDepth 100000 in
theorem c_X8_init (l : Launch) (D : va_G) (cI cC cZ : ClassId) (h sz : Nat) : Met l yX8_init v_X8_init ({ frames := 3, cells := 21, slots := 403, locals := 60 } : Room) (va_Pc [.ref h] (zPre D (zT cI cC cZ) sz [(h, .inr (8, [.null, .null, .null, .null, .null, .null]))])) (va_Qv (S := ClassId × Nat × Nat × Nat × Nat × Nat × Nat × Nat × Nat × Nat × Nat × Nat × Nat × Nat × Nat × Nat × Nat × Nat × Nat × Nat × Nat × Nat) (fun _ => True) (fun u t => va_P D vwCl (n_X8 cI cC u.1 h u.2.1 u.2.2.1 u.2.2.2.1 u.2.2.2.2.1 u.2.2.2.2.2.1 u.2.2.2.2.2.2.1 u.2.2.2.2.2.2.2.1 u.2.2.2.2.2.2.2.2.1 u.2.2.2.2.2.2.2.2.2.1 u.2.2.2.2.2.2.2.2.2.2.1 u.2.2.2.2.2.2.2.2.2.2.2.1 u.2.2.2.2.2.2.2.2.2.2.2.2.1 u.2.2.2.2.2.2.2.2.2.2.2.2.2.1 u.2.2.2.2.2.2.2.2.2.2.2.2.2.2.1 u.2.2.2.2.2.2.2.2.2.2.2.2.2.2.2.1 u.2.2.2.2.2.2.2.2.2.2.2.2.2.2.2.2.1 u.2.2.2.2.2.2.2.2.2.2.2.2.2.2.2.2.2.1 u.2.2.2.2.2.2.2.2.2.2.2.2.2.2.2.2.2.2.1 u.2.2.2.2.2.2.2.2.2.2.2.2.2.2.2.2.2.2.2.1 u.2.2.2.2.2.2.2.2.2.2.2.2.2.2.2.2.2.2.2.2.1 u.2.2.2.2.2.2.2.2.2.2.2.2.2.2.2.2.2.2.2.2.2) t.heap ∧ va_D (va_A [(h, .inr (8, [.null, .null, .null, .null, .null, .null]))] sz) (n_X8 cI cC u.1 h u.2.1 u.2.2.1 u.2.2.2.1 u.2.2.2.2.1 u.2.2.2.2.2.1 u.2.2.2.2.2.2.1 u.2.2.2.2.2.2.2.1 u.2.2.2.2.2.2.2.2.1 u.2.2.2.2.2.2.2.2.2.1 u.2.2.2.2.2.2.2.2.2.2.1 u.2.2.2.2.2.2.2.2.2.2.2.1 u.2.2.2.2.2.2.2.2.2.2.2.2.1 u.2.2.2.2.2.2.2.2.2.2.2.2.2.1 u.2.2.2.2.2.2.2.2.2.2.2.2.2.2.1 u.2.2.2.2.2.2.2.2.2.2.2.2.2.2.2.1 u.2.2.2.2.2.2.2.2.2.2.2.2.2.2.2.2.1 u.2.2.2.2.2.2.2.2.2.2.2.2.2.2.2.2.2.1 u.2.2.2.2.2.2.2.2.2.2.2.2.2.2.2.2.2.2.1 u.2.2.2.2.2.2.2.2.2.2.2.2.2.2.2.2.2.2.2.1 u.2.2.2.2.2.2.2.2.2.2.2.2.2.2.2.2.2.2.2.2.1 u.2.2.2.2.2.2.2.2.2.2.2.2.2.2.2.2.2.2.2.2.2) ∧ va_K D vwCl [(u.1, .object RX7)] t) (va_A [(h, .inr (8, [.null, .null, .null, .null, .null, .null]))] sz)) 21 403 (va_A [(h, .inr (8, [.null, .null, .null, .null, .null, .null]))] sz) := by
  refine Met.ofW (cc := cX8_init) (maxL := 1) (ret := none) (by decide) rfl ?_
  intro p e s m args below meth c s₁ B hml hv
  obtain ⟨rfl, hsz, hP, hK, hD0⟩ := hv
  subst hsz
  have hx := B.exec
  have hb := B.bytes
  have hr := B.returns
  have hz : ∀ w ∈ zB, w.before _ s = true := fun w h => atoms_spec (ws := v_X8_init) B.pre w (List.mem_cons_of_mem _ h)
  have hown : s.vm.findClass RX8 = some m.cls := findClass_of_methodNamed B.named
  have hlocks := B.notSynchronized
  have hin : meth.name = "<init>" := (name_of_methodNamed B.named B.method).1
  have hF : CallFix p m c cX8_init 1 s (([.ref h] : List Value).toArray) zB RX8 := ⟨hx, hb, hml, hown, hz⟩
  have hD := hD0.self (sz := s.heap.size)
  generalize hAe : va_A [(h, .inr (8, [.null, .null, .null, .null, .null, .null]))] s.heap.size = A at hD ⊢
  have hA : ∀ q : Nat, s.heap.size ≤ q → A q := fun q h => by rw [← hAe]; exact Or.inr h
  have hS : va_S A s.heap s.heap [] := va_S.rf
  have hP : va_P D vwCl [(h, .inr (8, [.null, .null, .null, .null, .null, .null]))] s.heap := hP
  have hl := lv_entry ([.ref h]) (n := 1) (Nat.le_of_ble_eq_true rfl)
  rw [lg_entry_eq]
  generalize (lg_sl ([.ref h]) ++ List.replicate (1 - (lg_sl ([.ref h])).length) Slot.unset).toArray = ls at hl ⊢
  have hl : lv_has ls 1 [(0, .ref h)] := hl
  refine lv_aload_n hx hb dX8_init_0 rfl (lv_at hl 0 rfl) ?_
  refine W.objInit hx hb hown (hz _ z1_20) (hz _ z1_21) (hz _ z1_22) rfl (by rw [hml]; exact hl.1) rfl dX8_init_1 (Nat.le_of_ble_eq_true rfl) (Nat.le_of_ble_eq_true rfl) ?_
  refine W.eq (g2 := F0 m 4 ls []) rfl ?_
  refine lv_aload_n hx hb dX8_init_4 rfl (lv_at hl 0 rfl) ?_
  refine va_new (ci := 7) (fs := [.null, .null, .null]) (C := RX7) (T := TX7) (N := 3) hx hb hz hX_X7 tyX7 tyX7_ok hown (hz _ z1_23) (hz _ z1_24) (hz _ z1_2) hK.1 hP hD hS hA rfl hfX7 (Nat.le_of_ble_eq_true rfl) (Nat.le_of_ble_eq_true rfl) dX8_init_5 (fun q1 H hP hD hS => ?_)
  have hP : va_P D vwCl [(h, .inr (8, [.null, .null, .null, .null, .null, .null])), (q1, .inr (7, [.null, .null, .null]))] H := hP
  have hD : va_D A [(h, .inr (8, [.null, .null, .null, .null, .null, .null])), (q1, .inr (7, [.null, .null, .null]))] := hD
  refine lv_dup hx hb dX8_init_8 rfl ?_
  refine z_rn (S := Nat × Nat × Nat × Nat × Nat × Nat × Nat × Nat) (c1 := (fun u => n_X7 cI q1 u.1 u.2.1 u.2.2.1 u.2.2.2.1 u.2.2.2.2.1 u.2.2.2.2.2.1 u.2.2.2.2.2.2.1 u.2.2.2.2.2.2.2)) (z_runI (As := []) (rest := [.ref q1, .ref h]) hF (c_X7_init l D cI cC cZ q1 H.size) (cwI 0 hz (z_gN z1_27) rfl rfl rfl (hz _ z1_2) (hz _ z1_25) (hz _ z1_26) rfl (by decide +kernel) ⟨Nat.le_of_ble_eq_true rfl, Nat.le_of_ble_eq_true rfl⟩) hK hP hD [1] rfl rfl rfl hl.1 rfl (Nat.le_of_ble_eq_true rfl) dX8_init_9 ⟨Nat.le_of_ble_eq_true rfl, Nat.le_of_ble_eq_true rfl⟩) hP hD hS hA [1] [0] [(h, .inr (8, [.null, .null, .null, .null, .null, .null]))] rfl rfl rfl (by decide) (fun u9 H locs hP hD hS => ?_)
  obtain ⟨q2, q3, q4, q5, q6, q7, q8, q9⟩ := u9
  have hP : va_P D vwCl [(h, .inr (8, [.null, .null, .null, .null, .null, .null])), (q1, .inr (7, [.ref q2, .ref q5, .ref q7])), (q2, .inr (1, [.ref q3, .ref q4, .int 0, .int 0, .int 0, .int 3, .int 5, .int 0])), (q3, .inl (cI, 8, .inl fun _ => 0)), (q4, .inl (cI, 8, .inl fun _ => 0)), (q5, .inr (6, [.ref q6, .int 0])), (q6, .inl (cI, 12, .inl fun _ => 0)), (q7, .inr (5, [.ref q8, .ref q9, .int 0])), (q8, .inl (cI, 8, .inl fun _ => 0)), (q9, .inl (cI, 8, .inl fun _ => 0))] H := hP
  have hD : va_D A [(h, .inr (8, [.null, .null, .null, .null, .null, .null])), (q1, .inr (7, [.ref q2, .ref q5, .ref q7])), (q2, .inr (1, [.ref q3, .ref q4, .int 0, .int 0, .int 0, .int 3, .int 5, .int 0])), (q3, .inl (cI, 8, .inl fun _ => 0)), (q4, .inl (cI, 8, .inl fun _ => 0)), (q5, .inr (6, [.ref q6, .int 0])), (q6, .inl (cI, 12, .inl fun _ => 0)), (q7, .inr (5, [.ref q8, .ref q9, .int 0])), (q8, .inl (cI, 8, .inl fun _ => 0)), (q9, .inl (cI, 8, .inl fun _ => 0))] := hD
  refine va_putF (D := D) (ci := 8) (v := .ref q1) (ty := tyX8 0) (C := RX8) (T := TX8) (N := 6) hx hb hz hX_X8 tyX8 tyX8_ok nmX8 hown hK.1 hP hD hS 0 rfl rfl 0 (by decide) (hz _ z1_183) (fun _ h9 => h9) rfl hin rfl (tyX8_ok 0 (by decide)) rfl rfl (Nat.le_of_ble_eq_true rfl) dX8_init_12 (fun H locs hP hD hS => ?_)
  have hP : va_P D vwCl [(h, .inr (8, [.ref q1, .null, .null, .null, .null, .null])), (q1, .inr (7, [.ref q2, .ref q5, .ref q7])), (q2, .inr (1, [.ref q3, .ref q4, .int 0, .int 0, .int 0, .int 3, .int 5, .int 0])), (q3, .inl (cI, 8, .inl fun _ => 0)), (q4, .inl (cI, 8, .inl fun _ => 0)), (q5, .inr (6, [.ref q6, .int 0])), (q6, .inl (cI, 12, .inl fun _ => 0)), (q7, .inr (5, [.ref q8, .ref q9, .int 0])), (q8, .inl (cI, 8, .inl fun _ => 0)), (q9, .inl (cI, 8, .inl fun _ => 0))] H := hP
  have hD : va_D A [(h, .inr (8, [.ref q1, .null, .null, .null, .null, .null])), (q1, .inr (7, [.ref q2, .ref q5, .ref q7])), (q2, .inr (1, [.ref q3, .ref q4, .int 0, .int 0, .int 0, .int 3, .int 5, .int 0])), (q3, .inl (cI, 8, .inl fun _ => 0)), (q4, .inl (cI, 8, .inl fun _ => 0)), (q5, .inr (6, [.ref q6, .int 0])), (q6, .inl (cI, 12, .inl fun _ => 0)), (q7, .inr (5, [.ref q8, .ref q9, .int 0])), (q8, .inl (cI, 8, .inl fun _ => 0)), (q9, .inl (cI, 8, .inl fun _ => 0))] := hD
  refine lv_aload_n hx hb dX8_init_15 rfl (lv_at hl 0 rfl) ?_
  refine lv_iconst (v := (2 : Int32)) hx hb dX8_init_16 (by decide) ?_
  refine va_newq (C := RX7) (N' := 2) hx hb hown (hz _ z1_23) hK.2.2 hK.1 hP hD hS hA (by decide) (by decide +kernel) (Nat.le_of_ble_eq_true rfl) (Nat.le_of_ble_eq_true rfl) (Nat.le_of_ble_eq_true rfl) dX8_init_17 (fun q10 cW H hKW hP hD hS => ?_)
  have hP : va_P D vwCl [(h, .inr (8, [.ref q1, .null, .null, .null, .null, .null])), (q1, .inr (7, [.ref q2, .ref q5, .ref q7])), (q2, .inr (1, [.ref q3, .ref q4, .int 0, .int 0, .int 0, .int 3, .int 5, .int 0])), (q3, .inl (cI, 8, .inl fun _ => 0)), (q4, .inl (cI, 8, .inl fun _ => 0)), (q5, .inr (6, [.ref q6, .int 0])), (q6, .inl (cI, 12, .inl fun _ => 0)), (q7, .inr (5, [.ref q8, .ref q9, .int 0])), (q8, .inl (cI, 8, .inl fun _ => 0)), (q9, .inl (cI, 8, .inl fun _ => 0)), (q10, .inl (cW, 2, .inr (.inr (.inr (.inr (fun _ => none))))))] H := hP
  have hD : va_D A [(h, .inr (8, [.ref q1, .null, .null, .null, .null, .null])), (q1, .inr (7, [.ref q2, .ref q5, .ref q7])), (q2, .inr (1, [.ref q3, .ref q4, .int 0, .int 0, .int 0, .int 3, .int 5, .int 0])), (q3, .inl (cI, 8, .inl fun _ => 0)), (q4, .inl (cI, 8, .inl fun _ => 0)), (q5, .inr (6, [.ref q6, .int 0])), (q6, .inl (cI, 12, .inl fun _ => 0)), (q7, .inr (5, [.ref q8, .ref q9, .int 0])), (q8, .inl (cI, 8, .inl fun _ => 0)), (q9, .inl (cI, 8, .inl fun _ => 0)), (q10, .inl (cW, 2, .inr (.inr (.inr (.inr (fun _ => none))))))] := hD
  refine va_putF (D := D) (ci := 8) (v := .ref q10) (ty := tyX8 1) (C := RX8) (T := TX8) (N := 6) hx hb hz hX_X8 tyX8 tyX8_ok nmX8 hown hK.1 hP hD hS 0 rfl rfl 1 (by decide) (hz _ z1_184) (fun _ h9 => h9) rfl hin rfl (tyX8_ok 1 (by decide)) rfl rfl (Nat.le_of_ble_eq_true rfl) dX8_init_20 (fun H locs hP hD hS => ?_)
  have hP : va_P D vwCl [(h, .inr (8, [.ref q1, .ref q10, .null, .null, .null, .null])), (q1, .inr (7, [.ref q2, .ref q5, .ref q7])), (q2, .inr (1, [.ref q3, .ref q4, .int 0, .int 0, .int 0, .int 3, .int 5, .int 0])), (q3, .inl (cI, 8, .inl fun _ => 0)), (q4, .inl (cI, 8, .inl fun _ => 0)), (q5, .inr (6, [.ref q6, .int 0])), (q6, .inl (cI, 12, .inl fun _ => 0)), (q7, .inr (5, [.ref q8, .ref q9, .int 0])), (q8, .inl (cI, 8, .inl fun _ => 0)), (q9, .inl (cI, 8, .inl fun _ => 0)), (q10, .inl (cW, 2, .inr (.inr (.inr (.inr (fun _ => none))))))] H := hP
  have hD : va_D A [(h, .inr (8, [.ref q1, .ref q10, .null, .null, .null, .null])), (q1, .inr (7, [.ref q2, .ref q5, .ref q7])), (q2, .inr (1, [.ref q3, .ref q4, .int 0, .int 0, .int 0, .int 3, .int 5, .int 0])), (q3, .inl (cI, 8, .inl fun _ => 0)), (q4, .inl (cI, 8, .inl fun _ => 0)), (q5, .inr (6, [.ref q6, .int 0])), (q6, .inl (cI, 12, .inl fun _ => 0)), (q7, .inr (5, [.ref q8, .ref q9, .int 0])), (q8, .inl (cI, 8, .inl fun _ => 0)), (q9, .inl (cI, 8, .inl fun _ => 0)), (q10, .inl (cW, 2, .inr (.inr (.inr (.inr (fun _ => none))))))] := hD
  refine lv_aload_n hx hb dX8_init_23 rfl (lv_at hl 0 rfl) ?_
  refine va_new (ci := 4) (fs := [.null, .int 0]) (C := RX4) (T := TX4) (N := 2) hx hb hz hX_X4 tyX4 tyX4_ok hown (hz _ z1_111) (hz _ z1_112) (hz _ z1_6) hK.1 hP hD hS hA rfl hfX4 (Nat.le_of_ble_eq_true rfl) (Nat.le_of_ble_eq_true rfl) dX8_init_24 (fun q11 H hP hD hS => ?_)
  have hP : va_P D vwCl [(h, .inr (8, [.ref q1, .ref q10, .null, .null, .null, .null])), (q1, .inr (7, [.ref q2, .ref q5, .ref q7])), (q2, .inr (1, [.ref q3, .ref q4, .int 0, .int 0, .int 0, .int 3, .int 5, .int 0])), (q3, .inl (cI, 8, .inl fun _ => 0)), (q4, .inl (cI, 8, .inl fun _ => 0)), (q5, .inr (6, [.ref q6, .int 0])), (q6, .inl (cI, 12, .inl fun _ => 0)), (q7, .inr (5, [.ref q8, .ref q9, .int 0])), (q8, .inl (cI, 8, .inl fun _ => 0)), (q9, .inl (cI, 8, .inl fun _ => 0)), (q10, .inl (cW, 2, .inr (.inr (.inr (.inr (fun _ => none)))))), (q11, .inr (4, [.null, .int 0]))] H := hP
  have hD : va_D A [(h, .inr (8, [.ref q1, .ref q10, .null, .null, .null, .null])), (q1, .inr (7, [.ref q2, .ref q5, .ref q7])), (q2, .inr (1, [.ref q3, .ref q4, .int 0, .int 0, .int 0, .int 3, .int 5, .int 0])), (q3, .inl (cI, 8, .inl fun _ => 0)), (q4, .inl (cI, 8, .inl fun _ => 0)), (q5, .inr (6, [.ref q6, .int 0])), (q6, .inl (cI, 12, .inl fun _ => 0)), (q7, .inr (5, [.ref q8, .ref q9, .int 0])), (q8, .inl (cI, 8, .inl fun _ => 0)), (q9, .inl (cI, 8, .inl fun _ => 0)), (q10, .inl (cW, 2, .inr (.inr (.inr (.inr (fun _ => none)))))), (q11, .inr (4, [.null, .int 0]))] := hD
  refine lv_dup hx hb dX8_init_27 rfl ?_
  refine z_rn (S := Nat) (c1 := (fun u => n_X4 cC q11 u)) (z_runI (As := []) (rest := [.ref q11, .ref h]) hF (c_X4_init l D cI cC cZ q11 H.size) (cwI 0 hz (z_gN z1_115) rfl rfl rfl (hz _ z1_6) (hz _ z1_113) (hz _ z1_114) rfl (by decide +kernel) ⟨Nat.le_of_ble_eq_true rfl, Nat.le_of_ble_eq_true rfl⟩) hK hP hD [11] rfl rfl rfl hl.1 rfl (Nat.le_of_ble_eq_true rfl) dX8_init_28 ⟨Nat.le_of_ble_eq_true rfl, Nat.le_of_ble_eq_true rfl⟩) hP hD hS hA [11] [0, 1, 2, 3, 4, 5, 6, 7, 8, 9, 10] [(h, .inr (8, [.ref q1, .ref q10, .null, .null, .null, .null])), (q1, .inr (7, [.ref q2, .ref q5, .ref q7])), (q2, .inr (1, [.ref q3, .ref q4, .int 0, .int 0, .int 0, .int 3, .int 5, .int 0])), (q3, .inl (cI, 8, .inl fun _ => 0)), (q4, .inl (cI, 8, .inl fun _ => 0)), (q5, .inr (6, [.ref q6, .int 0])), (q6, .inl (cI, 12, .inl fun _ => 0)), (q7, .inr (5, [.ref q8, .ref q9, .int 0])), (q8, .inl (cI, 8, .inl fun _ => 0)), (q9, .inl (cI, 8, .inl fun _ => 0)), (q10, .inl (cW, 2, .inr (.inr (.inr (.inr (fun _ => none))))))] rfl rfl rfl (by decide) (fun u28 H locs hP hD hS => ?_)
  obtain ⟨q12, rfl⟩ : ∃ z, z = u28 := ⟨_, rfl⟩
  have hP : va_P D vwCl [(h, .inr (8, [.ref q1, .ref q10, .null, .null, .null, .null])), (q1, .inr (7, [.ref q2, .ref q5, .ref q7])), (q2, .inr (1, [.ref q3, .ref q4, .int 0, .int 0, .int 0, .int 3, .int 5, .int 0])), (q3, .inl (cI, 8, .inl fun _ => 0)), (q4, .inl (cI, 8, .inl fun _ => 0)), (q5, .inr (6, [.ref q6, .int 0])), (q6, .inl (cI, 12, .inl fun _ => 0)), (q7, .inr (5, [.ref q8, .ref q9, .int 0])), (q8, .inl (cI, 8, .inl fun _ => 0)), (q9, .inl (cI, 8, .inl fun _ => 0)), (q10, .inl (cW, 2, .inr (.inr (.inr (.inr (fun _ => none)))))), (q11, .inr (4, [.ref q12, .int 0])), (q12, .inl (cC, 60, .inl fun _ => 0))] H := hP
  have hD : va_D A [(h, .inr (8, [.ref q1, .ref q10, .null, .null, .null, .null])), (q1, .inr (7, [.ref q2, .ref q5, .ref q7])), (q2, .inr (1, [.ref q3, .ref q4, .int 0, .int 0, .int 0, .int 3, .int 5, .int 0])), (q3, .inl (cI, 8, .inl fun _ => 0)), (q4, .inl (cI, 8, .inl fun _ => 0)), (q5, .inr (6, [.ref q6, .int 0])), (q6, .inl (cI, 12, .inl fun _ => 0)), (q7, .inr (5, [.ref q8, .ref q9, .int 0])), (q8, .inl (cI, 8, .inl fun _ => 0)), (q9, .inl (cI, 8, .inl fun _ => 0)), (q10, .inl (cW, 2, .inr (.inr (.inr (.inr (fun _ => none)))))), (q11, .inr (4, [.ref q12, .int 0])), (q12, .inl (cC, 60, .inl fun _ => 0))] := hD
  refine va_putF (D := D) (ci := 8) (v := .ref q11) (ty := tyX8 2) (C := RX8) (T := TX8) (N := 6) hx hb hz hX_X8 tyX8 tyX8_ok nmX8 hown hK.1 hP hD hS 0 rfl rfl 2 (by decide) (hz _ z1_185) (fun _ h9 => h9) rfl hin rfl (tyX8_ok 2 (by decide)) rfl rfl (Nat.le_of_ble_eq_true rfl) dX8_init_31 (fun H locs hP hD hS => ?_)
  have hP : va_P D vwCl [(h, .inr (8, [.ref q1, .ref q10, .ref q11, .null, .null, .null])), (q1, .inr (7, [.ref q2, .ref q5, .ref q7])), (q2, .inr (1, [.ref q3, .ref q4, .int 0, .int 0, .int 0, .int 3, .int 5, .int 0])), (q3, .inl (cI, 8, .inl fun _ => 0)), (q4, .inl (cI, 8, .inl fun _ => 0)), (q5, .inr (6, [.ref q6, .int 0])), (q6, .inl (cI, 12, .inl fun _ => 0)), (q7, .inr (5, [.ref q8, .ref q9, .int 0])), (q8, .inl (cI, 8, .inl fun _ => 0)), (q9, .inl (cI, 8, .inl fun _ => 0)), (q10, .inl (cW, 2, .inr (.inr (.inr (.inr (fun _ => none)))))), (q11, .inr (4, [.ref q12, .int 0])), (q12, .inl (cC, 60, .inl fun _ => 0))] H := hP
  have hD : va_D A [(h, .inr (8, [.ref q1, .ref q10, .ref q11, .null, .null, .null])), (q1, .inr (7, [.ref q2, .ref q5, .ref q7])), (q2, .inr (1, [.ref q3, .ref q4, .int 0, .int 0, .int 0, .int 3, .int 5, .int 0])), (q3, .inl (cI, 8, .inl fun _ => 0)), (q4, .inl (cI, 8, .inl fun _ => 0)), (q5, .inr (6, [.ref q6, .int 0])), (q6, .inl (cI, 12, .inl fun _ => 0)), (q7, .inr (5, [.ref q8, .ref q9, .int 0])), (q8, .inl (cI, 8, .inl fun _ => 0)), (q9, .inl (cI, 8, .inl fun _ => 0)), (q10, .inl (cW, 2, .inr (.inr (.inr (.inr (fun _ => none)))))), (q11, .inr (4, [.ref q12, .int 0])), (q12, .inl (cC, 60, .inl fun _ => 0))] := hD
  refine lv_aload_n hx hb dX8_init_34 rfl (lv_at hl 0 rfl) ?_
  refine va_new (ci := 3) (fs := [.null, .int 0, .int 0, .int 0, .int 0]) (C := RX3) (T := TX3) (N := 5) hx hb hz hX_X3 tyX3 tyX3_ok hown (hz _ z1_127) (hz _ z1_128) (hz _ z1_7) hK.1 hP hD hS hA rfl hfX3 (Nat.le_of_ble_eq_true rfl) (Nat.le_of_ble_eq_true rfl) dX8_init_35 (fun q13 H hP hD hS => ?_)
  have hP : va_P D vwCl [(h, .inr (8, [.ref q1, .ref q10, .ref q11, .null, .null, .null])), (q1, .inr (7, [.ref q2, .ref q5, .ref q7])), (q2, .inr (1, [.ref q3, .ref q4, .int 0, .int 0, .int 0, .int 3, .int 5, .int 0])), (q3, .inl (cI, 8, .inl fun _ => 0)), (q4, .inl (cI, 8, .inl fun _ => 0)), (q5, .inr (6, [.ref q6, .int 0])), (q6, .inl (cI, 12, .inl fun _ => 0)), (q7, .inr (5, [.ref q8, .ref q9, .int 0])), (q8, .inl (cI, 8, .inl fun _ => 0)), (q9, .inl (cI, 8, .inl fun _ => 0)), (q10, .inl (cW, 2, .inr (.inr (.inr (.inr (fun _ => none)))))), (q11, .inr (4, [.ref q12, .int 0])), (q12, .inl (cC, 60, .inl fun _ => 0)), (q13, .inr (3, [.null, .int 0, .int 0, .int 0, .int 0]))] H := hP
  have hD : va_D A [(h, .inr (8, [.ref q1, .ref q10, .ref q11, .null, .null, .null])), (q1, .inr (7, [.ref q2, .ref q5, .ref q7])), (q2, .inr (1, [.ref q3, .ref q4, .int 0, .int 0, .int 0, .int 3, .int 5, .int 0])), (q3, .inl (cI, 8, .inl fun _ => 0)), (q4, .inl (cI, 8, .inl fun _ => 0)), (q5, .inr (6, [.ref q6, .int 0])), (q6, .inl (cI, 12, .inl fun _ => 0)), (q7, .inr (5, [.ref q8, .ref q9, .int 0])), (q8, .inl (cI, 8, .inl fun _ => 0)), (q9, .inl (cI, 8, .inl fun _ => 0)), (q10, .inl (cW, 2, .inr (.inr (.inr (.inr (fun _ => none)))))), (q11, .inr (4, [.ref q12, .int 0])), (q12, .inl (cC, 60, .inl fun _ => 0)), (q13, .inr (3, [.null, .int 0, .int 0, .int 0, .int 0]))] := hD
  refine lv_dup hx hb dX8_init_38 rfl ?_
  refine z_rn (S := Nat × Nat × Nat) (c1 := (fun u => n_X3 cI q13 u.1 u.2.1 u.2.2)) (z_runI (As := []) (rest := [.ref q13, .ref h]) hF (c_X3_init l D cI cC cZ q13 H.size) (cwI 0 hz (z_gN z1_131) rfl rfl rfl (hz _ z1_7) (hz _ z1_129) (hz _ z1_130) rfl (by decide +kernel) ⟨Nat.le_of_ble_eq_true rfl, Nat.le_of_ble_eq_true rfl⟩) hK hP hD [13] rfl rfl rfl hl.1 rfl (Nat.le_of_ble_eq_true rfl) dX8_init_39 ⟨Nat.le_of_ble_eq_true rfl, Nat.le_of_ble_eq_true rfl⟩) hP hD hS hA [13] [0, 1, 2, 3, 4, 5, 6, 7, 8, 9, 10, 11, 12] [(h, .inr (8, [.ref q1, .ref q10, .ref q11, .null, .null, .null])), (q1, .inr (7, [.ref q2, .ref q5, .ref q7])), (q2, .inr (1, [.ref q3, .ref q4, .int 0, .int 0, .int 0, .int 3, .int 5, .int 0])), (q3, .inl (cI, 8, .inl fun _ => 0)), (q4, .inl (cI, 8, .inl fun _ => 0)), (q5, .inr (6, [.ref q6, .int 0])), (q6, .inl (cI, 12, .inl fun _ => 0)), (q7, .inr (5, [.ref q8, .ref q9, .int 0])), (q8, .inl (cI, 8, .inl fun _ => 0)), (q9, .inl (cI, 8, .inl fun _ => 0)), (q10, .inl (cW, 2, .inr (.inr (.inr (.inr (fun _ => none)))))), (q11, .inr (4, [.ref q12, .int 0])), (q12, .inl (cC, 60, .inl fun _ => 0))] rfl rfl rfl (by decide) (fun u39 H locs hP hD hS => ?_)
  obtain ⟨q14, q15, q16⟩ := u39
  have hP : va_P D vwCl [(h, .inr (8, [.ref q1, .ref q10, .ref q11, .null, .null, .null])), (q1, .inr (7, [.ref q2, .ref q5, .ref q7])), (q2, .inr (1, [.ref q3, .ref q4, .int 0, .int 0, .int 0, .int 3, .int 5, .int 0])), (q3, .inl (cI, 8, .inl fun _ => 0)), (q4, .inl (cI, 8, .inl fun _ => 0)), (q5, .inr (6, [.ref q6, .int 0])), (q6, .inl (cI, 12, .inl fun _ => 0)), (q7, .inr (5, [.ref q8, .ref q9, .int 0])), (q8, .inl (cI, 8, .inl fun _ => 0)), (q9, .inl (cI, 8, .inl fun _ => 0)), (q10, .inl (cW, 2, .inr (.inr (.inr (.inr (fun _ => none)))))), (q11, .inr (4, [.ref q12, .int 0])), (q12, .inl (cC, 60, .inl fun _ => 0)), (q13, .inr (3, [.ref q14, .int 0, .int 0, .int 0, .int 0])), (q14, .inr (1, [.ref q15, .ref q16, .int 0, .int 0, .int 0, .int 3, .int 5, .int 0])), (q15, .inl (cI, 8, .inl fun _ => 0)), (q16, .inl (cI, 8, .inl fun _ => 0))] H := hP
  have hD : va_D A [(h, .inr (8, [.ref q1, .ref q10, .ref q11, .null, .null, .null])), (q1, .inr (7, [.ref q2, .ref q5, .ref q7])), (q2, .inr (1, [.ref q3, .ref q4, .int 0, .int 0, .int 0, .int 3, .int 5, .int 0])), (q3, .inl (cI, 8, .inl fun _ => 0)), (q4, .inl (cI, 8, .inl fun _ => 0)), (q5, .inr (6, [.ref q6, .int 0])), (q6, .inl (cI, 12, .inl fun _ => 0)), (q7, .inr (5, [.ref q8, .ref q9, .int 0])), (q8, .inl (cI, 8, .inl fun _ => 0)), (q9, .inl (cI, 8, .inl fun _ => 0)), (q10, .inl (cW, 2, .inr (.inr (.inr (.inr (fun _ => none)))))), (q11, .inr (4, [.ref q12, .int 0])), (q12, .inl (cC, 60, .inl fun _ => 0)), (q13, .inr (3, [.ref q14, .int 0, .int 0, .int 0, .int 0])), (q14, .inr (1, [.ref q15, .ref q16, .int 0, .int 0, .int 0, .int 3, .int 5, .int 0])), (q15, .inl (cI, 8, .inl fun _ => 0)), (q16, .inl (cI, 8, .inl fun _ => 0))] := hD
  refine va_putF (D := D) (ci := 8) (v := .ref q13) (ty := tyX8 3) (C := RX8) (T := TX8) (N := 6) hx hb hz hX_X8 tyX8 tyX8_ok nmX8 hown hK.1 hP hD hS 0 rfl rfl 3 (by decide) (hz _ z1_186) (fun _ h9 => h9) rfl hin rfl (tyX8_ok 3 (by decide)) rfl rfl (Nat.le_of_ble_eq_true rfl) dX8_init_42 (fun H locs hP hD hS => ?_)
  have hP : va_P D vwCl [(h, .inr (8, [.ref q1, .ref q10, .ref q11, .ref q13, .null, .null])), (q1, .inr (7, [.ref q2, .ref q5, .ref q7])), (q2, .inr (1, [.ref q3, .ref q4, .int 0, .int 0, .int 0, .int 3, .int 5, .int 0])), (q3, .inl (cI, 8, .inl fun _ => 0)), (q4, .inl (cI, 8, .inl fun _ => 0)), (q5, .inr (6, [.ref q6, .int 0])), (q6, .inl (cI, 12, .inl fun _ => 0)), (q7, .inr (5, [.ref q8, .ref q9, .int 0])), (q8, .inl (cI, 8, .inl fun _ => 0)), (q9, .inl (cI, 8, .inl fun _ => 0)), (q10, .inl (cW, 2, .inr (.inr (.inr (.inr (fun _ => none)))))), (q11, .inr (4, [.ref q12, .int 0])), (q12, .inl (cC, 60, .inl fun _ => 0)), (q13, .inr (3, [.ref q14, .int 0, .int 0, .int 0, .int 0])), (q14, .inr (1, [.ref q15, .ref q16, .int 0, .int 0, .int 0, .int 3, .int 5, .int 0])), (q15, .inl (cI, 8, .inl fun _ => 0)), (q16, .inl (cI, 8, .inl fun _ => 0))] H := hP
  have hD : va_D A [(h, .inr (8, [.ref q1, .ref q10, .ref q11, .ref q13, .null, .null])), (q1, .inr (7, [.ref q2, .ref q5, .ref q7])), (q2, .inr (1, [.ref q3, .ref q4, .int 0, .int 0, .int 0, .int 3, .int 5, .int 0])), (q3, .inl (cI, 8, .inl fun _ => 0)), (q4, .inl (cI, 8, .inl fun _ => 0)), (q5, .inr (6, [.ref q6, .int 0])), (q6, .inl (cI, 12, .inl fun _ => 0)), (q7, .inr (5, [.ref q8, .ref q9, .int 0])), (q8, .inl (cI, 8, .inl fun _ => 0)), (q9, .inl (cI, 8, .inl fun _ => 0)), (q10, .inl (cW, 2, .inr (.inr (.inr (.inr (fun _ => none)))))), (q11, .inr (4, [.ref q12, .int 0])), (q12, .inl (cC, 60, .inl fun _ => 0)), (q13, .inr (3, [.ref q14, .int 0, .int 0, .int 0, .int 0])), (q14, .inr (1, [.ref q15, .ref q16, .int 0, .int 0, .int 0, .int 3, .int 5, .int 0])), (q15, .inl (cI, 8, .inl fun _ => 0)), (q16, .inl (cI, 8, .inl fun _ => 0))] := hD
  refine lv_aload_n hx hb dX8_init_45 rfl (lv_at hl 0 rfl) ?_
  refine va_new (ci := 0) (fs := [.null]) (C := RX0) (T := TX0) (N := 1) hx hb hz hX_X0 tyX0 tyX0_ok hown (hz _ z1_156) (hz _ z1_157) (hz _ z1_8) hK.1 hP hD hS hA rfl hfX0 (Nat.le_of_ble_eq_true rfl) (Nat.le_of_ble_eq_true rfl) dX8_init_46 (fun q17 H hP hD hS => ?_)
  have hP : va_P D vwCl [(h, .inr (8, [.ref q1, .ref q10, .ref q11, .ref q13, .null, .null])), (q1, .inr (7, [.ref q2, .ref q5, .ref q7])), (q2, .inr (1, [.ref q3, .ref q4, .int 0, .int 0, .int 0, .int 3, .int 5, .int 0])), (q3, .inl (cI, 8, .inl fun _ => 0)), (q4, .inl (cI, 8, .inl fun _ => 0)), (q5, .inr (6, [.ref q6, .int 0])), (q6, .inl (cI, 12, .inl fun _ => 0)), (q7, .inr (5, [.ref q8, .ref q9, .int 0])), (q8, .inl (cI, 8, .inl fun _ => 0)), (q9, .inl (cI, 8, .inl fun _ => 0)), (q10, .inl (cW, 2, .inr (.inr (.inr (.inr (fun _ => none)))))), (q11, .inr (4, [.ref q12, .int 0])), (q12, .inl (cC, 60, .inl fun _ => 0)), (q13, .inr (3, [.ref q14, .int 0, .int 0, .int 0, .int 0])), (q14, .inr (1, [.ref q15, .ref q16, .int 0, .int 0, .int 0, .int 3, .int 5, .int 0])), (q15, .inl (cI, 8, .inl fun _ => 0)), (q16, .inl (cI, 8, .inl fun _ => 0)), (q17, .inr (0, [.null]))] H := hP
  have hD : va_D A [(h, .inr (8, [.ref q1, .ref q10, .ref q11, .ref q13, .null, .null])), (q1, .inr (7, [.ref q2, .ref q5, .ref q7])), (q2, .inr (1, [.ref q3, .ref q4, .int 0, .int 0, .int 0, .int 3, .int 5, .int 0])), (q3, .inl (cI, 8, .inl fun _ => 0)), (q4, .inl (cI, 8, .inl fun _ => 0)), (q5, .inr (6, [.ref q6, .int 0])), (q6, .inl (cI, 12, .inl fun _ => 0)), (q7, .inr (5, [.ref q8, .ref q9, .int 0])), (q8, .inl (cI, 8, .inl fun _ => 0)), (q9, .inl (cI, 8, .inl fun _ => 0)), (q10, .inl (cW, 2, .inr (.inr (.inr (.inr (fun _ => none)))))), (q11, .inr (4, [.ref q12, .int 0])), (q12, .inl (cC, 60, .inl fun _ => 0)), (q13, .inr (3, [.ref q14, .int 0, .int 0, .int 0, .int 0])), (q14, .inr (1, [.ref q15, .ref q16, .int 0, .int 0, .int 0, .int 3, .int 5, .int 0])), (q15, .inl (cI, 8, .inl fun _ => 0)), (q16, .inl (cI, 8, .inl fun _ => 0)), (q17, .inr (0, [.null]))] := hD
  refine lv_dup hx hb dX8_init_49 rfl ?_
  refine z_rn (S := Nat) (c1 := (fun u => n_X0 cI q17 u)) (z_runI (As := []) (rest := [.ref q17, .ref h]) hF (c_X0_init l D cI cC cZ q17 H.size) (cwI 0 hz (z_gN z1_160) rfl rfl rfl (hz _ z1_8) (hz _ z1_158) (hz _ z1_159) rfl (by decide +kernel) ⟨Nat.le_of_ble_eq_true rfl, Nat.le_of_ble_eq_true rfl⟩) hK hP hD [17] rfl rfl rfl hl.1 rfl (Nat.le_of_ble_eq_true rfl) dX8_init_50 ⟨Nat.le_of_ble_eq_true rfl, Nat.le_of_ble_eq_true rfl⟩) hP hD hS hA [17] [0, 1, 2, 3, 4, 5, 6, 7, 8, 9, 10, 11, 12, 13, 14, 15, 16] [(h, .inr (8, [.ref q1, .ref q10, .ref q11, .ref q13, .null, .null])), (q1, .inr (7, [.ref q2, .ref q5, .ref q7])), (q2, .inr (1, [.ref q3, .ref q4, .int 0, .int 0, .int 0, .int 3, .int 5, .int 0])), (q3, .inl (cI, 8, .inl fun _ => 0)), (q4, .inl (cI, 8, .inl fun _ => 0)), (q5, .inr (6, [.ref q6, .int 0])), (q6, .inl (cI, 12, .inl fun _ => 0)), (q7, .inr (5, [.ref q8, .ref q9, .int 0])), (q8, .inl (cI, 8, .inl fun _ => 0)), (q9, .inl (cI, 8, .inl fun _ => 0)), (q10, .inl (cW, 2, .inr (.inr (.inr (.inr (fun _ => none)))))), (q11, .inr (4, [.ref q12, .int 0])), (q12, .inl (cC, 60, .inl fun _ => 0)), (q13, .inr (3, [.ref q14, .int 0, .int 0, .int 0, .int 0])), (q14, .inr (1, [.ref q15, .ref q16, .int 0, .int 0, .int 0, .int 3, .int 5, .int 0])), (q15, .inl (cI, 8, .inl fun _ => 0)), (q16, .inl (cI, 8, .inl fun _ => 0))] rfl rfl rfl (by decide) (fun u50 H locs hP hD hS => ?_)
  obtain ⟨q18, rfl⟩ : ∃ z, z = u50 := ⟨_, rfl⟩
  have hP : va_P D vwCl [(h, .inr (8, [.ref q1, .ref q10, .ref q11, .ref q13, .null, .null])), (q1, .inr (7, [.ref q2, .ref q5, .ref q7])), (q2, .inr (1, [.ref q3, .ref q4, .int 0, .int 0, .int 0, .int 3, .int 5, .int 0])), (q3, .inl (cI, 8, .inl fun _ => 0)), (q4, .inl (cI, 8, .inl fun _ => 0)), (q5, .inr (6, [.ref q6, .int 0])), (q6, .inl (cI, 12, .inl fun _ => 0)), (q7, .inr (5, [.ref q8, .ref q9, .int 0])), (q8, .inl (cI, 8, .inl fun _ => 0)), (q9, .inl (cI, 8, .inl fun _ => 0)), (q10, .inl (cW, 2, .inr (.inr (.inr (.inr (fun _ => none)))))), (q11, .inr (4, [.ref q12, .int 0])), (q12, .inl (cC, 60, .inl fun _ => 0)), (q13, .inr (3, [.ref q14, .int 0, .int 0, .int 0, .int 0])), (q14, .inr (1, [.ref q15, .ref q16, .int 0, .int 0, .int 0, .int 3, .int 5, .int 0])), (q15, .inl (cI, 8, .inl fun _ => 0)), (q16, .inl (cI, 8, .inl fun _ => 0)), (q17, .inr (0, [.ref q18])), (q18, .inl (cI, 100, .inl fun _ => 0))] H := hP
  have hD : va_D A [(h, .inr (8, [.ref q1, .ref q10, .ref q11, .ref q13, .null, .null])), (q1, .inr (7, [.ref q2, .ref q5, .ref q7])), (q2, .inr (1, [.ref q3, .ref q4, .int 0, .int 0, .int 0, .int 3, .int 5, .int 0])), (q3, .inl (cI, 8, .inl fun _ => 0)), (q4, .inl (cI, 8, .inl fun _ => 0)), (q5, .inr (6, [.ref q6, .int 0])), (q6, .inl (cI, 12, .inl fun _ => 0)), (q7, .inr (5, [.ref q8, .ref q9, .int 0])), (q8, .inl (cI, 8, .inl fun _ => 0)), (q9, .inl (cI, 8, .inl fun _ => 0)), (q10, .inl (cW, 2, .inr (.inr (.inr (.inr (fun _ => none)))))), (q11, .inr (4, [.ref q12, .int 0])), (q12, .inl (cC, 60, .inl fun _ => 0)), (q13, .inr (3, [.ref q14, .int 0, .int 0, .int 0, .int 0])), (q14, .inr (1, [.ref q15, .ref q16, .int 0, .int 0, .int 0, .int 3, .int 5, .int 0])), (q15, .inl (cI, 8, .inl fun _ => 0)), (q16, .inl (cI, 8, .inl fun _ => 0)), (q17, .inr (0, [.ref q18])), (q18, .inl (cI, 100, .inl fun _ => 0))] := hD
  refine va_putF (D := D) (ci := 8) (v := .ref q17) (ty := tyX8 4) (C := RX8) (T := TX8) (N := 6) hx hb hz hX_X8 tyX8 tyX8_ok nmX8 hown hK.1 hP hD hS 0 rfl rfl 4 (by decide) (hz _ z1_187) (fun _ h9 => h9) rfl hin rfl (tyX8_ok 4 (by decide)) rfl rfl (Nat.le_of_ble_eq_true rfl) dX8_init_53 (fun H locs hP hD hS => ?_)
  have hP : va_P D vwCl [(h, .inr (8, [.ref q1, .ref q10, .ref q11, .ref q13, .ref q17, .null])), (q1, .inr (7, [.ref q2, .ref q5, .ref q7])), (q2, .inr (1, [.ref q3, .ref q4, .int 0, .int 0, .int 0, .int 3, .int 5, .int 0])), (q3, .inl (cI, 8, .inl fun _ => 0)), (q4, .inl (cI, 8, .inl fun _ => 0)), (q5, .inr (6, [.ref q6, .int 0])), (q6, .inl (cI, 12, .inl fun _ => 0)), (q7, .inr (5, [.ref q8, .ref q9, .int 0])), (q8, .inl (cI, 8, .inl fun _ => 0)), (q9, .inl (cI, 8, .inl fun _ => 0)), (q10, .inl (cW, 2, .inr (.inr (.inr (.inr (fun _ => none)))))), (q11, .inr (4, [.ref q12, .int 0])), (q12, .inl (cC, 60, .inl fun _ => 0)), (q13, .inr (3, [.ref q14, .int 0, .int 0, .int 0, .int 0])), (q14, .inr (1, [.ref q15, .ref q16, .int 0, .int 0, .int 0, .int 3, .int 5, .int 0])), (q15, .inl (cI, 8, .inl fun _ => 0)), (q16, .inl (cI, 8, .inl fun _ => 0)), (q17, .inr (0, [.ref q18])), (q18, .inl (cI, 100, .inl fun _ => 0))] H := hP
  have hD : va_D A [(h, .inr (8, [.ref q1, .ref q10, .ref q11, .ref q13, .ref q17, .null])), (q1, .inr (7, [.ref q2, .ref q5, .ref q7])), (q2, .inr (1, [.ref q3, .ref q4, .int 0, .int 0, .int 0, .int 3, .int 5, .int 0])), (q3, .inl (cI, 8, .inl fun _ => 0)), (q4, .inl (cI, 8, .inl fun _ => 0)), (q5, .inr (6, [.ref q6, .int 0])), (q6, .inl (cI, 12, .inl fun _ => 0)), (q7, .inr (5, [.ref q8, .ref q9, .int 0])), (q8, .inl (cI, 8, .inl fun _ => 0)), (q9, .inl (cI, 8, .inl fun _ => 0)), (q10, .inl (cW, 2, .inr (.inr (.inr (.inr (fun _ => none)))))), (q11, .inr (4, [.ref q12, .int 0])), (q12, .inl (cC, 60, .inl fun _ => 0)), (q13, .inr (3, [.ref q14, .int 0, .int 0, .int 0, .int 0])), (q14, .inr (1, [.ref q15, .ref q16, .int 0, .int 0, .int 0, .int 3, .int 5, .int 0])), (q15, .inl (cI, 8, .inl fun _ => 0)), (q16, .inl (cI, 8, .inl fun _ => 0)), (q17, .inr (0, [.ref q18])), (q18, .inl (cI, 100, .inl fun _ => 0))] := hD
  refine lv_aload_n hx hb dX8_init_56 rfl (lv_at hl 0 rfl) ?_
  refine va_new (ci := 2) (fs := [.null, .null, .int 0]) (C := RX2) (T := TX2) (N := 3) hx hb hz hX_X2 tyX2 tyX2_ok hown (hz _ z1_166) (hz _ z1_167) (hz _ z1_9) hK.1 hP hD hS hA rfl hfX2 (Nat.le_of_ble_eq_true rfl) (Nat.le_of_ble_eq_true rfl) dX8_init_57 (fun q19 H hP hD hS => ?_)
  have hP : va_P D vwCl [(h, .inr (8, [.ref q1, .ref q10, .ref q11, .ref q13, .ref q17, .null])), (q1, .inr (7, [.ref q2, .ref q5, .ref q7])), (q2, .inr (1, [.ref q3, .ref q4, .int 0, .int 0, .int 0, .int 3, .int 5, .int 0])), (q3, .inl (cI, 8, .inl fun _ => 0)), (q4, .inl (cI, 8, .inl fun _ => 0)), (q5, .inr (6, [.ref q6, .int 0])), (q6, .inl (cI, 12, .inl fun _ => 0)), (q7, .inr (5, [.ref q8, .ref q9, .int 0])), (q8, .inl (cI, 8, .inl fun _ => 0)), (q9, .inl (cI, 8, .inl fun _ => 0)), (q10, .inl (cW, 2, .inr (.inr (.inr (.inr (fun _ => none)))))), (q11, .inr (4, [.ref q12, .int 0])), (q12, .inl (cC, 60, .inl fun _ => 0)), (q13, .inr (3, [.ref q14, .int 0, .int 0, .int 0, .int 0])), (q14, .inr (1, [.ref q15, .ref q16, .int 0, .int 0, .int 0, .int 3, .int 5, .int 0])), (q15, .inl (cI, 8, .inl fun _ => 0)), (q16, .inl (cI, 8, .inl fun _ => 0)), (q17, .inr (0, [.ref q18])), (q18, .inl (cI, 100, .inl fun _ => 0)), (q19, .inr (2, [.null, .null, .int 0]))] H := hP
  have hD : va_D A [(h, .inr (8, [.ref q1, .ref q10, .ref q11, .ref q13, .ref q17, .null])), (q1, .inr (7, [.ref q2, .ref q5, .ref q7])), (q2, .inr (1, [.ref q3, .ref q4, .int 0, .int 0, .int 0, .int 3, .int 5, .int 0])), (q3, .inl (cI, 8, .inl fun _ => 0)), (q4, .inl (cI, 8, .inl fun _ => 0)), (q5, .inr (6, [.ref q6, .int 0])), (q6, .inl (cI, 12, .inl fun _ => 0)), (q7, .inr (5, [.ref q8, .ref q9, .int 0])), (q8, .inl (cI, 8, .inl fun _ => 0)), (q9, .inl (cI, 8, .inl fun _ => 0)), (q10, .inl (cW, 2, .inr (.inr (.inr (.inr (fun _ => none)))))), (q11, .inr (4, [.ref q12, .int 0])), (q12, .inl (cC, 60, .inl fun _ => 0)), (q13, .inr (3, [.ref q14, .int 0, .int 0, .int 0, .int 0])), (q14, .inr (1, [.ref q15, .ref q16, .int 0, .int 0, .int 0, .int 3, .int 5, .int 0])), (q15, .inl (cI, 8, .inl fun _ => 0)), (q16, .inl (cI, 8, .inl fun _ => 0)), (q17, .inr (0, [.ref q18])), (q18, .inl (cI, 100, .inl fun _ => 0)), (q19, .inr (2, [.null, .null, .int 0]))] := hD
  refine lv_dup hx hb dX8_init_60 rfl ?_
  refine z_rn (S := Nat × Nat) (c1 := (fun u => n_X2 cI q19 u.1 u.2)) (z_runI (As := []) (rest := [.ref q19, .ref h]) hF (c_X2_init l D cI cC cZ q19 H.size) (cwI 0 hz (z_gN z1_170) rfl rfl rfl (hz _ z1_9) (hz _ z1_168) (hz _ z1_169) rfl (by decide +kernel) ⟨Nat.le_of_ble_eq_true rfl, Nat.le_of_ble_eq_true rfl⟩) hK hP hD [19] rfl rfl rfl hl.1 rfl (Nat.le_of_ble_eq_true rfl) dX8_init_61 ⟨Nat.le_of_ble_eq_true rfl, Nat.le_of_ble_eq_true rfl⟩) hP hD hS hA [19] [0, 1, 2, 3, 4, 5, 6, 7, 8, 9, 10, 11, 12, 13, 14, 15, 16, 17, 18] [(h, .inr (8, [.ref q1, .ref q10, .ref q11, .ref q13, .ref q17, .null])), (q1, .inr (7, [.ref q2, .ref q5, .ref q7])), (q2, .inr (1, [.ref q3, .ref q4, .int 0, .int 0, .int 0, .int 3, .int 5, .int 0])), (q3, .inl (cI, 8, .inl fun _ => 0)), (q4, .inl (cI, 8, .inl fun _ => 0)), (q5, .inr (6, [.ref q6, .int 0])), (q6, .inl (cI, 12, .inl fun _ => 0)), (q7, .inr (5, [.ref q8, .ref q9, .int 0])), (q8, .inl (cI, 8, .inl fun _ => 0)), (q9, .inl (cI, 8, .inl fun _ => 0)), (q10, .inl (cW, 2, .inr (.inr (.inr (.inr (fun _ => none)))))), (q11, .inr (4, [.ref q12, .int 0])), (q12, .inl (cC, 60, .inl fun _ => 0)), (q13, .inr (3, [.ref q14, .int 0, .int 0, .int 0, .int 0])), (q14, .inr (1, [.ref q15, .ref q16, .int 0, .int 0, .int 0, .int 3, .int 5, .int 0])), (q15, .inl (cI, 8, .inl fun _ => 0)), (q16, .inl (cI, 8, .inl fun _ => 0)), (q17, .inr (0, [.ref q18])), (q18, .inl (cI, 100, .inl fun _ => 0))] rfl rfl rfl (by decide) (fun u61 H locs hP hD hS => ?_)
  obtain ⟨q20, q21⟩ := u61
  have hP : va_P D vwCl [(h, .inr (8, [.ref q1, .ref q10, .ref q11, .ref q13, .ref q17, .null])), (q1, .inr (7, [.ref q2, .ref q5, .ref q7])), (q2, .inr (1, [.ref q3, .ref q4, .int 0, .int 0, .int 0, .int 3, .int 5, .int 0])), (q3, .inl (cI, 8, .inl fun _ => 0)), (q4, .inl (cI, 8, .inl fun _ => 0)), (q5, .inr (6, [.ref q6, .int 0])), (q6, .inl (cI, 12, .inl fun _ => 0)), (q7, .inr (5, [.ref q8, .ref q9, .int 0])), (q8, .inl (cI, 8, .inl fun _ => 0)), (q9, .inl (cI, 8, .inl fun _ => 0)), (q10, .inl (cW, 2, .inr (.inr (.inr (.inr (fun _ => none)))))), (q11, .inr (4, [.ref q12, .int 0])), (q12, .inl (cC, 60, .inl fun _ => 0)), (q13, .inr (3, [.ref q14, .int 0, .int 0, .int 0, .int 0])), (q14, .inr (1, [.ref q15, .ref q16, .int 0, .int 0, .int 0, .int 3, .int 5, .int 0])), (q15, .inl (cI, 8, .inl fun _ => 0)), (q16, .inl (cI, 8, .inl fun _ => 0)), (q17, .inr (0, [.ref q18])), (q18, .inl (cI, 100, .inl fun _ => 0)), (q19, .inr (2, [.ref q20, .ref q21, .int 0])), (q20, .inl (cI, 100, .inl fun _ => 0)), (q21, .inl (cI, 46, .inl fun _ => 0))] H := hP
  have hD : va_D A [(h, .inr (8, [.ref q1, .ref q10, .ref q11, .ref q13, .ref q17, .null])), (q1, .inr (7, [.ref q2, .ref q5, .ref q7])), (q2, .inr (1, [.ref q3, .ref q4, .int 0, .int 0, .int 0, .int 3, .int 5, .int 0])), (q3, .inl (cI, 8, .inl fun _ => 0)), (q4, .inl (cI, 8, .inl fun _ => 0)), (q5, .inr (6, [.ref q6, .int 0])), (q6, .inl (cI, 12, .inl fun _ => 0)), (q7, .inr (5, [.ref q8, .ref q9, .int 0])), (q8, .inl (cI, 8, .inl fun _ => 0)), (q9, .inl (cI, 8, .inl fun _ => 0)), (q10, .inl (cW, 2, .inr (.inr (.inr (.inr (fun _ => none)))))), (q11, .inr (4, [.ref q12, .int 0])), (q12, .inl (cC, 60, .inl fun _ => 0)), (q13, .inr (3, [.ref q14, .int 0, .int 0, .int 0, .int 0])), (q14, .inr (1, [.ref q15, .ref q16, .int 0, .int 0, .int 0, .int 3, .int 5, .int 0])), (q15, .inl (cI, 8, .inl fun _ => 0)), (q16, .inl (cI, 8, .inl fun _ => 0)), (q17, .inr (0, [.ref q18])), (q18, .inl (cI, 100, .inl fun _ => 0)), (q19, .inr (2, [.ref q20, .ref q21, .int 0])), (q20, .inl (cI, 100, .inl fun _ => 0)), (q21, .inl (cI, 46, .inl fun _ => 0))] := hD
  refine va_putF (D := D) (ci := 8) (v := .ref q19) (ty := tyX8 5) (C := RX8) (T := TX8) (N := 6) hx hb hz hX_X8 tyX8 tyX8_ok nmX8 hown hK.1 hP hD hS 0 rfl rfl 5 (by decide) (hz _ z1_188) (fun _ h9 => h9) rfl hin rfl (tyX8_ok 5 (by decide)) rfl rfl (Nat.le_of_ble_eq_true rfl) dX8_init_64 (fun H locs hP hD hS => ?_)
  have hP : va_P D vwCl [(h, .inr (8, [.ref q1, .ref q10, .ref q11, .ref q13, .ref q17, .ref q19])), (q1, .inr (7, [.ref q2, .ref q5, .ref q7])), (q2, .inr (1, [.ref q3, .ref q4, .int 0, .int 0, .int 0, .int 3, .int 5, .int 0])), (q3, .inl (cI, 8, .inl fun _ => 0)), (q4, .inl (cI, 8, .inl fun _ => 0)), (q5, .inr (6, [.ref q6, .int 0])), (q6, .inl (cI, 12, .inl fun _ => 0)), (q7, .inr (5, [.ref q8, .ref q9, .int 0])), (q8, .inl (cI, 8, .inl fun _ => 0)), (q9, .inl (cI, 8, .inl fun _ => 0)), (q10, .inl (cW, 2, .inr (.inr (.inr (.inr (fun _ => none)))))), (q11, .inr (4, [.ref q12, .int 0])), (q12, .inl (cC, 60, .inl fun _ => 0)), (q13, .inr (3, [.ref q14, .int 0, .int 0, .int 0, .int 0])), (q14, .inr (1, [.ref q15, .ref q16, .int 0, .int 0, .int 0, .int 3, .int 5, .int 0])), (q15, .inl (cI, 8, .inl fun _ => 0)), (q16, .inl (cI, 8, .inl fun _ => 0)), (q17, .inr (0, [.ref q18])), (q18, .inl (cI, 100, .inl fun _ => 0)), (q19, .inr (2, [.ref q20, .ref q21, .int 0])), (q20, .inl (cI, 100, .inl fun _ => 0)), (q21, .inl (cI, 46, .inl fun _ => 0))] H := hP
  have hD : va_D A [(h, .inr (8, [.ref q1, .ref q10, .ref q11, .ref q13, .ref q17, .ref q19])), (q1, .inr (7, [.ref q2, .ref q5, .ref q7])), (q2, .inr (1, [.ref q3, .ref q4, .int 0, .int 0, .int 0, .int 3, .int 5, .int 0])), (q3, .inl (cI, 8, .inl fun _ => 0)), (q4, .inl (cI, 8, .inl fun _ => 0)), (q5, .inr (6, [.ref q6, .int 0])), (q6, .inl (cI, 12, .inl fun _ => 0)), (q7, .inr (5, [.ref q8, .ref q9, .int 0])), (q8, .inl (cI, 8, .inl fun _ => 0)), (q9, .inl (cI, 8, .inl fun _ => 0)), (q10, .inl (cW, 2, .inr (.inr (.inr (.inr (fun _ => none)))))), (q11, .inr (4, [.ref q12, .int 0])), (q12, .inl (cC, 60, .inl fun _ => 0)), (q13, .inr (3, [.ref q14, .int 0, .int 0, .int 0, .int 0])), (q14, .inr (1, [.ref q15, .ref q16, .int 0, .int 0, .int 0, .int 3, .int 5, .int 0])), (q15, .inl (cI, 8, .inl fun _ => 0)), (q16, .inl (cI, 8, .inl fun _ => 0)), (q17, .inr (0, [.ref q18])), (q18, .inl (cI, 100, .inl fun _ => 0)), (q19, .inr (2, [.ref q20, .ref q21, .int 0])), (q20, .inl (cI, 100, .inl fun _ => 0)), (q21, .inl (cI, 46, .inl fun _ => 0))] := hD
  refine W.widen (k := 21) (n := 403) (Nat.le_of_ble_eq_true rfl) (Nat.le_of_ble_eq_true rfl) ?_
  exact W.vret hx hb hr (fun t ht hW => ⟨⟨⟨cW, q1, q2, q3, q4, q5, q6, q7, q8, q9, q10, q11, q12, q13, q14, q15, q16, q17, q18, q19, q20, q21⟩, rfl, trivial, by rw [ht]; exact hP, hD, va_K.moved hW.alike (hKW.sub [3] rfl)⟩, hS.F ht⟩) hS.2.2 dX8_init_67 hlocks
