abbrev cw_X9_jugs (cI : ClassId) (h h_pours : Nat) (g_book g_now g_places g_power g_spite g_ways g_milky g_sights g_sight g_signs g_pad g_offAt g_offWho g_reason g_acts g_enough g_rows g_counts g_image g_isKept : Value) (f_pours : Nat → Int32) : va_W := [(h, .inr (9, [g_book, g_now, g_places, g_power, g_spite, g_ways, g_milky, g_sights, g_sight, g_signs, g_pad, g_offAt, g_offWho, g_reason, g_acts, g_enough, g_rows, g_counts, .ref h_pours, g_image, g_isKept])), (h_pours, .inl (cI, 10000, .inl f_pours))]
abbrev q_X9_jugs (D : va_G) (cI : ClassId) (h h_pours : Nat) (g_book g_now g_places g_power g_spite g_ways g_milky g_sights g_sight g_signs g_pad g_offAt g_offWho g_reason g_acts g_enough g_rows g_counts g_image g_isKept : Value) (post : Int32 → (Nat → Int32) → Prop) (A : Nat → Prop) : Array Value → State → Outcome → State → Prop := va_Qi (S := (Nat → Int32)) (fun r u => post r u) (fun u t => va_P D vwCl (cw_X9_jugs cI h h_pours g_book g_now g_places g_power g_spite g_ways g_milky g_sights g_sight g_signs g_pad g_offAt g_offWho g_reason g_acts g_enough g_rows g_counts g_image g_isKept u) t.heap) A
abbrev v_X9_jugs : List Cond := .code yX9_jugs cX9_jugs 12 (some .int) :: zB
theorem hd_X9_jugs : yX9_jugs.cls = RX9 ∧ yX9_jugs.cls ≠ "java/lang/invoke/MethodHandle" ∧ yX9_jugs.cls ≠ "java/lang/invoke/VarHandle" ∧ (parseMethodDescriptor yX9_jugs.desc).map (fun d => d.parameters.length) = some 3 := by decide +kernel
set_option maxHeartbeats 4000000 in
set_option maxRecDepth 100000 in
theorem c_X9_jugs (l : Launch) (D : va_G) (cI cC cZ : ClassId) (h h_pours : Nat) (g_book g_now g_places g_power g_spite g_ways g_milky g_sights g_sight g_signs g_pad g_offAt g_offWho g_reason g_acts g_enough g_rows g_counts g_image g_isKept : Value) (f_pours : Nat → Int32) (p1 : Int32) (p2 : Int32) (p3 : Int32) (sz : Nat) (post : Int32 → (Nat → Int32) → Prop) (hw : w_X9_jugs post f_pours p1 p2 p3) : Met l yX9_jugs v_X9_jugs ({ frames := 1, cells := 0, slots := 0, locals := 22 } : Room) (va_Pc [.ref h, .int p1, .int p2, .int p3] (zPre D (zT cI cC cZ) sz (cw_X9_jugs cI h h_pours g_book g_now g_places g_power g_spite g_ways g_milky g_sights g_sight g_signs g_pad g_offAt g_offWho g_reason g_acts g_enough g_rows g_counts g_image g_isKept f_pours))) (q_X9_jugs D cI h h_pours g_book g_now g_places g_power g_spite g_ways g_milky g_sights g_sight g_signs g_pad g_offAt g_offWho g_reason g_acts g_enough g_rows g_counts g_image g_isKept post (va_A (cw_X9_jugs cI h h_pours g_book g_now g_places g_power g_spite g_ways g_milky g_sights g_sight g_signs g_pad g_offAt g_offWho g_reason g_acts g_enough g_rows g_counts g_image g_isKept f_pours) sz)) 0 0 (va_A (cw_X9_jugs cI h h_pours g_book g_now g_places g_power g_spite g_ways g_milky g_sights g_sight g_signs g_pad g_offAt g_offWho g_reason g_acts g_enough g_rows g_counts g_image g_isKept f_pours) sz) := by
  refine Met.ofW (cc := cX9_jugs) (maxL := 12) (ret := (some .int)) (by decide) rfl ?_
  intro p e s m args below meth c s₁ B hml hv
  obtain ⟨rfl, hsz, hP, hK, hD0⟩ := hv
  subst hsz
  have hx := B.exec
  have hb := B.bytes
  have hr := B.returns
  have hz : ∀ w ∈ zB, w.before _ s = true := fun w h => atoms_spec (ws := v_X9_jugs) B.pre w (List.mem_cons_of_mem _ h)
  have hown : s.vm.findClass RX9 = some m.cls := findClass_of_methodNamed B.named
  have hlocks := B.notSynchronized
  have hF : CallFix p m c cX9_jugs 12 s (([.ref h, .int p1, .int p2, .int p3] : List Value).toArray) zB RX9 := ⟨hx, hb, hml, hown, hz⟩
  have hD := hD0.self (sz := s.heap.size)
  generalize hAe : va_A (cw_X9_jugs cI h h_pours g_book g_now g_places g_power g_spite g_ways g_milky g_sights g_sight g_signs g_pad g_offAt g_offWho g_reason g_acts g_enough g_rows g_counts g_image g_isKept f_pours) s.heap.size = A at hD ⊢
  have hA : ∀ q : Nat, s.heap.size ≤ q → A q := fun q h => by rw [← hAe]; exact Or.inr h
  have hS : va_S A s.heap s.heap [] := va_S.rf
  have hP : va_P D vwCl (cw_X9_jugs cI h h_pours g_book g_now g_places g_power g_spite g_ways g_milky g_sights g_sight g_signs g_pad g_offAt g_offWho g_reason g_acts g_enough g_rows g_counts g_image g_isKept f_pours) s.heap := hP
  have hl := lv_entry ([.ref h, .int p1, .int p2, .int p3]) (n := 12) (Nat.le_of_ble_eq_true rfl)
  rw [lg_entry_eq]
  generalize (lg_sl ([.ref h, .int p1, .int p2, .int p3]) ++ List.replicate (12 - (lg_sl ([.ref h, .int p1, .int p2, .int p3])).length) Slot.unset).toArray = ls at hl ⊢
  have hl : lv_has ls 12 [(0, .ref h), (1, .int p1), (2, .int p2), (3, .int p3)] := hl
  have L59 : ∀ (n59 : Nat) (f_pours : Nat → Int32) (x4 : Int32) (x5 : Int32) (x6 : Int32) (H : Heap) (locs : List Loc) (ls : Array Slot) (hw : w_X9_jugs_B59 post p1 p2 p3 n59 f_pours x4 x5 x6) (hP : va_P D vwCl (cw_X9_jugs cI h h_pours g_book g_now g_places g_power g_spite g_ways g_milky g_sights g_sight g_signs g_pad g_offAt g_offWho g_reason g_acts g_enough g_rows g_counts g_image g_isKept f_pours) H) (hD : va_D A (cw_X9_jugs cI h h_pours g_book g_now g_places g_power g_spite g_ways g_milky g_sights g_sight g_signs g_pad g_offAt g_offWho g_reason g_acts g_enough g_rows g_counts g_image g_isKept f_pours)) (hS : va_S A s.heap H locs) (hl : lv_has ls 12 [(0, .ref h), (3, .int p3), (4, .int x4), (5, .int x5), (6, .int x6)]), W p l e (headSpec v_X9_jugs ({ frames := 1, cells := 0, slots := 0, locals := 22 } : Room)).room s m (([.ref h, .int p1, .int p2, .int p3] : List Value).toArray) below meth c H locs 0 0 (MQ below (q_X9_jugs D cI h h_pours g_book g_now g_places g_power g_spite g_ways g_milky g_sights g_sight g_signs g_pad g_offAt g_offWho g_reason g_acts g_enough g_rows g_counts g_image g_isKept post A) (([.ref h, .int p1, .int p2, .int p3] : List Value).toArray) s 0 0 A) (F0 m 59 ls []) := by
    intro n59
    induction n59 with
    | zero => intro f_pours x4 x5 x6 H locs ls hw; exact False.elim hw
    | succ n59 ih59 =>
      have L69 : ∀ (n69 : Nat) (f_pours : Nat → Int32) (x4 : Int32) (x5 : Int32) (x6 : Int32) (x7 : Int32) (H : Heap) (locs : List Loc) (ls : Array Slot) (hw : w_X9_jugs_B69 post p1 p2 p3 (fun f_pours x4 x5 x6 => w_X9_jugs_B59 post p1 p2 p3 n59 f_pours x4 x5 x6) n69 f_pours x4 x5 x6 x7) (hP : va_P D vwCl (cw_X9_jugs cI h h_pours g_book g_now g_places g_power g_spite g_ways g_milky g_sights g_sight g_signs g_pad g_offAt g_offWho g_reason g_acts g_enough g_rows g_counts g_image g_isKept f_pours) H) (hD : va_D A (cw_X9_jugs cI h h_pours g_book g_now g_places g_power g_spite g_ways g_milky g_sights g_sight g_signs g_pad g_offAt g_offWho g_reason g_acts g_enough g_rows g_counts g_image g_isKept f_pours)) (hS : va_S A s.heap H locs) (hl : lv_has ls 12 [(0, .ref h), (3, .int p3), (4, .int x4), (5, .int x5), (6, .int x6), (7, .int x7)]), W p l e (headSpec v_X9_jugs ({ frames := 1, cells := 0, slots := 0, locals := 22 } : Room)).room s m (([.ref h, .int p1, .int p2, .int p3] : List Value).toArray) below meth c H locs 0 0 (MQ below (q_X9_jugs D cI h h_pours g_book g_now g_places g_power g_spite g_ways g_milky g_sights g_sight g_signs g_pad g_offAt g_offWho g_reason g_acts g_enough g_rows g_counts g_image g_isKept post A) (([.ref h, .int p1, .int p2, .int p3] : List Value).toArray) s 0 0 A) (F0 m 69 ls []) := by
        intro n69
        induction n69 with
        | zero => intro f_pours x4 x5 x6 x7 H locs ls hw; exact False.elim hw
        | succ n69 ih69 =>
          have J171 : ∀ (f_pours : Nat → Int32) (x4 : Int32) (x5 : Int32) (x6 : Int32) (x7 : Int32) (x8 : Int32) (H : Heap) (locs : List Loc) (ls : Array Slot) (hw : w_X9_jugs_B171 post p1 p2 p3 (fun f_pours x4 x5 x6 => w_X9_jugs_B59 post p1 p2 p3 n59 f_pours x4 x5 x6) (fun f_pours x4 x5 x6 x7 => w_X9_jugs_B69 post p1 p2 p3 (fun f_pours x4 x5 x6 => w_X9_jugs_B59 post p1 p2 p3 n59 f_pours x4 x5 x6) n69 f_pours x4 x5 x6 x7) f_pours x4 x5 x6 x7 x8) (hP : va_P D vwCl (cw_X9_jugs cI h h_pours g_book g_now g_places g_power g_spite g_ways g_milky g_sights g_sight g_signs g_pad g_offAt g_offWho g_reason g_acts g_enough g_rows g_counts g_image g_isKept f_pours) H) (hD : va_D A (cw_X9_jugs cI h h_pours g_book g_now g_places g_power g_spite g_ways g_milky g_sights g_sight g_signs g_pad g_offAt g_offWho g_reason g_acts g_enough g_rows g_counts g_image g_isKept f_pours)) (hS : va_S A s.heap H locs) (hl : lv_has ls 12 [(0, .ref h), (3, .int p3), (4, .int x4), (5, .int x5), (6, .int x6), (7, .int x7), (8, .int x8)]), W p l e (headSpec v_X9_jugs ({ frames := 1, cells := 0, slots := 0, locals := 22 } : Room)).room s m (([.ref h, .int p1, .int p2, .int p3] : List Value).toArray) below meth c H locs 0 0 (MQ below (q_X9_jugs D cI h h_pours g_book g_now g_places g_power g_spite g_ways g_milky g_sights g_sight g_signs g_pad g_offAt g_offWho g_reason g_acts g_enough g_rows g_counts g_image g_isKept post A) (([.ref h, .int p1, .int p2, .int p3] : List Value).toArray) s 0 0 A) (F0 m 171 ls []) := by
            intro f_pours x4 x5 x6 x7 x8 H locs ls hw hP hD hS hl
            unfold w_X9_jugs_B171 at hw
            refine lv_aload_n hx hb dX9_jugs_171 rfl (lv_at hl 0 rfl) ?_
            refine va_get (D := D) (ci := 9) (v := .ref h_pours) (C := RX9) (T := TX9) (N := 21) hx hb hz hX_X9 hown hK.1 hP 0 rfl rfl 18 (by decide) (hz _ z3_174) (fun _ h9 => h9) rfl dX9_jugs_172 ?_
            refine lv_bipush (v := (100 : Int32)) hx hb dX9_jugs_175 (by decide) ?_
            refine lv_iload hx hb dX9_jugs_177 (lv_at hl 4 rfl) ?_
            refine lv_imul hx hb dX9_jugs_179 ?_
            refine lv_iload hx hb dX9_jugs_180 (lv_at hl 5 rfl) ?_
            refine lv_iadd hx hb dX9_jugs_182 ?_
            refine lv_iload hx hb dX9_jugs_183 (lv_at hl 6 rfl) ?_
            obtain ⟨hi185, hw⟩ := hw
            refine va_iast hx hb hK.1 hP hD hS 1 0 rfl rfl hi185 dX9_jugs_185 (fun H locs hP hD hS => ?_)
            have hP : va_P D vwCl (cw_X9_jugs cI h h_pours g_book g_now g_places g_power g_spite g_ways g_milky g_sights g_sight g_signs g_pad g_offAt g_offWho g_reason g_acts g_enough g_rows g_counts g_image g_isKept (upd f_pours (((100 : Int32) * x6) + x7).toNatClampNeg x8)) H := hP
            have hD : va_D A (cw_X9_jugs cI h h_pours g_book g_now g_places g_power g_spite g_ways g_milky g_sights g_sight g_signs g_pad g_offAt g_offWho g_reason g_acts g_enough g_rows g_counts g_image g_isKept (upd f_pours (((100 : Int32) * x6) + x7).toNatClampNeg x8)) := hD
            refine lv_iinc (k := 5) (v := (x7 + 1)) (lv' := [(7, .int (x7 + 1)), (0, .ref h), (3, .int p3), (4, .int x4), (5, .int x5), (6, .int x6), (8, .int x8)]) hx hb dX9_jugs_186 hl rfl rfl (by decide) rfl (fun ls hl => ?_)
            refine lv_goto (tgt := 69) hx hb dX9_jugs_189 (by decide) ?_
            exact ih69 (upd f_pours (((100 : Int32) * x6) + x7).toNatClampNeg x8) x4 x5 x6 (x7 + 1) _ _ _ hw hP hD hS (lv_sub hl [1, 2, 3, 4, 5, 0] rfl)
          have L83 : ∀ (n83 : Nat) (f_pours : Nat → Int32) (x4 : Int32) (x5 : Int32) (x6 : Int32) (x7 : Int32) (x8 : Int32) (x9 : Int32) (H : Heap) (locs : List Loc) (ls : Array Slot) (hw : w_X9_jugs_B83 post p1 p2 p3 (fun f_pours x4 x5 x6 => w_X9_jugs_B59 post p1 p2 p3 n59 f_pours x4 x5 x6) (fun f_pours x4 x5 x6 x7 => w_X9_jugs_B69 post p1 p2 p3 (fun f_pours x4 x5 x6 => w_X9_jugs_B59 post p1 p2 p3 n59 f_pours x4 x5 x6) n69 f_pours x4 x5 x6 x7) n83 f_pours x4 x5 x6 x7 x8 x9) (hP : va_P D vwCl (cw_X9_jugs cI h h_pours g_book g_now g_places g_power g_spite g_ways g_milky g_sights g_sight g_signs g_pad g_offAt g_offWho g_reason g_acts g_enough g_rows g_counts g_image g_isKept f_pours) H) (hD : va_D A (cw_X9_jugs cI h h_pours g_book g_now g_places g_power g_spite g_ways g_milky g_sights g_sight g_signs g_pad g_offAt g_offWho g_reason g_acts g_enough g_rows g_counts g_image g_isKept f_pours)) (hS : va_S A s.heap H locs) (hl : lv_has ls 12 [(0, .ref h), (3, .int p3), (4, .int x4), (5, .int x5), (6, .int x6), (7, .int x7), (8, .int x8), (9, .int x9)]), W p l e (headSpec v_X9_jugs ({ frames := 1, cells := 0, slots := 0, locals := 22 } : Room)).room s m (([.ref h, .int p1, .int p2, .int p3] : List Value).toArray) below meth c H locs 0 0 (MQ below (q_X9_jugs D cI h h_pours g_book g_now g_places g_power g_spite g_ways g_milky g_sights g_sight g_signs g_pad g_offAt g_offWho g_reason g_acts g_enough g_rows g_counts g_image g_isKept post A) (([.ref h, .int p1, .int p2, .int p3] : List Value).toArray) s 0 0 A) (F0 m 83 ls []) := by
            intro n83
            induction n83 with
            | zero => intro f_pours x4 x5 x6 x7 x8 x9 H locs ls hw; exact False.elim hw
            | succ n83 ih83 =>
              have J163 : ∀ (f_pours : Nat → Int32) (x4 : Int32) (x5 : Int32) (x6 : Int32) (x7 : Int32) (x9 : Int32) (s0 : Int32) (H : Heap) (locs : List Loc) (ls : Array Slot) (hw : w_X9_jugs_B163 post p1 p2 p3 (fun f_pours x4 x5 x6 => w_X9_jugs_B59 post p1 p2 p3 n59 f_pours x4 x5 x6) (fun f_pours x4 x5 x6 x7 => w_X9_jugs_B69 post p1 p2 p3 (fun f_pours x4 x5 x6 => w_X9_jugs_B59 post p1 p2 p3 n59 f_pours x4 x5 x6) n69 f_pours x4 x5 x6 x7) (fun f_pours x4 x5 x6 x7 x8 x9 => w_X9_jugs_B83 post p1 p2 p3 (fun f_pours x4 x5 x6 => w_X9_jugs_B59 post p1 p2 p3 n59 f_pours x4 x5 x6) (fun f_pours x4 x5 x6 x7 => w_X9_jugs_B69 post p1 p2 p3 (fun f_pours x4 x5 x6 => w_X9_jugs_B59 post p1 p2 p3 n59 f_pours x4 x5 x6) n69 f_pours x4 x5 x6 x7) n83 f_pours x4 x5 x6 x7 x8 x9) f_pours x4 x5 x6 x7 x9 s0) (hP : va_P D vwCl (cw_X9_jugs cI h h_pours g_book g_now g_places g_power g_spite g_ways g_milky g_sights g_sight g_signs g_pad g_offAt g_offWho g_reason g_acts g_enough g_rows g_counts g_image g_isKept f_pours) H) (hD : va_D A (cw_X9_jugs cI h h_pours g_book g_now g_places g_power g_spite g_ways g_milky g_sights g_sight g_signs g_pad g_offAt g_offWho g_reason g_acts g_enough g_rows g_counts g_image g_isKept f_pours)) (hS : va_S A s.heap H locs) (hl : lv_has ls 12 [(0, .ref h), (3, .int p3), (4, .int x4), (5, .int x5), (6, .int x6), (7, .int x7), (9, .int x9)]), W p l e (headSpec v_X9_jugs ({ frames := 1, cells := 0, slots := 0, locals := 22 } : Room)).room s m (([.ref h, .int p1, .int p2, .int p3] : List Value).toArray) below meth c H locs 0 0 (MQ below (q_X9_jugs D cI h h_pours g_book g_now g_places g_power g_spite g_ways g_milky g_sights g_sight g_signs g_pad g_offAt g_offWho g_reason g_acts g_enough g_rows g_counts g_image g_isKept post A) (([.ref h, .int p1, .int p2, .int p3] : List Value).toArray) s 0 0 A) (F0 m 163 ls [.int s0]) := by
                intro f_pours x4 x5 x6 x7 x9 s0 H locs ls hw hP hD hS hl
                unfold w_X9_jugs_B163 at hw
                refine lv_istore (lv' := [(8, .int s0), (0, .ref h), (3, .int p3), (4, .int x4), (5, .int x5), (6, .int x6), (7, .int x7), (9, .int x9)]) hx hb dX9_jugs_163 hl (by decide) rfl (fun ls hl => ?_)
                refine lv_iinc (k := 7) (v := (x9 + 1)) (lv' := [(9, .int (x9 + 1)), (8, .int s0), (0, .ref h), (3, .int p3), (4, .int x4), (5, .int x5), (6, .int x6), (7, .int x7)]) hx hb dX9_jugs_165 hl rfl rfl (by decide) rfl (fun ls hl => ?_)
                refine lv_goto (tgt := 83) hx hb dX9_jugs_168 (by decide) ?_
                exact ih83 f_pours x4 x5 x6 x7 s0 (x9 + 1) _ _ _ hw hP hD hS (lv_sub hl [2, 3, 4, 5, 6, 7, 1, 0] rfl)
              have J149 : ∀ (f_pours : Nat → Int32) (x4 : Int32) (x5 : Int32) (x6 : Int32) (x7 : Int32) (x9 : Int32) (s0 : Int32) (H : Heap) (locs : List Loc) (ls : Array Slot) (hw : w_X9_jugs_B149 post p1 p2 p3 (fun f_pours x4 x5 x6 => w_X9_jugs_B59 post p1 p2 p3 n59 f_pours x4 x5 x6) (fun f_pours x4 x5 x6 x7 => w_X9_jugs_B69 post p1 p2 p3 (fun f_pours x4 x5 x6 => w_X9_jugs_B59 post p1 p2 p3 n59 f_pours x4 x5 x6) n69 f_pours x4 x5 x6 x7) (fun f_pours x4 x5 x6 x7 x8 x9 => w_X9_jugs_B83 post p1 p2 p3 (fun f_pours x4 x5 x6 => w_X9_jugs_B59 post p1 p2 p3 n59 f_pours x4 x5 x6) (fun f_pours x4 x5 x6 x7 => w_X9_jugs_B69 post p1 p2 p3 (fun f_pours x4 x5 x6 => w_X9_jugs_B59 post p1 p2 p3 n59 f_pours x4 x5 x6) n69 f_pours x4 x5 x6 x7) n83 f_pours x4 x5 x6 x7 x8 x9) f_pours x4 x5 x6 x7 x9 s0) (hP : va_P D vwCl (cw_X9_jugs cI h h_pours g_book g_now g_places g_power g_spite g_ways g_milky g_sights g_sight g_signs g_pad g_offAt g_offWho g_reason g_acts g_enough g_rows g_counts g_image g_isKept f_pours) H) (hD : va_D A (cw_X9_jugs cI h h_pours g_book g_now g_places g_power g_spite g_ways g_milky g_sights g_sight g_signs g_pad g_offAt g_offWho g_reason g_acts g_enough g_rows g_counts g_image g_isKept f_pours)) (hS : va_S A s.heap H locs) (hl : lv_has ls 12 [(0, .ref h), (3, .int p3), (4, .int x4), (5, .int x5), (6, .int x6), (7, .int x7), (9, .int x9)]), W p l e (headSpec v_X9_jugs ({ frames := 1, cells := 0, slots := 0, locals := 22 } : Room)).room s m (([.ref h, .int p1, .int p2, .int p3] : List Value).toArray) below meth c H locs 0 0 (MQ below (q_X9_jugs D cI h h_pours g_book g_now g_places g_power g_spite g_ways g_milky g_sights g_sight g_signs g_pad g_offAt g_offWho g_reason g_acts g_enough g_rows g_counts g_image g_isKept post A) (([.ref h, .int p1, .int p2, .int p3] : List Value).toArray) s 0 0 A) (F0 m 149 ls [.int s0]) := by
                intro f_pours x4 x5 x6 x7 x9 s0 H locs ls hw hP hD hS hl
                unfold w_X9_jugs_B149 at hw
                refine lv_istore (lv' := [(11, .int s0), (0, .ref h), (3, .int p3), (4, .int x4), (5, .int x5), (6, .int x6), (7, .int x7), (9, .int x9)]) hx hb dX9_jugs_149 hl (by decide) rfl (fun ls hl => ?_)
                refine lv_iload hx hb dX9_jugs_151 (lv_at hl 0 rfl) ?_
                refine lv_if_ge (tgt := 161) hx hb dX9_jugs_153 (by decide) (fun c153 => ?_) (fun c153 => ?_)
                · have hw := hw.1 c153
                  refine lv_bipush (v := (-6 : Int32)) hx hb dX9_jugs_161 (by decide) ?_
                  exact J163 f_pours x4 x5 x6 x7 x9 (-6 : Int32) _ _ _ hw hP hD hS (lv_sub hl [1, 2, 3, 4, 5, 6, 7] rfl)
                have hw := hw.2 c153
                refine lv_iload hx hb dX9_jugs_156 (lv_at hl 7 rfl) ?_
                refine lv_goto (tgt := 163) hx hb dX9_jugs_158 (by decide) ?_
                exact J163 f_pours x4 x5 x6 x7 x9 x9 _ _ _ hw hP hD hS (lv_sub hl [1, 2, 3, 4, 5, 6, 7] rfl)
              intro f_pours x4 x5 x6 x7 x8 x9 H locs ls hw hP hD hS hl
              unfold w_X9_jugs_B83 at hw
              refine lv_iload hx hb dX9_jugs_83 (lv_at hl 5 rfl) ?_
              refine lv_if_le (tgt := 171) hx hb dX9_jugs_85 (by decide) (fun c85 => ?_) (fun c85 => ?_)
              · have hw := hw.1 c85
                exact J171 f_pours x4 x5 x6 x7 x8 _ _ _ hw hP hD hS (lv_sub hl [0, 1, 2, 3, 4, 5, 6] rfl)
              have hw := hw.2 c85
              refine lv_iload hx hb dX9_jugs_88 (lv_at hl 7 rfl) ?_
              refine lv_iload hx hb dX9_jugs_90 (lv_at hl 5 rfl) ?_
              refine lv_imul hx hb dX9_jugs_92 ?_
              refine lv_iload hx hb dX9_jugs_93 (lv_at hl 4 rfl) ?_
              refine lv_icmp_gt (tgt := 171) hx hb dX9_jugs_95 (by decide) (fun c95 => ?_) (fun c95 => ?_)
              · have hw := hw.1 c95
                exact J171 f_pours x4 x5 x6 x7 x8 _ _ _ hw hP hD hS (lv_sub hl [0, 1, 2, 3, 4, 5, 6] rfl)
              have hw := hw.2 c95
              refine lv_iload hx hb dX9_jugs_98 (lv_at hl 6 rfl) ?_
              refine lv_if_ge (tgt := 171) hx hb dX9_jugs_100 (by decide) (fun c100 => ?_) (fun c100 => ?_)
              · have hw := hw.1 c100
                exact J171 f_pours x4 x5 x6 x7 x8 _ _ _ hw hP hD hS (lv_sub hl [0, 1, 2, 3, 4, 5, 6] rfl)
              have hw := hw.2 c100
              refine lv_iload hx hb dX9_jugs_103 (lv_at hl 4 rfl) ?_
              refine lv_iload hx hb dX9_jugs_105 (lv_at hl 7 rfl) ?_
              refine lv_iload hx hb dX9_jugs_107 (lv_at hl 5 rfl) ?_
              refine lv_imul hx hb dX9_jugs_109 ?_
              refine lv_isub hx hb dX9_jugs_110 ?_
              refine lv_istore (lv' := [(10, .int (x6 - (x9 * x7))), (0, .ref h), (3, .int p3), (4, .int x4), (5, .int x5), (6, .int x6), (7, .int x7), (8, .int x8), (9, .int x9)]) hx hb dX9_jugs_111 hl (by decide) rfl (fun ls hl => ?_)
              refine lv_iload hx hb dX9_jugs_113 (lv_at hl 0 rfl) ?_
              refine lv_iload hx hb dX9_jugs_115 (lv_at hl 6 rfl) ?_
              refine lv_icmp_le (tgt := 136) hx hb dX9_jugs_117 (by decide) (fun c117 => ?_) (fun c117 => ?_)
              · have hw := hw.1 c117
                refine lv_aload_n hx hb dX9_jugs_136 rfl (lv_at hl 1 rfl) ?_
                refine va_get (D := D) (ci := 9) (v := .ref h_pours) (C := RX9) (T := TX9) (N := 21) hx hb hz hX_X9 hown hK.1 hP 0 rfl rfl 18 (by decide) (hz _ z3_174) (fun _ h9 => h9) rfl dX9_jugs_137 ?_
                refine lv_bipush (v := (100 : Int32)) hx hb dX9_jugs_140 (by decide) ?_
                refine lv_iload hx hb dX9_jugs_142 (lv_at hl 6 rfl) ?_
                refine lv_imul hx hb dX9_jugs_144 ?_
                refine lv_iload hx hb dX9_jugs_145 (lv_at hl 0 rfl) ?_
                refine lv_iadd hx hb dX9_jugs_147 ?_
                obtain ⟨hi148, hw⟩ := hw
                refine va_iald hx hb hK.1 hP 1 0 rfl rfl hi148 dX9_jugs_148 ?_
                exact J149 f_pours x4 x5 x6 x7 x9 (f_pours (((100 : Int32) * x7) + (x6 - (x9 * x7))).toNatClampNeg) _ _ _ hw hP hD hS (lv_sub hl [1, 2, 3, 4, 5, 6, 8] rfl)
              have hw := hw.2 c117
              refine lv_aload_n hx hb dX9_jugs_120 rfl (lv_at hl 1 rfl) ?_
              refine va_get (D := D) (ci := 9) (v := .ref h_pours) (C := RX9) (T := TX9) (N := 21) hx hb hz hX_X9 hown hK.1 hP 0 rfl rfl 18 (by decide) (hz _ z3_174) (fun _ h9 => h9) rfl dX9_jugs_121 ?_
              refine lv_bipush (v := (100 : Int32)) hx hb dX9_jugs_124 (by decide) ?_
              refine lv_iload hx hb dX9_jugs_126 (lv_at hl 0 rfl) ?_
              refine lv_imul hx hb dX9_jugs_128 ?_
              refine lv_iload hx hb dX9_jugs_129 (lv_at hl 6 rfl) ?_
              refine lv_iadd hx hb dX9_jugs_131 ?_
              obtain ⟨hi132, hw⟩ := hw
              refine va_iald hx hb hK.1 hP 1 0 rfl rfl hi132 dX9_jugs_132 ?_
              refine lv_goto (tgt := 149) hx hb dX9_jugs_133 (by decide) ?_
              exact J149 f_pours x4 x5 x6 x7 x9 (f_pours (((100 : Int32) * (x6 - (x9 * x7))) + x7).toNatClampNeg) _ _ _ hw hP hD hS (lv_sub hl [1, 2, 3, 4, 5, 6, 8] rfl)
          intro f_pours x4 x5 x6 x7 H locs ls hw hP hD hS hl
          unfold w_X9_jugs_B69 at hw
          refine lv_iload hx hb dX9_jugs_69 (lv_at hl 5 rfl) ?_
          refine lv_iload hx hb dX9_jugs_71 (lv_at hl 4 rfl) ?_
          refine lv_icmp_gt (tgt := 192) hx hb dX9_jugs_73 (by decide) (fun c73 => ?_) (fun c73 => ?_)
          · have hw := hw.1 c73
            refine lv_iinc (k := 4) (v := (x6 + 1)) (lv' := [(6, .int (x6 + 1)), (0, .ref h), (3, .int p3), (4, .int x4), (5, .int x5), (7, .int x7)]) hx hb dX9_jugs_192 hl rfl rfl (by decide) rfl (fun ls hl => ?_)
            refine lv_goto (tgt := 59) hx hb dX9_jugs_195 (by decide) ?_
            exact ih59 f_pours x4 x5 (x6 + 1) _ _ _ hw hP hD hS (lv_sub hl [1, 2, 3, 4, 0] rfl)
          have hw := hw.2 c73
          refine lv_bipush (v := (-6 : Int32)) hx hb dX9_jugs_76 (by decide) ?_
          refine lv_istore (lv' := [(8, .int (-6 : Int32)), (0, .ref h), (3, .int p3), (4, .int x4), (5, .int x5), (6, .int x6), (7, .int x7)]) hx hb dX9_jugs_78 hl (by decide) rfl (fun ls hl => ?_)
          refine lv_iconst (v := (1 : Int32)) hx hb dX9_jugs_80 (by decide) ?_
          refine lv_istore (lv' := [(9, .int (1 : Int32)), (8, .int (-6 : Int32)), (0, .ref h), (3, .int p3), (4, .int x4), (5, .int x5), (6, .int x6), (7, .int x7)]) hx hb dX9_jugs_81 hl (by decide) rfl (fun ls hl => ?_)
          obtain ⟨n83, hw⟩ := hw
          exact L83 n83 f_pours x4 x5 x6 x7 (-6 : Int32) (1 : Int32) _ _ _ hw hP hD hS (lv_sub hl [2, 3, 4, 5, 6, 7, 1, 0] rfl)
      intro f_pours x4 x5 x6 H locs ls hw hP hD hS hl
      unfold w_X9_jugs_B59 at hw
      refine lv_iload hx hb dX9_jugs_59 (lv_at hl 4 rfl) ?_
      refine lv_iload hx hb dX9_jugs_61 (lv_at hl 2 rfl) ?_
      refine lv_icmp_gt (tgt := 198) hx hb dX9_jugs_63 (by decide) (fun c63 => ?_) (fun c63 => ?_)
      · have hw := hw.1 c63
        refine lv_aload_n hx hb dX9_jugs_198 rfl (lv_at hl 0 rfl) ?_
        refine va_get (D := D) (ci := 9) (v := .ref h_pours) (C := RX9) (T := TX9) (N := 21) hx hb hz hX_X9 hown hK.1 hP 0 rfl rfl 18 (by decide) (hz _ z3_174) (fun _ h9 => h9) rfl dX9_jugs_199 ?_
        refine lv_bipush (v := (100 : Int32)) hx hb dX9_jugs_202 (by decide) ?_
        refine lv_iload hx hb dX9_jugs_204 (lv_at hl 2 rfl) ?_
        refine lv_imul hx hb dX9_jugs_206 ?_
        refine lv_iload hx hb dX9_jugs_207 (lv_at hl 3 rfl) ?_
        refine lv_iadd hx hb dX9_jugs_209 ?_
        obtain ⟨hi210, hw⟩ := hw
        refine va_iald hx hb hK.1 hP 1 0 rfl rfl hi210 dX9_jugs_210 ?_
        refine lv_topi (fun y211 ey211 => ?_)
        have hw := hw y211 ey211
        refine lv_istore (lv' := [(6, .int y211), (0, .ref h), (3, .int p3), (4, .int x4), (5, .int x5)]) hx hb dX9_jugs_211 hl (by decide) rfl (fun ls hl => ?_)
        refine lv_iload_n hx hb dX9_jugs_213 rfl (lv_at hl 2 rfl) ?_
        refine lv_iconst (v := (1 : Int32)) hx hb dX9_jugs_214 (by decide) ?_
        refine lv_icmp_ne (tgt := 223) hx hb dX9_jugs_215 (by decide) (fun c215 => ?_) (fun c215 => ?_)
        · have hw := hw.2 c215
          refine lv_iload hx hb dX9_jugs_223 (lv_at hl 0 rfl) ?_
          refine lv_if_ge (tgt := 232) hx hb dX9_jugs_225 (by decide) (fun c225 => ?_) (fun c225 => ?_)
          · have hw := hw.1 c225
            refine lv_iconst (v := (1 : Int32)) hx hb dX9_jugs_232 (by decide) ?_
            exact z_iret hx hb hr hlocks f_pours hw hP hS dX9_jugs_233
          have hw := hw.2 c225
          refine lv_iconst (v := (0 : Int32)) hx hb dX9_jugs_228 (by decide) ?_
          refine lv_goto (tgt := 233) hx hb dX9_jugs_229 (by decide) ?_
          exact z_iret hx hb hr hlocks f_pours hw hP hS dX9_jugs_233
        have hw := hw.1 c215
        refine lv_iload hx hb dX9_jugs_218 (lv_at hl 0 rfl) ?_
        refine lv_goto (tgt := 233) hx hb dX9_jugs_220 (by decide) ?_
        exact z_iret hx hb hr hlocks f_pours hw hP hS dX9_jugs_233
      have hw := hw.2 c63
      refine lv_iconst (v := (0 : Int32)) hx hb dX9_jugs_66 (by decide) ?_
      refine lv_istore (lv' := [(7, .int (0 : Int32)), (0, .ref h), (3, .int p3), (4, .int x4), (5, .int x5), (6, .int x6)]) hx hb dX9_jugs_67 hl (by decide) rfl (fun ls hl => ?_)
      obtain ⟨n69, hw⟩ := hw
      exact L69 n69 f_pours x4 x5 x6 (0 : Int32) _ _ _ hw hP hD hS (lv_sub hl [1, 2, 3, 4, 5, 0] rfl)
  have J54 : ∀ (f_pours : Nat → Int32) (x4 : Int32) (s0 : Int32) (H : Heap) (locs : List Loc) (ls : Array Slot) (hw : w_X9_jugs_B54 post p1 p2 p3 f_pours x4 s0) (hP : va_P D vwCl (cw_X9_jugs cI h h_pours g_book g_now g_places g_power g_spite g_ways g_milky g_sights g_sight g_signs g_pad g_offAt g_offWho g_reason g_acts g_enough g_rows g_counts g_image g_isKept f_pours) H) (hD : va_D A (cw_X9_jugs cI h h_pours g_book g_now g_places g_power g_spite g_ways g_milky g_sights g_sight g_signs g_pad g_offAt g_offWho g_reason g_acts g_enough g_rows g_counts g_image g_isKept f_pours)) (hS : va_S A s.heap H locs) (hl : lv_has ls 12 [(0, .ref h), (3, .int p3), (4, .int x4)]), W p l e (headSpec v_X9_jugs ({ frames := 1, cells := 0, slots := 0, locals := 22 } : Room)).room s m (([.ref h, .int p1, .int p2, .int p3] : List Value).toArray) below meth c H locs 0 0 (MQ below (q_X9_jugs D cI h h_pours g_book g_now g_places g_power g_spite g_ways g_milky g_sights g_sight g_signs g_pad g_offAt g_offWho g_reason g_acts g_enough g_rows g_counts g_image g_isKept post A) (([.ref h, .int p1, .int p2, .int p3] : List Value).toArray) s 0 0 A) (F0 m 54 ls [.int s0]) := by
    intro f_pours x4 s0 H locs ls hw hP hD hS hl
    unfold w_X9_jugs_B54 at hw
    refine lv_istore (lv' := [(5, .int s0), (0, .ref h), (3, .int p3), (4, .int x4)]) hx hb dX9_jugs_54 hl (by decide) rfl (fun ls hl => ?_)
    refine lv_iconst (v := (0 : Int32)) hx hb dX9_jugs_56 (by decide) ?_
    refine lv_istore (lv' := [(6, .int (0 : Int32)), (5, .int s0), (0, .ref h), (3, .int p3), (4, .int x4)]) hx hb dX9_jugs_57 hl (by decide) rfl (fun ls hl => ?_)
    obtain ⟨n59, hw⟩ := hw
    exact L59 n59 f_pours x4 s0 (0 : Int32) _ _ _ hw hP hD hS (lv_sub hl [2, 3, 4, 1, 0] rfl)
  have J42 : ∀ (f_pours : Nat → Int32) (s0 : Int32) (H : Heap) (locs : List Loc) (ls : Array Slot) (hw : w_X9_jugs_B42 post p1 p2 p3 f_pours s0) (hP : va_P D vwCl (cw_X9_jugs cI h h_pours g_book g_now g_places g_power g_spite g_ways g_milky g_sights g_sight g_signs g_pad g_offAt g_offWho g_reason g_acts g_enough g_rows g_counts g_image g_isKept f_pours) H) (hD : va_D A (cw_X9_jugs cI h h_pours g_book g_now g_places g_power g_spite g_ways g_milky g_sights g_sight g_signs g_pad g_offAt g_offWho g_reason g_acts g_enough g_rows g_counts g_image g_isKept f_pours)) (hS : va_S A s.heap H locs) (hl : lv_has ls 12 [(0, .ref h), (1, .int p1), (2, .int p2), (3, .int p3)]), W p l e (headSpec v_X9_jugs ({ frames := 1, cells := 0, slots := 0, locals := 22 } : Room)).room s m (([.ref h, .int p1, .int p2, .int p3] : List Value).toArray) below meth c H locs 0 0 (MQ below (q_X9_jugs D cI h h_pours g_book g_now g_places g_power g_spite g_ways g_milky g_sights g_sight g_signs g_pad g_offAt g_offWho g_reason g_acts g_enough g_rows g_counts g_image g_isKept post A) (([.ref h, .int p1, .int p2, .int p3] : List Value).toArray) s 0 0 A) (F0 m 42 ls [.int s0]) := by
    intro f_pours s0 H locs ls hw hP hD hS hl
    unfold w_X9_jugs_B42 at hw
    refine lv_istore (lv' := [(4, .int s0), (0, .ref h), (1, .int p1), (2, .int p2), (3, .int p3)]) hx hb dX9_jugs_42 hl (by decide) rfl (fun ls hl => ?_)
    refine lv_iload_n hx hb dX9_jugs_44 rfl (lv_at hl 2 rfl) ?_
    refine lv_iload_n hx hb dX9_jugs_45 rfl (lv_at hl 3 rfl) ?_
    refine lv_icmp_le (tgt := 53) hx hb dX9_jugs_46 (by decide) (fun c46 => ?_) (fun c46 => ?_)
    · have hw := hw.1 c46
      refine lv_iload_n hx hb dX9_jugs_53 rfl (lv_at hl 2 rfl) ?_
      exact J54 f_pours s0 p1 _ _ _ hw hP hD hS (lv_sub hl [1, 4, 0] rfl)
    have hw := hw.2 c46
    refine lv_iload_n hx hb dX9_jugs_49 rfl (lv_at hl 3 rfl) ?_
    refine lv_goto (tgt := 54) hx hb dX9_jugs_50 (by decide) ?_
    exact J54 f_pours s0 p2 _ _ _ hw hP hD hS (lv_sub hl [1, 4, 0] rfl)
  unfold w_X9_jugs at hw
  refine lv_iload_n hx hb dX9_jugs_0 rfl (lv_at hl 1 rfl) ?_
  refine lv_iconst (v := (0 : Int32)) hx hb dX9_jugs_1 (by decide) ?_
  refine lv_bipush (v := (99 : Int32)) hx hb dX9_jugs_2 (by decide) ?_
  refine z_ri (z_runS (As := [.int p1, .int (0 : Int32), .int (99 : Int32)]) (rest := []) hF (c_X9_in l D cI cC cZ p1 (0 : Int32) (99 : Int32) _ _ hw) (va_cwS 3 hz (z_gS z3_225 z3_226 z1_10 z3_227) rfl rfl rfl hd_X9_in ⟨Nat.le_of_ble_eq_true rfl, Nat.le_of_ble_eq_true rfl⟩) hK hP hD [] rfl rfl rfl hl.1 rfl (Nat.le_of_ble_eq_true rfl) dX9_jugs_4 ⟨Nat.zero_le _, Nat.zero_le _⟩) hP hD hS hA [] rfl (fun _ => rfl) (fun _ => cw_X9_jugs cI h h_pours g_book g_now g_places g_power g_spite g_ways g_milky g_sights g_sight g_signs g_pad g_offAt g_offWho g_reason g_acts g_enough g_rows g_counts g_image g_isKept f_pours) (fun _ => rfl) (fun r4 u4 H locs hw hP hD hS => ?_)
  obtain ⟨hn4, hw⟩ := hw
  try dsimp only at hw
  refine lv_if_eq (tgt := 29) hx hb dX9_jugs_7 (by decide) (fun c7 => ?_) (fun c7 => ?_)
  · have hw := hw.1 c7
    refine lv_bipush (v := (-2 : Int32)) hx hb dX9_jugs_29 (by decide) ?_
    exact z_iret hx hb hr hlocks f_pours hw hP hS dX9_jugs_31
  have hw := hw.2 c7
  refine lv_iload_n hx hb dX9_jugs_10 rfl (lv_at hl 2 rfl) ?_
  refine lv_iconst (v := (0 : Int32)) hx hb dX9_jugs_11 (by decide) ?_
  refine lv_bipush (v := (99 : Int32)) hx hb dX9_jugs_12 (by decide) ?_
  refine z_ri (z_runS (As := [.int p2, .int (0 : Int32), .int (99 : Int32)]) (rest := []) hF (c_X9_in l D cI cC cZ p2 (0 : Int32) (99 : Int32) _ _ hw) (va_cwS 3 hz (z_gS z3_225 z3_226 z1_10 z3_227) rfl rfl rfl hd_X9_in ⟨Nat.le_of_ble_eq_true rfl, Nat.le_of_ble_eq_true rfl⟩) hK hP hD [] rfl rfl rfl hl.1 rfl (Nat.le_of_ble_eq_true rfl) dX9_jugs_14 ⟨Nat.zero_le _, Nat.zero_le _⟩) hP hD hS hA [] rfl (fun _ => rfl) (fun _ => cw_X9_jugs cI h h_pours g_book g_now g_places g_power g_spite g_ways g_milky g_sights g_sight g_signs g_pad g_offAt g_offWho g_reason g_acts g_enough g_rows g_counts g_image g_isKept f_pours) (fun _ => rfl) (fun r14 u14 H locs hw hP hD hS => ?_)
  obtain ⟨hn14, hw⟩ := hw
  try dsimp only at hw
  refine lv_if_eq (tgt := 29) hx hb dX9_jugs_17 (by decide) (fun c17 => ?_) (fun c17 => ?_)
  · have hw := hw.1 c17
    refine lv_bipush (v := (-2 : Int32)) hx hb dX9_jugs_29 (by decide) ?_
    exact z_iret hx hb hr hlocks f_pours hw hP hS dX9_jugs_31
  have hw := hw.2 c17
  refine lv_iload_n hx hb dX9_jugs_20 rfl (lv_at hl 3 rfl) ?_
  refine lv_iconst (v := (0 : Int32)) hx hb dX9_jugs_21 (by decide) ?_
  refine lv_iconst (v := (1 : Int32)) hx hb dX9_jugs_22 (by decide) ?_
  refine z_ri (z_runS (As := [.int p3, .int (0 : Int32), .int (1 : Int32)]) (rest := []) hF (c_X9_in l D cI cC cZ p3 (0 : Int32) (1 : Int32) _ _ hw) (va_cwS 3 hz (z_gS z3_225 z3_226 z1_10 z3_227) rfl rfl rfl hd_X9_in ⟨Nat.le_of_ble_eq_true rfl, Nat.le_of_ble_eq_true rfl⟩) hK hP hD [] rfl rfl rfl hl.1 rfl (Nat.le_of_ble_eq_true rfl) dX9_jugs_23 ⟨Nat.zero_le _, Nat.zero_le _⟩) hP hD hS hA [] rfl (fun _ => rfl) (fun _ => cw_X9_jugs cI h h_pours g_book g_now g_places g_power g_spite g_ways g_milky g_sights g_sight g_signs g_pad g_offAt g_offWho g_reason g_acts g_enough g_rows g_counts g_image g_isKept f_pours) (fun _ => rfl) (fun r23 u23 H locs hw hP hD hS => ?_)
  obtain ⟨hn23, hw⟩ := hw
  try dsimp only at hw
  refine lv_if_ne (tgt := 32) hx hb dX9_jugs_26 (by decide) (fun c26 => ?_) (fun c26 => ?_)
  · have hw := hw.2 c26
    refine lv_iload_n hx hb dX9_jugs_32 rfl (lv_at hl 1 rfl) ?_
    refine lv_iload_n hx hb dX9_jugs_33 rfl (lv_at hl 2 rfl) ?_
    refine lv_icmp_le (tgt := 41) hx hb dX9_jugs_34 (by decide) (fun c34 => ?_) (fun c34 => ?_)
    · have hw := hw.1 c34
      refine lv_iload_n hx hb dX9_jugs_41 rfl (lv_at hl 2 rfl) ?_
      exact J42 f_pours p2 _ _ _ hw hP hD hS (lv_sub hl [0, 1, 2, 3] rfl)
    have hw := hw.2 c34
    refine lv_iload_n hx hb dX9_jugs_37 rfl (lv_at hl 1 rfl) ?_
    refine lv_goto (tgt := 42) hx hb dX9_jugs_38 (by decide) ?_
    exact J42 f_pours p1 _ _ _ hw hP hD hS (lv_sub hl [0, 1, 2, 3] rfl)
  have hw := hw.1 c26
  refine lv_bipush (v := (-2 : Int32)) hx hb dX9_jugs_29 (by decide) ?_
  exact z_iret hx hb hr hlocks f_pours hw hP hS dX9_jugs_31
abbrev cw_X9_odds (h : Nat) (g_book g_now g_places g_power g_spite g_ways g_milky g_sights g_sight g_signs g_pad g_offAt g_offWho g_reason g_acts g_enough g_rows g_counts g_pours g_image g_isKept : Value) : va_W := [(h, .inr (9, [g_book, g_now, g_places, g_power, g_spite, g_ways, g_milky, g_sights, g_sight, g_signs, g_pad, g_offAt, g_offWho, g_reason, g_acts, g_enough, g_rows, g_counts, g_pours, g_image, g_isKept]))]
abbrev q_X9_odds (D : va_G) (h : Nat) (g_book g_now g_places g_power g_spite g_ways g_milky g_sights g_sight g_signs g_pad g_offAt g_offWho g_reason g_acts g_enough g_rows g_counts g_pours g_image g_isKept : Value) (post : Int64 → Prop) (A : Nat → Prop) : Array Value → State → Outcome → State → Prop := va_Ql (S := Unit) (fun r _ => post r ) (fun _ t => va_P D vwCl (cw_X9_odds h g_book g_now g_places g_power g_spite g_ways g_milky g_sights g_sight g_signs g_pad g_offAt g_offWho g_reason g_acts g_enough g_rows g_counts g_pours g_image g_isKept) t.heap) A
abbrev v_X9_odds : List Cond := .code yX9_odds cX9_odds 18 (some .long) :: zB
theorem hd_X9_odds : yX9_odds.cls = RX9 ∧ yX9_odds.cls ≠ "java/lang/invoke/MethodHandle" ∧ yX9_odds.cls ≠ "java/lang/invoke/VarHandle" ∧ (parseMethodDescriptor yX9_odds.desc).map (fun d => d.parameters.length) = some 5 := by decide +kernel
set_option maxHeartbeats 4000000 in
set_option maxRecDepth 100000 in
theorem c_X9_odds (l : Launch) (D : va_G) (cI cC cZ : ClassId) (h : Nat) (g_book g_now g_places g_power g_spite g_ways g_milky g_sights g_sight g_signs g_pad g_offAt g_offWho g_reason g_acts g_enough g_rows g_counts g_pours g_image g_isKept : Value) (p1 : Int32) (p2 : Int32) (p3 : Int32) (p4 : Int32) (p5 : Int32) (sz : Nat) (post : Int64 → Prop) (hw : w_X9_odds post p1 p2 p3 p4 p5) : Met l yX9_odds v_X9_odds ({ frames := 1, cells := 0, slots := 0, locals := 22 } : Room) (va_Pc [.ref h, .int p1, .int p2, .int p3, .int p4, .int p5] (zPre D (zT cI cC cZ) sz (cw_X9_odds h g_book g_now g_places g_power g_spite g_ways g_milky g_sights g_sight g_signs g_pad g_offAt g_offWho g_reason g_acts g_enough g_rows g_counts g_pours g_image g_isKept))) (q_X9_odds D h g_book g_now g_places g_power g_spite g_ways g_milky g_sights g_sight g_signs g_pad g_offAt g_offWho g_reason g_acts g_enough g_rows g_counts g_pours g_image g_isKept post (va_A (cw_X9_odds h g_book g_now g_places g_power g_spite g_ways g_milky g_sights g_sight g_signs g_pad g_offAt g_offWho g_reason g_acts g_enough g_rows g_counts g_pours g_image g_isKept) sz)) 0 0 (va_A (cw_X9_odds h g_book g_now g_places g_power g_spite g_ways g_milky g_sights g_sight g_signs g_pad g_offAt g_offWho g_reason g_acts g_enough g_rows g_counts g_pours g_image g_isKept) sz) := by
  refine Met.ofW (cc := cX9_odds) (maxL := 18) (ret := (some .long)) (by decide) rfl ?_
  intro p e s m args below meth c s₁ B hml hv
  obtain ⟨rfl, hsz, hP, hK, hD0⟩ := hv
  subst hsz
  have hx := B.exec
  have hb := B.bytes
  have hr := B.returns
  have hz : ∀ w ∈ zB, w.before _ s = true := fun w h => atoms_spec (ws := v_X9_odds) B.pre w (List.mem_cons_of_mem _ h)
  have hown : s.vm.findClass RX9 = some m.cls := findClass_of_methodNamed B.named
  have hlocks := B.notSynchronized
  have hF : CallFix p m c cX9_odds 18 s (([.ref h, .int p1, .int p2, .int p3, .int p4, .int p5] : List Value).toArray) zB RX9 := ⟨hx, hb, hml, hown, hz⟩
  have hD := hD0.self (sz := s.heap.size)
  generalize hAe : va_A (cw_X9_odds h g_book g_now g_places g_power g_spite g_ways g_milky g_sights g_sight g_signs g_pad g_offAt g_offWho g_reason g_acts g_enough g_rows g_counts g_pours g_image g_isKept) s.heap.size = A at hD ⊢
  have hA : ∀ q : Nat, s.heap.size ≤ q → A q := fun q h => by rw [← hAe]; exact Or.inr h
  have hS : va_S A s.heap s.heap [] := va_S.rf
  have hP : va_P D vwCl (cw_X9_odds h g_book g_now g_places g_power g_spite g_ways g_milky g_sights g_sight g_signs g_pad g_offAt g_offWho g_reason g_acts g_enough g_rows g_counts g_pours g_image g_isKept) s.heap := hP
  have hl := lv_entry ([.ref h, .int p1, .int p2, .int p3, .int p4, .int p5]) (n := 18) (Nat.le_of_ble_eq_true rfl)
  rw [lg_entry_eq]
  generalize (lg_sl ([.ref h, .int p1, .int p2, .int p3, .int p4, .int p5]) ++ List.replicate (18 - (lg_sl ([.ref h, .int p1, .int p2, .int p3, .int p4, .int p5])).length) Slot.unset).toArray = ls at hl ⊢
  have hl : lv_has ls 18 [(0, .ref h), (1, .int p1), (2, .int p2), (3, .int p3), (4, .int p4), (5, .int p5)] := hl
  have L140 : ∀ (n140 : Nat) (x6 : Int64) (x10 : Int64) (x12 : Int64) (x14 : Int64) (H : Heap) (locs : List Loc) (ls : Array Slot) (hw : w_X9_odds_B140 post p1 p2 p3 p4 p5 n140 x6 x10 x12 x14) (hP : va_P D vwCl (cw_X9_odds h g_book g_now g_places g_power g_spite g_ways g_milky g_sights g_sight g_signs g_pad g_offAt g_offWho g_reason g_acts g_enough g_rows g_counts g_pours g_image g_isKept) H) (hD : va_D A (cw_X9_odds h g_book g_now g_places g_power g_spite g_ways g_milky g_sights g_sight g_signs g_pad g_offAt g_offWho g_reason g_acts g_enough g_rows g_counts g_pours g_image g_isKept)) (hS : va_S A s.heap H locs) (hl : lv_has ls 18 [(5, .int p5), (6, .long x6), (10, .long x10), (12, .long x12), (14, .long x14)]), W p l e (headSpec v_X9_odds ({ frames := 1, cells := 0, slots := 0, locals := 22 } : Room)).room s m (([.ref h, .int p1, .int p2, .int p3, .int p4, .int p5] : List Value).toArray) below meth c H locs 0 0 (MQ below (q_X9_odds D h g_book g_now g_places g_power g_spite g_ways g_milky g_sights g_sight g_signs g_pad g_offAt g_offWho g_reason g_acts g_enough g_rows g_counts g_pours g_image g_isKept post A) (([.ref h, .int p1, .int p2, .int p3, .int p4, .int p5] : List Value).toArray) s 0 0 A) (F0 m 140 ls []) := by
    intro n140
    induction n140 with
    | zero => intro x6 x10 x12 x14 H locs ls hw; exact False.elim hw
    | succ n140 ih140 =>
      intro x6 x10 x12 x14 H locs ls hw hP hD hS hl
      unfold w_X9_odds_B140 at hw
      refine lv_lload hx hb dX9_odds_140 (lv_at hl 4 rfl) ?_
      refine lv_lconst (v := (0 : Int64)) hx hb dX9_odds_142 (by decide) ?_
      refine W.lcmp hx hb dX9_odds_143 ?_
      refine lv_if_eq (tgt := 165) hx hb dX9_odds_144 (by decide) (fun c144 => ?_) (fun c144 => ?_)
      · have hw := hw.1 c144
        refine lv_iload hx hb dX9_odds_165 (lv_at hl 0 rfl) ?_
        refine lv_if_ne (tgt := 178) hx hb dX9_odds_167 (by decide) (fun c167 => ?_) (fun c167 => ?_)
        · have hw := hw.2 c167
          refine lv_lload hx hb dX9_odds_178 (lv_at hl 2 rfl) ?_
          refine lv_lload hx hb dX9_odds_180 (lv_at hl 3 rfl) ?_
          obtain ⟨hz182, hw⟩ := hw
          refine lv_ldiv hx hb dX9_odds_182 hz182 ?_
          exact z_lret hx hb hr hlocks () hw hP hS dX9_odds_183
        have hw := hw.1 c167
        refine lv_lload hx hb dX9_odds_170 (lv_at hl 1 rfl) ?_
        refine lv_lload hx hb dX9_odds_172 (lv_at hl 3 rfl) ?_
        obtain ⟨hz174, hw⟩ := hw
        refine lv_ldiv hx hb dX9_odds_174 hz174 ?_
        refine lv_goto (tgt := 183) hx hb dX9_odds_175 (by decide) ?_
        exact z_lret hx hb hr hlocks () hw hP hS dX9_odds_183
      have hw := hw.2 c144
      refine lv_lload hx hb dX9_odds_147 (lv_at hl 3 rfl) ?_
      refine lv_lload hx hb dX9_odds_149 (lv_at hl 4 rfl) ?_
      obtain ⟨hz151, hw⟩ := hw
      refine lv_lrem hx hb dX9_odds_151 hz151 ?_
      refine lv_lstore (lv' := [(16, .long (x12 - x12 / x14 * x14)), (5, .int p5), (6, .long x6), (10, .long x10), (12, .long x12), (14, .long x14)]) hx hb dX9_odds_152 hl (by decide) rfl (fun ls hl => ?_)
      refine lv_lload hx hb dX9_odds_154 (lv_at hl 5 rfl) ?_
      refine lv_lstore (lv' := [(12, .long x14), (16, .long (x12 - x12 / x14 * x14)), (5, .int p5), (6, .long x6), (10, .long x10), (14, .long x14)]) hx hb dX9_odds_156 hl (by decide) rfl (fun ls hl => ?_)
      refine lv_lload hx hb dX9_odds_158 (lv_at hl 1 rfl) ?_
      refine lv_lstore (lv' := [(14, .long (x12 - x12 / x14 * x14)), (12, .long x14), (16, .long (x12 - x12 / x14 * x14)), (5, .int p5), (6, .long x6), (10, .long x10)]) hx hb dX9_odds_160 hl (by decide) rfl (fun ls hl => ?_)
      refine lv_goto (tgt := 140) hx hb dX9_odds_162 (by decide) ?_
      exact ih140 x6 x10 x14 (x12 - x12 / x14 * x14) _ _ _ hw hP hD hS (lv_sub hl [3, 4, 5, 1, 0] rfl)
  have L69 : ∀ (n69 : Nat) (x6 : Int64) (x8 : Int64) (x10 : Int32) (H : Heap) (locs : List Loc) (ls : Array Slot) (hw : w_X9_odds_B69 post p1 p2 p3 p4 p5 n69 x6 x8 x10) (hP : va_P D vwCl (cw_X9_odds h g_book g_now g_places g_power g_spite g_ways g_milky g_sights g_sight g_signs g_pad g_offAt g_offWho g_reason g_acts g_enough g_rows g_counts g_pours g_image g_isKept) H) (hD : va_D A (cw_X9_odds h g_book g_now g_places g_power g_spite g_ways g_milky g_sights g_sight g_signs g_pad g_offAt g_offWho g_reason g_acts g_enough g_rows g_counts g_pours g_image g_isKept)) (hS : va_S A s.heap H locs) (hl : lv_has ls 18 [(2, .int p2), (3, .int p3), (4, .int p4), (5, .int p5), (6, .long x6), (8, .long x8), (10, .int x10)]), W p l e (headSpec v_X9_odds ({ frames := 1, cells := 0, slots := 0, locals := 22 } : Room)).room s m (([.ref h, .int p1, .int p2, .int p3, .int p4, .int p5] : List Value).toArray) below meth c H locs 0 0 (MQ below (q_X9_odds D h g_book g_now g_places g_power g_spite g_ways g_milky g_sights g_sight g_signs g_pad g_offAt g_offWho g_reason g_acts g_enough g_rows g_counts g_pours g_image g_isKept post A) (([.ref h, .int p1, .int p2, .int p3, .int p4, .int p5] : List Value).toArray) s 0 0 A) (F0 m 69 ls []) := by
    intro n69
    induction n69 with
    | zero => intro x6 x8 x10 H locs ls hw; exact False.elim hw
    | succ n69 ih69 =>
      have J116 : ∀ (x6 : Int64) (x10 : Int32) (s0 : Int64) (s1 : Int64) (H : Heap) (locs : List Loc) (ls : Array Slot) (hw : w_X9_odds_B116 post p1 p2 p3 p4 p5 (fun x6 x8 x10 => w_X9_odds_B69 post p1 p2 p3 p4 p5 n69 x6 x8 x10) x6 x10 s0 s1) (hP : va_P D vwCl (cw_X9_odds h g_book g_now g_places g_power g_spite g_ways g_milky g_sights g_sight g_signs g_pad g_offAt g_offWho g_reason g_acts g_enough g_rows g_counts g_pours g_image g_isKept) H) (hD : va_D A (cw_X9_odds h g_book g_now g_places g_power g_spite g_ways g_milky g_sights g_sight g_signs g_pad g_offAt g_offWho g_reason g_acts g_enough g_rows g_counts g_pours g_image g_isKept)) (hS : va_S A s.heap H locs) (hl : lv_has ls 18 [(2, .int p2), (3, .int p3), (4, .int p4), (5, .int p5), (6, .long x6), (10, .int x10)]), W p l e (headSpec v_X9_odds ({ frames := 1, cells := 0, slots := 0, locals := 22 } : Room)).room s m (([.ref h, .int p1, .int p2, .int p3, .int p4, .int p5] : List Value).toArray) below meth c H locs 0 0 (MQ below (q_X9_odds D h g_book g_now g_places g_power g_spite g_ways g_milky g_sights g_sight g_signs g_pad g_offAt g_offWho g_reason g_acts g_enough g_rows g_counts g_pours g_image g_isKept post A) (([.ref h, .int p1, .int p2, .int p3, .int p4, .int p5] : List Value).toArray) s 0 0 A) (F0 m 116 ls [.long s1, .long s0]) := by
        intro x6 x10 s0 s1 H locs ls hw hP hD hS hl
        unfold w_X9_odds_B116 at hw
        refine lv_lmul hx hb dX9_odds_116 ?_
        refine lv_lstore (lv' := [(8, .long (s0 * s1)), (2, .int p2), (3, .int p3), (4, .int p4), (5, .int p5), (6, .long x6), (10, .int x10)]) hx hb dX9_odds_117 hl (by decide) rfl (fun ls hl => ?_)
        refine lv_iinc (k := 6) (v := (x10 + 1)) (lv' := [(10, .int (x10 + 1)), (8, .long (s0 * s1)), (2, .int p2), (3, .int p3), (4, .int p4), (5, .int p5), (6, .long x6)]) hx hb dX9_odds_119 hl rfl rfl (by decide) rfl (fun ls hl => ?_)
        refine lv_goto (tgt := 69) hx hb dX9_odds_122 (by decide) ?_
        exact ih69 x6 (s0 * s1) (x10 + 1) _ _ _ hw hP hD hS (lv_sub hl [2, 3, 4, 5, 6, 1, 0] rfl)
      have J94 : ∀ (x8 : Int64) (x10 : Int32) (s0 : Int64) (s1 : Int64) (H : Heap) (locs : List Loc) (ls : Array Slot) (hw : w_X9_odds_B94 post p1 p2 p3 p4 p5 (fun x6 x8 x10 => w_X9_odds_B69 post p1 p2 p3 p4 p5 n69 x6 x8 x10) x8 x10 s0 s1) (hP : va_P D vwCl (cw_X9_odds h g_book g_now g_places g_power g_spite g_ways g_milky g_sights g_sight g_signs g_pad g_offAt g_offWho g_reason g_acts g_enough g_rows g_counts g_pours g_image g_isKept) H) (hD : va_D A (cw_X9_odds h g_book g_now g_places g_power g_spite g_ways g_milky g_sights g_sight g_signs g_pad g_offAt g_offWho g_reason g_acts g_enough g_rows g_counts g_pours g_image g_isKept)) (hS : va_S A s.heap H locs) (hl : lv_has ls 18 [(2, .int p2), (3, .int p3), (4, .int p4), (5, .int p5), (8, .long x8), (10, .int x10)]), W p l e (headSpec v_X9_odds ({ frames := 1, cells := 0, slots := 0, locals := 22 } : Room)).room s m (([.ref h, .int p1, .int p2, .int p3, .int p4, .int p5] : List Value).toArray) below meth c H locs 0 0 (MQ below (q_X9_odds D h g_book g_now g_places g_power g_spite g_ways g_milky g_sights g_sight g_signs g_pad g_offAt g_offWho g_reason g_acts g_enough g_rows g_counts g_pours g_image g_isKept post A) (([.ref h, .int p1, .int p2, .int p3, .int p4, .int p5] : List Value).toArray) s 0 0 A) (F0 m 94 ls [.long s1, .long s0]) := by
        intro x8 x10 s0 s1 H locs ls hw hP hD hS hl
        unfold w_X9_odds_B94 at hw
        refine lv_lmul hx hb dX9_odds_94 ?_
        refine lv_lstore (lv' := [(6, .long (s0 * s1)), (2, .int p2), (3, .int p3), (4, .int p4), (5, .int p5), (8, .long x8), (10, .int x10)]) hx hb dX9_odds_95 hl (by decide) rfl (fun ls hl => ?_)
        refine lv_lload hx hb dX9_odds_97 (lv_at hl 5 rfl) ?_
        refine lv_iload hx hb dX9_odds_99 (lv_at hl 6 rfl) ?_
        refine lv_iload hx hb dX9_odds_101 (lv_at hl 3 rfl) ?_
        refine lv_icmp_ge (tgt := 114) hx hb dX9_odds_103 (by decide) (fun c103 => ?_) (fun c103 => ?_)
        · have hw := hw.1 c103
          refine lv_iload_n hx hb dX9_odds_114 rfl (lv_at hl 1 rfl) ?_
          refine lv_i2l (v := p2.toInt64) hx hb dX9_odds_115 rfl ?_
          exact J116 (s0 * s1) x10 x8 p2.toInt64 _ _ _ hw hP hD hS (lv_sub hl [1, 2, 3, 4, 0, 6] rfl)
        have hw := hw.2 c103
        refine lv_bipush (v := (10 : Int32)) hx hb dX9_odds_106 (by decide) ?_
        refine lv_iload_n hx hb dX9_odds_108 rfl (lv_at hl 1 rfl) ?_
        refine lv_isub hx hb dX9_odds_109 ?_
        refine lv_i2l (v := ((10 : Int32) - p2).toInt64) hx hb dX9_odds_110 rfl ?_
        refine lv_goto (tgt := 116) hx hb dX9_odds_111 (by decide) ?_
        exact J116 (s0 * s1) x10 x8 (((10 : Int32) - p2).toInt64) _ _ _ hw hP hD hS (lv_sub hl [1, 2, 3, 4, 0, 6] rfl)
      intro x6 x8 x10 H locs ls hw hP hD hS hl
      unfold w_X9_odds_B69 at hw
      refine lv_iload hx hb dX9_odds_69 (lv_at hl 6 rfl) ?_
      refine lv_iload_n hx hb dX9_odds_71 rfl (lv_at hl 1 rfl) ?_
      refine lv_icmp_ge (tgt := 125) hx hb dX9_odds_72 (by decide) (fun c72 => ?_) (fun c72 => ?_)
      · have hw := hw.1 c72
        refine lv_lload hx hb dX9_odds_125 (lv_at hl 4 rfl) ?_
        refine lv_lload hx hb dX9_odds_127 (lv_at hl 5 rfl) ?_
        refine lv_ladd hx hb dX9_odds_129 ?_
        refine lv_lstore (lv' := [(10, .long (x6 + x8)), (2, .int p2), (3, .int p3), (4, .int p4), (5, .int p5), (6, .long x6), (8, .long x8)]) hx hb dX9_odds_130 hl (by decide) rfl (fun ls hl => ?_)
        refine lv_lload hx hb dX9_odds_132 (lv_at hl 5 rfl) ?_
        refine lv_lstore (lv' := [(12, .long x6), (10, .long (x6 + x8)), (2, .int p2), (3, .int p3), (4, .int p4), (5, .int p5), (6, .long x6), (8, .long x8)]) hx hb dX9_odds_134 hl (by decide) rfl (fun ls hl => ?_)
        refine lv_lload hx hb dX9_odds_136 (lv_at hl 1 rfl) ?_
        refine lv_lstore (lv' := [(14, .long (x6 + x8)), (12, .long x6), (10, .long (x6 + x8)), (2, .int p2), (3, .int p3), (4, .int p4), (5, .int p5), (6, .long x6), (8, .long x8)]) hx hb dX9_odds_138 hl (by decide) rfl (fun ls hl => ?_)
        obtain ⟨n140, hw⟩ := hw
        exact L140 n140 x6 (x6 + x8) x6 (x6 + x8) _ _ _ hw hP hD hS (lv_sub hl [6, 7, 2, 1, 0] rfl)
      have hw := hw.2 c72
      refine lv_lload hx hb dX9_odds_75 (lv_at hl 4 rfl) ?_
      refine lv_iload hx hb dX9_odds_77 (lv_at hl 6 rfl) ?_
      refine lv_iload hx hb dX9_odds_79 (lv_at hl 2 rfl) ?_
      refine lv_icmp_ge (tgt := 89) hx hb dX9_odds_81 (by decide) (fun c81 => ?_) (fun c81 => ?_)
      · have hw := hw.1 c81
        refine lv_bipush (v := (10 : Int32)) hx hb dX9_odds_89 (by decide) ?_
        refine lv_iload_n hx hb dX9_odds_91 rfl (lv_at hl 0 rfl) ?_
        refine lv_isub hx hb dX9_odds_92 ?_
        refine lv_i2l (v := ((10 : Int32) - p2).toInt64) hx hb dX9_odds_93 rfl ?_
        exact J94 x8 x10 x6 (((10 : Int32) - p2).toInt64) _ _ _ hw hP hD hS (lv_sub hl [0, 1, 2, 3, 5, 6] rfl)
      have hw := hw.2 c81
      refine lv_iload_n hx hb dX9_odds_84 rfl (lv_at hl 0 rfl) ?_
      refine lv_i2l (v := p2.toInt64) hx hb dX9_odds_85 rfl ?_
      refine lv_goto (tgt := 94) hx hb dX9_odds_86 (by decide) ?_
      exact J94 x8 x10 x6 p2.toInt64 _ _ _ hw hP hD hS (lv_sub hl [0, 1, 2, 3, 5, 6] rfl)
  unfold w_X9_odds at hw
  refine lv_iload_n hx hb dX9_odds_0 rfl (lv_at hl 1 rfl) ?_
  refine lv_iconst (v := (1 : Int32)) hx hb dX9_odds_1 (by decide) ?_
  refine lv_bipush (v := (9 : Int32)) hx hb dX9_odds_2 (by decide) ?_
  refine z_ri (z_runS (As := [.int p1, .int (1 : Int32), .int (9 : Int32)]) (rest := []) hF (c_X9_in l D cI cC cZ p1 (1 : Int32) (9 : Int32) _ _ hw) (va_cwS 3 hz (z_gS z3_225 z3_226 z1_10 z3_227) rfl rfl rfl hd_X9_in ⟨Nat.le_of_ble_eq_true rfl, Nat.le_of_ble_eq_true rfl⟩) hK hP hD [] rfl rfl rfl hl.1 rfl (Nat.le_of_ble_eq_true rfl) dX9_odds_4 ⟨Nat.zero_le _, Nat.zero_le _⟩) hP hD hS hA [] rfl (fun _ => rfl) (fun _ => cw_X9_odds h g_book g_now g_places g_power g_spite g_ways g_milky g_sights g_sight g_signs g_pad g_offAt g_offWho g_reason g_acts g_enough g_rows g_counts g_pours g_image g_isKept) (fun _ => rfl) (fun r4 u4 H locs hw hP hD hS => ?_)
  obtain ⟨hn4, hw⟩ := hw
  try dsimp only at hw
  refine lv_if_eq (tgt := 50) hx hb dX9_odds_7 (by decide) (fun c7 => ?_) (fun c7 => ?_)
  · have hw := hw.1 c7
    refine lv_ldc2 (v := (-1000000000000000002 : Int64)) hx hb hown (hz _ z4_175) dX9_odds_50 ?_
    exact z_lret hx hb hr hlocks () hw hP hS dX9_odds_53
  have hw := hw.2 c7
  refine lv_iload_n hx hb dX9_odds_10 rfl (lv_at hl 2 rfl) ?_
  refine lv_iconst (v := (1 : Int32)) hx hb dX9_odds_11 (by decide) ?_
  refine lv_bipush (v := (9 : Int32)) hx hb dX9_odds_12 (by decide) ?_
  refine z_ri (z_runS (As := [.int p2, .int (1 : Int32), .int (9 : Int32)]) (rest := []) hF (c_X9_in l D cI cC cZ p2 (1 : Int32) (9 : Int32) _ _ hw) (va_cwS 3 hz (z_gS z3_225 z3_226 z1_10 z3_227) rfl rfl rfl hd_X9_in ⟨Nat.le_of_ble_eq_true rfl, Nat.le_of_ble_eq_true rfl⟩) hK hP hD [] rfl rfl rfl hl.1 rfl (Nat.le_of_ble_eq_true rfl) dX9_odds_14 ⟨Nat.zero_le _, Nat.zero_le _⟩) hP hD hS hA [] rfl (fun _ => rfl) (fun _ => cw_X9_odds h g_book g_now g_places g_power g_spite g_ways g_milky g_sights g_sight g_signs g_pad g_offAt g_offWho g_reason g_acts g_enough g_rows g_counts g_pours g_image g_isKept) (fun _ => rfl) (fun r14 u14 H locs hw hP hD hS => ?_)
  obtain ⟨hn14, hw⟩ := hw
  try dsimp only at hw
  refine lv_if_eq (tgt := 50) hx hb dX9_odds_17 (by decide) (fun c17 => ?_) (fun c17 => ?_)
  · have hw := hw.1 c17
    refine lv_ldc2 (v := (-1000000000000000002 : Int64)) hx hb hown (hz _ z4_175) dX9_odds_50 ?_
    exact z_lret hx hb hr hlocks () hw hP hS dX9_odds_53
  have hw := hw.2 c17
  refine lv_iload_n hx hb dX9_odds_20 rfl (lv_at hl 3 rfl) ?_
  refine lv_iconst (v := (0 : Int32)) hx hb dX9_odds_21 (by decide) ?_
  refine lv_bipush (v := (15 : Int32)) hx hb dX9_odds_22 (by decide) ?_
  refine z_ri (z_runS (As := [.int p3, .int (0 : Int32), .int (15 : Int32)]) (rest := []) hF (c_X9_in l D cI cC cZ p3 (0 : Int32) (15 : Int32) _ _ hw) (va_cwS 3 hz (z_gS z3_225 z3_226 z1_10 z3_227) rfl rfl rfl hd_X9_in ⟨Nat.le_of_ble_eq_true rfl, Nat.le_of_ble_eq_true rfl⟩) hK hP hD [] rfl rfl rfl hl.1 rfl (Nat.le_of_ble_eq_true rfl) dX9_odds_24 ⟨Nat.zero_le _, Nat.zero_le _⟩) hP hD hS hA [] rfl (fun _ => rfl) (fun _ => cw_X9_odds h g_book g_now g_places g_power g_spite g_ways g_milky g_sights g_sight g_signs g_pad g_offAt g_offWho g_reason g_acts g_enough g_rows g_counts g_pours g_image g_isKept) (fun _ => rfl) (fun r24 u24 H locs hw hP hD hS => ?_)
  obtain ⟨hn24, hw⟩ := hw
  try dsimp only at hw
  refine lv_if_eq (tgt := 50) hx hb dX9_odds_27 (by decide) (fun c27 => ?_) (fun c27 => ?_)
  · have hw := hw.1 c27
    refine lv_ldc2 (v := (-1000000000000000002 : Int64)) hx hb hown (hz _ z4_175) dX9_odds_50 ?_
    exact z_lret hx hb hr hlocks () hw hP hS dX9_odds_53
  have hw := hw.2 c27
  refine lv_iload hx hb dX9_odds_30 (lv_at hl 4 rfl) ?_
  refine lv_iconst (v := (0 : Int32)) hx hb dX9_odds_32 (by decide) ?_
  refine lv_iload_n hx hb dX9_odds_33 rfl (lv_at hl 3 rfl) ?_
  refine z_ri (z_runS (As := [.int p4, .int (0 : Int32), .int p3]) (rest := []) hF (c_X9_in l D cI cC cZ p4 (0 : Int32) p3 _ _ hw) (va_cwS 3 hz (z_gS z3_225 z3_226 z1_10 z3_227) rfl rfl rfl hd_X9_in ⟨Nat.le_of_ble_eq_true rfl, Nat.le_of_ble_eq_true rfl⟩) hK hP hD [] rfl rfl rfl hl.1 rfl (Nat.le_of_ble_eq_true rfl) dX9_odds_34 ⟨Nat.zero_le _, Nat.zero_le _⟩) hP hD hS hA [] rfl (fun _ => rfl) (fun _ => cw_X9_odds h g_book g_now g_places g_power g_spite g_ways g_milky g_sights g_sight g_signs g_pad g_offAt g_offWho g_reason g_acts g_enough g_rows g_counts g_pours g_image g_isKept) (fun _ => rfl) (fun r34 u34 H locs hw hP hD hS => ?_)
  obtain ⟨hn34, hw⟩ := hw
  try dsimp only at hw
  refine lv_if_eq (tgt := 50) hx hb dX9_odds_37 (by decide) (fun c37 => ?_) (fun c37 => ?_)
  · have hw := hw.1 c37
    refine lv_ldc2 (v := (-1000000000000000002 : Int64)) hx hb hown (hz _ z4_175) dX9_odds_50 ?_
    exact z_lret hx hb hr hlocks () hw hP hS dX9_odds_53
  have hw := hw.2 c37
  refine lv_iload hx hb dX9_odds_40 (lv_at hl 5 rfl) ?_
  refine lv_iconst (v := (0 : Int32)) hx hb dX9_odds_42 (by decide) ?_
  refine lv_iconst (v := (1 : Int32)) hx hb dX9_odds_43 (by decide) ?_
  refine z_ri (z_runS (As := [.int p5, .int (0 : Int32), .int (1 : Int32)]) (rest := []) hF (c_X9_in l D cI cC cZ p5 (0 : Int32) (1 : Int32) _ _ hw) (va_cwS 3 hz (z_gS z3_225 z3_226 z1_10 z3_227) rfl rfl rfl hd_X9_in ⟨Nat.le_of_ble_eq_true rfl, Nat.le_of_ble_eq_true rfl⟩) hK hP hD [] rfl rfl rfl hl.1 rfl (Nat.le_of_ble_eq_true rfl) dX9_odds_44 ⟨Nat.zero_le _, Nat.zero_le _⟩) hP hD hS hA [] rfl (fun _ => rfl) (fun _ => cw_X9_odds h g_book g_now g_places g_power g_spite g_ways g_milky g_sights g_sight g_signs g_pad g_offAt g_offWho g_reason g_acts g_enough g_rows g_counts g_pours g_image g_isKept) (fun _ => rfl) (fun r44 u44 H locs hw hP hD hS => ?_)
  obtain ⟨hn44, hw⟩ := hw
  try dsimp only at hw
  refine lv_if_ne (tgt := 54) hx hb dX9_odds_47 (by decide) (fun c47 => ?_) (fun c47 => ?_)
  · have hw := hw.2 c47
    refine lv_iload_n hx hb dX9_odds_54 rfl (lv_at hl 1 rfl) ?_
    refine lv_i2l (v := p1.toInt64) hx hb dX9_odds_55 rfl ?_
    refine lv_lstore (lv' := [(6, .long (p1.toInt64)), (0, .ref h), (1, .int p1), (2, .int p2), (3, .int p3), (4, .int p4), (5, .int p5)]) hx hb dX9_odds_56 hl (by decide) rfl (fun ls hl => ?_)
    refine lv_ldc2 (v := (10 : Int64)) hx hb hown (hz _ z4_176) dX9_odds_58 ?_
    refine lv_iload_n hx hb dX9_odds_61 rfl (lv_at hl 2 rfl) ?_
    refine lv_i2l (v := p1.toInt64) hx hb dX9_odds_62 rfl ?_
    refine lv_lsub hx hb dX9_odds_63 ?_
    refine lv_topl (fun y64 ey64 => ?_)
    have hw := hw y64 ey64
    refine lv_lstore (lv' := [(8, .long y64), (6, .long (p1.toInt64)), (0, .ref h), (1, .int p1), (2, .int p2), (3, .int p3), (4, .int p4), (5, .int p5)]) hx hb dX9_odds_64 hl (by decide) rfl (fun ls hl => ?_)
    refine lv_iconst (v := (0 : Int32)) hx hb dX9_odds_66 (by decide) ?_
    refine lv_istore (lv' := [(10, .int (0 : Int32)), (8, .long y64), (6, .long (p1.toInt64)), (0, .ref h), (1, .int p1), (2, .int p2), (3, .int p3), (4, .int p4), (5, .int p5)]) hx hb dX9_odds_67 hl (by decide) rfl (fun ls hl => ?_)
    obtain ⟨n69, hw⟩ := hw
    exact L69 n69 p1.toInt64 y64 (0 : Int32) _ _ _ hw hP hD hS (lv_sub hl [5, 6, 7, 8, 2, 1, 0] rfl)
  have hw := hw.1 c47
  refine lv_ldc2 (v := (-1000000000000000002 : Int64)) hx hb hown (hz _ z4_175) dX9_odds_50 ?_
  exact z_lret hx hb hr hlocks () hw hP hS dX9_odds_53
abbrev cw_X9_year (cI : ClassId) (h h_book h_now h_places : Nat) (g_ways g_milky g_sights g_sight g_signs g_pad g_acts g_enough g_rows g_counts g_pours g_image g_isKept : Value) (f_book : Nat → Int32) (f_now : Nat → Int32) (f_places : Nat → Int32) (f_power : Int32) (f_spite : Int32) (f_offAt : Int32) (f_offWho : Int32) (f_reason : Int32) : va_W := [(h, .inr (9, [.ref h_book, .ref h_now, .ref h_places, .int f_power, .int f_spite, g_ways, g_milky, g_sights, g_sight, g_signs, g_pad, .int f_offAt, .int f_offWho, .int f_reason, g_acts, g_enough, g_rows, g_counts, g_pours, g_image, g_isKept])), (h_book, .inl (cI, 12, .inl f_book)), (h_now, .inl (cI, 12, .inl f_now)), (h_places, .inl (cI, 8, .inl f_places))]
abbrev q_X9_year (D : va_G) (cI : ClassId) (h h_book h_now h_places : Nat) (g_ways g_milky g_sights g_sight g_signs g_pad g_acts g_enough g_rows g_counts g_pours g_image g_isKept : Value) (post : Int32 → (Nat → Int32) → Int32 → Int32 → Int32 → Prop) (f_book : Nat → Int32) (f_places : Nat → Int32) (f_power : Int32) (f_spite : Int32) (A : Nat → Prop) : Array Value → State → Outcome → State → Prop := va_Qi (S := (Nat → Int32) × Int32 × Int32 × Int32) (fun r u => post r u.1 u.2.1 u.2.2.1 u.2.2.2) (fun u t => va_P D vwCl (cw_X9_year cI h h_book h_now h_places g_ways g_milky g_sights g_sight g_signs g_pad g_acts g_enough g_rows g_counts g_pours g_image g_isKept f_book u.1 f_places f_power f_spite u.2.1 u.2.2.1 u.2.2.2) t.heap) A
abbrev v_X9_year : List Cond := .code yX9_year cX9_year 7 (some .int) :: zB
theorem hd_X9_year : yX9_year.cls = RX9 ∧ yX9_year.cls ≠ "java/lang/invoke/MethodHandle" ∧ yX9_year.cls ≠ "java/lang/invoke/VarHandle" ∧ (parseMethodDescriptor yX9_year.desc).map (fun d => d.parameters.length) = some 3 := by decide +kernel
set_option maxHeartbeats 4000000 in
set_option maxRecDepth 100000 in
theorem c_X9_year (l : Launch) (D : va_G) (cI cC cZ : ClassId) (h h_book h_now h_places : Nat) (g_ways g_milky g_sights g_sight g_signs g_pad g_acts g_enough g_rows g_counts g_pours g_image g_isKept : Value) (f_book : Nat → Int32) (f_now : Nat → Int32) (f_places : Nat → Int32) (f_power : Int32) (f_spite : Int32) (f_offAt : Int32) (f_offWho : Int32) (f_reason : Int32) (p1 : Int32) (p2 : Int32) (p3 : Int32) (sz : Nat) (post : Int32 → (Nat → Int32) → Int32 → Int32 → Int32 → Prop) (hw : w_X9_year post f_book f_now f_places f_power f_spite f_offAt f_offWho f_reason p1 p2 p3) : Met l yX9_year v_X9_year ({ frames := 3, cells := 0, slots := 0, locals := 65 } : Room) (va_Pc [.ref h, .int p1, .int p2, .int p3] (zPre D (zT cI cC cZ) sz (cw_X9_year cI h h_book h_now h_places g_ways g_milky g_sights g_sight g_signs g_pad g_acts g_enough g_rows g_counts g_pours g_image g_isKept f_book f_now f_places f_power f_spite f_offAt f_offWho f_reason))) (q_X9_year D cI h h_book h_now h_places g_ways g_milky g_sights g_sight g_signs g_pad g_acts g_enough g_rows g_counts g_pours g_image g_isKept post f_book f_places f_power f_spite (va_A (cw_X9_year cI h h_book h_now h_places g_ways g_milky g_sights g_sight g_signs g_pad g_acts g_enough g_rows g_counts g_pours g_image g_isKept f_book f_now f_places f_power f_spite f_offAt f_offWho f_reason) sz)) 0 0 (va_A (cw_X9_year cI h h_book h_now h_places g_ways g_milky g_sights g_sight g_signs g_pad g_acts g_enough g_rows g_counts g_pours g_image g_isKept f_book f_now f_places f_power f_spite f_offAt f_offWho f_reason) sz) := by
  refine Met.ofW (cc := cX9_year) (maxL := 7) (ret := (some .int)) (by decide) rfl ?_
  intro p e s m args below meth c s₁ B hml hv
  obtain ⟨rfl, hsz, hP, hK, hD0⟩ := hv
  subst hsz
  have hx := B.exec
  have hb := B.bytes
  have hr := B.returns
  have hz : ∀ w ∈ zB, w.before _ s = true := fun w h => atoms_spec (ws := v_X9_year) B.pre w (List.mem_cons_of_mem _ h)
  have hown : s.vm.findClass RX9 = some m.cls := findClass_of_methodNamed B.named
  have hlocks := B.notSynchronized
  have hF : CallFix p m c cX9_year 7 s (([.ref h, .int p1, .int p2, .int p3] : List Value).toArray) zB RX9 := ⟨hx, hb, hml, hown, hz⟩
  have hD := hD0.self (sz := s.heap.size)
  generalize hAe : va_A (cw_X9_year cI h h_book h_now h_places g_ways g_milky g_sights g_sight g_signs g_pad g_acts g_enough g_rows g_counts g_pours g_image g_isKept f_book f_now f_places f_power f_spite f_offAt f_offWho f_reason) s.heap.size = A at hD ⊢
  have hA : ∀ q : Nat, s.heap.size ≤ q → A q := fun q h => by rw [← hAe]; exact Or.inr h
  have hS : va_S A s.heap s.heap [] := va_S.rf
  have hP : va_P D vwCl (cw_X9_year cI h h_book h_now h_places g_ways g_milky g_sights g_sight g_signs g_pad g_acts g_enough g_rows g_counts g_pours g_image g_isKept f_book f_now f_places f_power f_spite f_offAt f_offWho f_reason) s.heap := hP
  have hl := lv_entry ([.ref h, .int p1, .int p2, .int p3]) (n := 7) (Nat.le_of_ble_eq_true rfl)
  rw [lg_entry_eq]
  generalize (lg_sl ([.ref h, .int p1, .int p2, .int p3]) ++ List.replicate (7 - (lg_sl ([.ref h, .int p1, .int p2, .int p3])).length) Slot.unset).toArray = ls at hl ⊢
  have hl : lv_has ls 7 [(0, .ref h), (1, .int p1), (2, .int p2), (3, .int p3)] := hl
  have L212 : ∀ (n212 : Nat) (f_now : Nat → Int32) (f_offAt : Int32) (f_offWho : Int32) (f_reason : Int32) (x5 : Int32) (x6 : Int32) (H : Heap) (locs : List Loc) (ls : Array Slot) (hw : w_X9_year_B212 post f_book f_places f_power f_spite p1 p2 p3 n212 f_now f_offAt f_offWho f_reason x5 x6) (hP : va_P D vwCl (cw_X9_year cI h h_book h_now h_places g_ways g_milky g_sights g_sight g_signs g_pad g_acts g_enough g_rows g_counts g_pours g_image g_isKept f_book f_now f_places f_power f_spite f_offAt f_offWho f_reason) H) (hD : va_D A (cw_X9_year cI h h_book h_now h_places g_ways g_milky g_sights g_sight g_signs g_pad g_acts g_enough g_rows g_counts g_pours g_image g_isKept f_book f_now f_places f_power f_spite f_offAt f_offWho f_reason)) (hS : va_S A s.heap H locs) (hl : lv_has ls 7 [(0, .ref h), (3, .int p3), (5, .int x5), (6, .int x6)]), W p l e (headSpec v_X9_year ({ frames := 3, cells := 0, slots := 0, locals := 65 } : Room)).room s m (([.ref h, .int p1, .int p2, .int p3] : List Value).toArray) below meth c H locs 0 0 (MQ below (q_X9_year D cI h h_book h_now h_places g_ways g_milky g_sights g_sight g_signs g_pad g_acts g_enough g_rows g_counts g_pours g_image g_isKept post f_book f_places f_power f_spite A) (([.ref h, .int p1, .int p2, .int p3] : List Value).toArray) s 0 0 A) (F0 m 212 ls []) := by
    intro n212
    induction n212 with
    | zero => intro f_now f_offAt f_offWho f_reason x5 x6 H locs ls hw; exact False.elim hw
    | succ n212 ih212 =>
      have J241 : ∀ (f_now : Nat → Int32) (f_offAt : Int32) (f_offWho : Int32) (f_reason : Int32) (x6 : Int32) (s0 : Int32) (s1 : Int32) (H : Heap) (locs : List Loc) (ls : Array Slot) (hw : w_X9_year_B241 post f_book f_places f_power f_spite p1 p2 p3 (fun f_now f_offAt f_offWho f_reason x5 x6 => w_X9_year_B212 post f_book f_places f_power f_spite p1 p2 p3 n212 f_now f_offAt f_offWho f_reason x5 x6) f_now f_offAt f_offWho f_reason x6 s0 s1) (hP : va_P D vwCl (cw_X9_year cI h h_book h_now h_places g_ways g_milky g_sights g_sight g_signs g_pad g_acts g_enough g_rows g_counts g_pours g_image g_isKept f_book f_now f_places f_power f_spite f_offAt f_offWho f_reason) H) (hD : va_D A (cw_X9_year cI h h_book h_now h_places g_ways g_milky g_sights g_sight g_signs g_pad g_acts g_enough g_rows g_counts g_pours g_image g_isKept f_book f_now f_places f_power f_spite f_offAt f_offWho f_reason)) (hS : va_S A s.heap H locs) (hl : lv_has ls 7 [(0, .ref h), (3, .int p3), (6, .int x6)]), W p l e (headSpec v_X9_year ({ frames := 3, cells := 0, slots := 0, locals := 65 } : Room)).room s m (([.ref h, .int p1, .int p2, .int p3] : List Value).toArray) below meth c H locs 0 0 (MQ below (q_X9_year D cI h h_book h_now h_places g_ways g_milky g_sights g_sight g_signs g_pad g_acts g_enough g_rows g_counts g_pours g_image g_isKept post f_book f_places f_power f_spite A) (([.ref h, .int p1, .int p2, .int p3] : List Value).toArray) s 0 0 A) (F0 m 241 ls [.int s1, .int s0]) := by
        intro f_now f_offAt f_offWho f_reason x6 s0 s1 H locs ls hw hP hD hS hl
        unfold w_X9_year_B241 at hw
        refine lv_iadd hx hb dX9_year_241 ?_
        refine lv_istore (lv' := [(5, .int (s0 + s1)), (0, .ref h), (3, .int p3), (6, .int x6)]) hx hb dX9_year_242 hl (by decide) rfl (fun ls hl => ?_)
        refine lv_iinc (k := 3) (v := (x6 + 1)) (lv' := [(6, .int (x6 + 1)), (5, .int (s0 + s1)), (0, .ref h), (3, .int p3)]) hx hb dX9_year_244 hl rfl rfl (by decide) rfl (fun ls hl => ?_)
        refine lv_goto (tgt := 212) hx hb dX9_year_247 (by decide) ?_
        exact ih212 f_now f_offAt f_offWho f_reason (s0 + s1) (x6 + 1) _ _ _ hw hP hD hS (lv_sub hl [2, 3, 1, 0] rfl)
      intro f_now f_offAt f_offWho f_reason x5 x6 H locs ls hw hP hD hS hl
      unfold w_X9_year_B212 at hw
      refine lv_iload hx hb dX9_year_212 (lv_at hl 3 rfl) ?_
      refine lv_bipush (v := (8 : Int32)) hx hb dX9_year_214 (by decide) ?_
      refine lv_icmp_ge (tgt := 250) hx hb dX9_year_216 (by decide) (fun c216 => ?_) (fun c216 => ?_)
      · have hw := hw.1 c216
        refine lv_iload_n hx hb dX9_year_250 rfl (lv_at hl 1 rfl) ?_
        refine lv_if_ne (tgt := 264) hx hb dX9_year_251 (by decide) (fun c251 => ?_) (fun c251 => ?_)
        · have hw := hw.2 c251
          refine lv_iload_n hx hb dX9_year_264 rfl (lv_at hl 1 rfl) ?_
          refine lv_iconst (v := (1 : Int32)) hx hb dX9_year_265 (by decide) ?_
          refine lv_icmp_ne (tgt := 274) hx hb dX9_year_266 (by decide) (fun c266 => ?_) (fun c266 => ?_)
          · have hw := hw.2 c266
            refine lv_aload_n hx hb dX9_year_274 rfl (lv_at hl 0 rfl) ?_
            refine va_get (D := D) (ci := 9) (v := .ref h_now) (C := RX9) (T := TX9) (N := 21) hx hb hz hX_X9 hown hK.1 hP 0 rfl rfl 1 (by decide) (hz _ z3_157) (fun _ h9 => h9) rfl dX9_year_275 ?_
            refine lv_bipush (v := (10 : Int32)) hx hb dX9_year_278 (by decide) ?_
            refine va_iald hx hb hK.1 hP 2 0 rfl rfl (z_in rfl) dX9_year_280 ?_
            exact z_iret hx hb hr hlocks (f_now, f_offAt, f_offWho, f_reason) hw hP hS dX9_year_281
          have hw := hw.1 c266
          refine lv_iload hx hb dX9_year_269 (lv_at hl 2 rfl) ?_
          refine lv_goto (tgt := 281) hx hb dX9_year_271 (by decide) ?_
          exact z_iret hx hb hr hlocks (f_now, f_offAt, f_offWho, f_reason) hw hP hS dX9_year_281
        have hw := hw.1 c251
        refine lv_aload_n hx hb dX9_year_254 rfl (lv_at hl 0 rfl) ?_
        refine z_ri (z_runV (As := []) (rest := []) hF (c_X9_offOnes l D cI cC cZ h h_now (.ref h_book) (.ref h_places) (.int f_power) (.int f_spite) g_ways g_milky g_sights g_sight g_signs g_pad (.int f_offAt) (.int f_offWho) (.int f_reason) g_acts g_enough g_rows g_counts g_pours g_image g_isKept f_now _ _ hw) (cwV 0 hz (z_gV z4_34 z4_36 zp_18 z1_10 z4_37) rfl rfl rfl hd_X9_offOnes ⟨Nat.le_of_ble_eq_true rfl, Nat.le_of_ble_eq_true rfl⟩) hK hP hD [0, 2] rfl rfl 0 9 rfl rfl rfl rfl hl.1 rfl (Nat.le_of_ble_eq_true rfl) dX9_year_255 ⟨Nat.zero_le _, Nat.zero_le _⟩) hP hD hS hA [0, 2] rfl (fun _ => rfl) (fun _ => cw_X9_year cI h h_book h_now h_places g_ways g_milky g_sights g_sight g_signs g_pad g_acts g_enough g_rows g_counts g_pours g_image g_isKept f_book f_now f_places f_power f_spite f_offAt f_offWho f_reason) (fun _ => rfl) (fun r255 u255 H locs hw hP hD hS => ?_)
        try dsimp only at hw
        refine z_ri (z_runS (As := [.int r255]) (rest := []) hF (c_X9_bits l D cI cC cZ r255 _ _ hw) (va_cwS 1 hz (z_gS z3_228 z3_229 z1_10 z3_230) rfl rfl rfl hd_X9_bits ⟨Nat.le_of_ble_eq_true rfl, Nat.le_of_ble_eq_true rfl⟩) hK hP hD [] rfl rfl rfl hl.1 rfl (Nat.le_of_ble_eq_true rfl) dX9_year_258 ⟨Nat.zero_le _, Nat.zero_le _⟩) hP hD hS hA [] rfl (fun _ => rfl) (fun _ => cw_X9_year cI h h_book h_now h_places g_ways g_milky g_sights g_sight g_signs g_pad g_acts g_enough g_rows g_counts g_pours g_image g_isKept f_book f_now f_places f_power f_spite f_offAt f_offWho f_reason) (fun _ => rfl) (fun r258 u258 H locs hw hP hD hS => ?_)
        try dsimp only at hw
        refine lv_goto (tgt := 281) hx hb dX9_year_261 (by decide) ?_
        exact z_iret hx hb hr hlocks (f_now, f_offAt, f_offWho, f_reason) hw hP hS dX9_year_281
      have hw := hw.2 c216
      refine lv_iload hx hb dX9_year_219 (lv_at hl 2 rfl) ?_
      refine lv_aload_n hx hb dX9_year_221 rfl (lv_at hl 0 rfl) ?_
      refine lv_iload hx hb dX9_year_222 (lv_at hl 3 rfl) ?_
      refine z_ri (z_runV (As := [.int x6]) (rest := [.int x5]) hF (c_X9_sits l D cI cC cZ h h_now (.ref h_book) (.ref h_places) (.int f_power) (.int f_spite) g_ways g_milky g_sights g_sight g_signs g_pad (.int f_offAt) (.int f_offWho) (.int f_reason) g_acts g_enough g_rows g_counts g_pours g_image g_isKept f_now x6 _ _ hw) (cwV 1 hz (z_gV z4_38 z4_40 zp_19 z1_10 z4_41) rfl rfl rfl hd_X9_sits ⟨Nat.le_of_ble_eq_true rfl, Nat.le_of_ble_eq_true rfl⟩) hK hP hD [0, 2] rfl rfl 0 9 rfl rfl rfl rfl hl.1 rfl (Nat.le_of_ble_eq_true rfl) dX9_year_224 ⟨Nat.zero_le _, Nat.zero_le _⟩) hP hD hS hA [0, 2] rfl (fun _ => rfl) (fun _ => cw_X9_year cI h h_book h_now h_places g_ways g_milky g_sights g_sight g_signs g_pad g_acts g_enough g_rows g_counts g_pours g_image g_isKept f_book f_now f_places f_power f_spite f_offAt f_offWho f_reason) (fun _ => rfl) (fun r224 u224 H locs hw hP hD hS => ?_)
      obtain ⟨hn224, hw⟩ := hw
      try dsimp only at hw
      refine lv_if_eq (tgt := 240) hx hb dX9_year_227 (by decide) (fun c227 => ?_) (fun c227 => ?_)
      · have hw := hw.1 c227
        refine lv_iconst (v := (0 : Int32)) hx hb dX9_year_240 (by decide) ?_
        exact J241 f_now f_offAt f_offWho f_reason x6 x5 (0 : Int32) _ _ _ hw hP hD hS (lv_sub hl [0, 1, 3] rfl)
      have hw := hw.2 c227
      refine lv_aload_n hx hb dX9_year_230 rfl (lv_at hl 0 rfl) ?_
      refine va_get (D := D) (ci := 9) (v := .ref h_now) (C := RX9) (T := TX9) (N := 21) hx hb hz hX_X9 hown hK.1 hP 0 rfl rfl 1 (by decide) (hz _ z3_157) (fun _ h9 => h9) rfl dX9_year_231 ?_
      refine lv_iload hx hb dX9_year_234 (lv_at hl 3 rfl) ?_
      obtain ⟨hi236, hw⟩ := hw
      refine va_iald hx hb hK.1 hP 2 0 rfl rfl hi236 dX9_year_236 ?_
      refine lv_goto (tgt := 241) hx hb dX9_year_237 (by decide) ?_
      exact J241 f_now f_offAt f_offWho f_reason x6 x5 (f_now x6.toNatClampNeg) _ _ _ hw hP hD hS (lv_sub hl [0, 1, 3] rfl)
  have L43 : ∀ (n43 : Nat) (f_now : Nat → Int32) (f_offAt : Int32) (f_offWho : Int32) (f_reason : Int32) (x4 : Int32) (x5 : Int32) (H : Heap) (locs : List Loc) (ls : Array Slot) (hw : w_X9_year_B43 post f_book f_places f_power f_spite p1 p2 p3 n43 f_now f_offAt f_offWho f_reason x4 x5) (hP : va_P D vwCl (cw_X9_year cI h h_book h_now h_places g_ways g_milky g_sights g_sight g_signs g_pad g_acts g_enough g_rows g_counts g_pours g_image g_isKept f_book f_now f_places f_power f_spite f_offAt f_offWho f_reason) H) (hD : va_D A (cw_X9_year cI h h_book h_now h_places g_ways g_milky g_sights g_sight g_signs g_pad g_acts g_enough g_rows g_counts g_pours g_image g_isKept f_book f_now f_places f_power f_spite f_offAt f_offWho f_reason)) (hS : va_S A s.heap H locs) (hl : lv_has ls 7 [(0, .ref h), (2, .int p2), (3, .int p3), (4, .int x4), (5, .int x5)]), W p l e (headSpec v_X9_year ({ frames := 3, cells := 0, slots := 0, locals := 65 } : Room)).room s m (([.ref h, .int p1, .int p2, .int p3] : List Value).toArray) below meth c H locs 0 0 (MQ below (q_X9_year D cI h h_book h_now h_places g_ways g_milky g_sights g_sight g_signs g_pad g_acts g_enough g_rows g_counts g_pours g_image g_isKept post f_book f_places f_power f_spite A) (([.ref h, .int p1, .int p2, .int p3] : List Value).toArray) s 0 0 A) (F0 m 43 ls []) := by
    intro n43
    induction n43 with
    | zero => intro f_now f_offAt f_offWho f_reason x4 x5 H locs ls hw; exact False.elim hw
    | succ n43 ih43 =>
      intro f_now f_offAt f_offWho f_reason x4 x5 H locs ls hw hP hD hS hl
      unfold w_X9_year_B43 at hw
      refine lv_iload hx hb dX9_year_43 (lv_at hl 4 rfl) ?_
      refine lv_iload_n hx hb dX9_year_45 rfl (lv_at hl 1 rfl) ?_
      refine lv_icmp_ge (tgt := 206) hx hb dX9_year_46 (by decide) (fun c46 => ?_) (fun c46 => ?_)
      · have hw := hw.1 c46
        refine lv_iconst (v := (0 : Int32)) hx hb dX9_year_206 (by decide) ?_
        refine lv_istore (lv' := [(5, .int (0 : Int32)), (0, .ref h), (2, .int p2), (3, .int p3), (4, .int x4)]) hx hb dX9_year_207 hl (by decide) rfl (fun ls hl => ?_)
        refine lv_iconst (v := (0 : Int32)) hx hb dX9_year_209 (by decide) ?_
        refine lv_istore (lv' := [(6, .int (0 : Int32)), (5, .int (0 : Int32)), (0, .ref h), (2, .int p2), (3, .int p3), (4, .int x4)]) hx hb dX9_year_210 hl (by decide) rfl (fun ls hl => ?_)
        obtain ⟨n212, hw⟩ := hw
        exact L212 n212 f_now f_offAt f_offWho f_reason (0 : Int32) (0 : Int32) _ _ _ hw hP hD hS (lv_sub hl [2, 4, 1, 0] rfl)
      have hw := hw.2 c46
      refine lv_bipush (v := (75 : Int32)) hx hb dX9_year_49 (by decide) ?_
      refine lv_iload hx hb dX9_year_51 (lv_at hl 3 rfl) ?_
      refine lv_imul hx hb dX9_year_53 ?_
      refine lv_bipush (v := (74 : Int32)) hx hb dX9_year_54 (by decide) ?_
      refine lv_iadd hx hb dX9_year_56 ?_
      refine lv_ldc (v := (65537 : Int32)) hx hb hown (hz _ z4_181) dX9_year_57 ?_
      refine lv_irem hx hb dX9_year_59 (by decide) ?_
      refine lv_topi (fun y60 ey60 => ?_)
      have hw := hw y60 ey60
      refine lv_istore (lv' := [(4, .int y60), (0, .ref h), (2, .int p2), (3, .int p3), (5, .int x5)]) hx hb dX9_year_60 hl (by decide) rfl (fun ls hl => ?_)
      refine lv_iload hx hb dX9_year_62 (lv_at hl 0 rfl) ?_
      refine lv_bipush (v := (8 : Int32)) hx hb dX9_year_64 (by decide) ?_
      refine lv_idiv hx hb dX9_year_66 (by decide) ?_
      refine lv_istore (lv' := [(6, .int (y60 / (8 : Int32))), (4, .int y60), (0, .ref h), (2, .int p2), (3, .int p3), (5, .int x5)]) hx hb dX9_year_67 hl (by decide) rfl (fun ls hl => ?_)
      refine lv_iload hx hb dX9_year_69 (lv_at hl 1 rfl) ?_
      refine lv_bipush (v := (8 : Int32)) hx hb dX9_year_71 (by decide) ?_
      refine lv_irem hx hb dX9_year_73 (by decide) ?_
      by_cases c74_0 : (y60 - y60 / (8 : Int32) * (8 : Int32)) = (0 : Int32)
      · have hw := hw.1 c74_0
        refine lv_tableIn (off := 34) (tgt := 108) hx hb dX9_year_74 (by rw [c74_0]; decide) (by rw [c74_0]; decide) (by rw [c74_0]; rfl) (by decide) ?_
        refine lv_aload_n hx hb dX9_year_108 rfl (lv_at hl 2 rfl) ?_
        refine lv_aload_n hx hb dX9_year_109 rfl (lv_at hl 2 rfl) ?_
        refine lv_iconst (v := (1 : Int32)) hx hb dX9_year_110 (by decide) ?_
        refine lv_iload hx hb dX9_year_111 (lv_at hl 0 rfl) ?_
        refine lv_bipush (v := (9 : Int32)) hx hb dX9_year_113 (by decide) ?_
        refine lv_irem hx hb dX9_year_115 (by decide) ?_
        refine lv_iadd hx hb dX9_year_116 ?_
        refine z_ri (z_runV (As := [.int ((1 : Int32) + ((y60 / (8 : Int32)) - (y60 / (8 : Int32)) / (9 : Int32) * (9 : Int32)))]) (rest := [.ref h]) hF (c_X9_step l D cI cC cZ h h_now (.ref h_book) (.ref h_places) (.int f_power) (.int f_spite) g_ways g_milky g_sights g_sight g_signs g_pad (.int f_offAt) (.int f_offWho) (.int f_reason) g_acts g_enough g_rows g_counts g_pours g_image g_isKept f_now ((1 : Int32) + ((y60 / (8 : Int32)) - (y60 / (8 : Int32)) / (9 : Int32) * (9 : Int32))) _ _ hw) (cwV 1 hz (z_gV z4_61 z4_63 zp_24 z1_10 z4_64) rfl rfl rfl hd_X9_step ⟨Nat.le_of_ble_eq_true rfl, Nat.le_of_ble_eq_true rfl⟩) hK hP hD [0, 2] rfl rfl 0 9 rfl rfl rfl rfl hl.1 rfl (Nat.le_of_ble_eq_true rfl) dX9_year_117 ⟨Nat.zero_le _, Nat.zero_le _⟩) hP hD hS hA [0, 2] rfl (fun _ => rfl) (fun u => cw_X9_year cI h h_book h_now h_places g_ways g_milky g_sights g_sight g_signs g_pad g_acts g_enough g_rows g_counts g_pours g_image g_isKept f_book u f_places f_power f_spite f_offAt f_offWho f_reason) (fun _ => rfl) (fun r117 u117_0 H locs hw hP hD hS => ?_)
        try dsimp only at hw
        have hP : va_P D vwCl (cw_X9_year cI h h_book h_now h_places g_ways g_milky g_sights g_sight g_signs g_pad g_acts g_enough g_rows g_counts g_pours g_image g_isKept f_book u117_0 f_places f_power f_spite f_offAt f_offWho f_reason) H := hP
        have hD : va_D A (cw_X9_year cI h h_book h_now h_places g_ways g_milky g_sights g_sight g_signs g_pad g_acts g_enough g_rows g_counts g_pours g_image g_isKept f_book u117_0 f_places f_power f_spite f_offAt f_offWho f_reason) := hD
        refine va_put (D := D) (ci := 9) (v := .int r117) (ty := .int) (C := RX9) (T := TX9) (N := 21) hx hb hz hX_X9 tyX9 tyX9_ok nmX9 hown hK.1 hP hD hS 0 rfl rfl 13 (by decide) (hz _ z3_169) (fun _ h9 => h9) rfl (tyX9_ok 13 (by decide)) rfl rfl (Nat.le_of_ble_eq_true rfl) dX9_year_120 (fun H locs hP hD hS => ?_)
        have hP : va_P D vwCl (cw_X9_year cI h h_book h_now h_places g_ways g_milky g_sights g_sight g_signs g_pad g_acts g_enough g_rows g_counts g_pours g_image g_isKept f_book u117_0 f_places f_power f_spite f_offAt f_offWho r117) H := hP
        have hD : va_D A (cw_X9_year cI h h_book h_now h_places g_ways g_milky g_sights g_sight g_signs g_pad g_acts g_enough g_rows g_counts g_pours g_image g_isKept f_book u117_0 f_places f_power f_spite f_offAt f_offWho r117) := hD
        refine lv_goto (tgt := 200) hx hb dX9_year_123 (by decide) ?_
        refine lv_iinc (k := 5) (v := (x5 + 1)) (lv' := [(5, .int (x5 + 1)), (6, .int (y60 / (8 : Int32))), (4, .int y60), (0, .ref h), (2, .int p2), (3, .int p3)]) hx hb dX9_year_200 hl rfl rfl (by decide) rfl (fun ls hl => ?_)
        refine lv_goto (tgt := 43) hx hb dX9_year_203 (by decide) ?_
        exact ih43 u117_0 f_offAt f_offWho r117 y60 (x5 + 1) _ _ _ hw hP hD hS (lv_sub hl [3, 4, 5, 2, 0] rfl)
      have hw := hw.2 c74_0
      have i74_0 : (y60 - y60 / (8 : Int32) * (8 : Int32)).toInt ≠ 0 := fun h => c74_0 (Int32.toInt_inj.mp (h.trans (by decide)))
      by_cases c74_1 : (y60 - y60 / (8 : Int32) * (8 : Int32)) = (1 : Int32)
      · have hw := hw.1 c74_1
        refine lv_tableIn (off := 52) (tgt := 126) hx hb dX9_year_74 (by rw [c74_1]; decide) (by rw [c74_1]; decide) (by rw [c74_1]; rfl) (by decide) ?_
        refine lv_aload_n hx hb dX9_year_126 rfl (lv_at hl 2 rfl) ?_
        refine lv_aload_n hx hb dX9_year_127 rfl (lv_at hl 2 rfl) ?_
        refine lv_iconst (v := (-1 : Int32)) hx hb dX9_year_128 (by decide) ?_
        refine lv_iload hx hb dX9_year_129 (lv_at hl 0 rfl) ?_
        refine lv_bipush (v := (9 : Int32)) hx hb dX9_year_131 (by decide) ?_
        refine lv_irem hx hb dX9_year_133 (by decide) ?_
        refine lv_isub hx hb dX9_year_134 ?_
        refine z_ri (z_runV (As := [.int ((-1 : Int32) - ((y60 / (8 : Int32)) - (y60 / (8 : Int32)) / (9 : Int32) * (9 : Int32)))]) (rest := [.ref h]) hF (c_X9_step l D cI cC cZ h h_now (.ref h_book) (.ref h_places) (.int f_power) (.int f_spite) g_ways g_milky g_sights g_sight g_signs g_pad (.int f_offAt) (.int f_offWho) (.int f_reason) g_acts g_enough g_rows g_counts g_pours g_image g_isKept f_now ((-1 : Int32) - ((y60 / (8 : Int32)) - (y60 / (8 : Int32)) / (9 : Int32) * (9 : Int32))) _ _ hw) (cwV 1 hz (z_gV z4_61 z4_63 zp_24 z1_10 z4_64) rfl rfl rfl hd_X9_step ⟨Nat.le_of_ble_eq_true rfl, Nat.le_of_ble_eq_true rfl⟩) hK hP hD [0, 2] rfl rfl 0 9 rfl rfl rfl rfl hl.1 rfl (Nat.le_of_ble_eq_true rfl) dX9_year_135 ⟨Nat.zero_le _, Nat.zero_le _⟩) hP hD hS hA [0, 2] rfl (fun _ => rfl) (fun u => cw_X9_year cI h h_book h_now h_places g_ways g_milky g_sights g_sight g_signs g_pad g_acts g_enough g_rows g_counts g_pours g_image g_isKept f_book u f_places f_power f_spite f_offAt f_offWho f_reason) (fun _ => rfl) (fun r135 u135_0 H locs hw hP hD hS => ?_)
        try dsimp only at hw
        have hP : va_P D vwCl (cw_X9_year cI h h_book h_now h_places g_ways g_milky g_sights g_sight g_signs g_pad g_acts g_enough g_rows g_counts g_pours g_image g_isKept f_book u135_0 f_places f_power f_spite f_offAt f_offWho f_reason) H := hP
        have hD : va_D A (cw_X9_year cI h h_book h_now h_places g_ways g_milky g_sights g_sight g_signs g_pad g_acts g_enough g_rows g_counts g_pours g_image g_isKept f_book u135_0 f_places f_power f_spite f_offAt f_offWho f_reason) := hD
        refine va_put (D := D) (ci := 9) (v := .int r135) (ty := .int) (C := RX9) (T := TX9) (N := 21) hx hb hz hX_X9 tyX9 tyX9_ok nmX9 hown hK.1 hP hD hS 0 rfl rfl 13 (by decide) (hz _ z3_169) (fun _ h9 => h9) rfl (tyX9_ok 13 (by decide)) rfl rfl (Nat.le_of_ble_eq_true rfl) dX9_year_138 (fun H locs hP hD hS => ?_)
        have hP : va_P D vwCl (cw_X9_year cI h h_book h_now h_places g_ways g_milky g_sights g_sight g_signs g_pad g_acts g_enough g_rows g_counts g_pours g_image g_isKept f_book u135_0 f_places f_power f_spite f_offAt f_offWho r135) H := hP
        have hD : va_D A (cw_X9_year cI h h_book h_now h_places g_ways g_milky g_sights g_sight g_signs g_pad g_acts g_enough g_rows g_counts g_pours g_image g_isKept f_book u135_0 f_places f_power f_spite f_offAt f_offWho r135) := hD
        refine lv_goto (tgt := 200) hx hb dX9_year_141 (by decide) ?_
        refine lv_iinc (k := 5) (v := (x5 + 1)) (lv' := [(5, .int (x5 + 1)), (6, .int (y60 / (8 : Int32))), (4, .int y60), (0, .ref h), (2, .int p2), (3, .int p3)]) hx hb dX9_year_200 hl rfl rfl (by decide) rfl (fun ls hl => ?_)
        refine lv_goto (tgt := 43) hx hb dX9_year_203 (by decide) ?_
        exact ih43 u135_0 f_offAt f_offWho r135 y60 (x5 + 1) _ _ _ hw hP hD hS (lv_sub hl [3, 4, 5, 2, 0] rfl)
      have hw := hw.2 c74_1
      have i74_1 : (y60 - y60 / (8 : Int32) * (8 : Int32)).toInt ≠ 1 := fun h => c74_1 (Int32.toInt_inj.mp (h.trans (by decide)))
      by_cases c74_2 : (y60 - y60 / (8 : Int32) * (8 : Int32)) = (2 : Int32)
      · have hw := hw.1 c74_2
        refine lv_tableIn (off := 70) (tgt := 144) hx hb dX9_year_74 (by rw [c74_2]; decide) (by rw [c74_2]; decide) (by rw [c74_2]; rfl) (by decide) ?_
        refine lv_aload_n hx hb dX9_year_144 rfl (lv_at hl 2 rfl) ?_
        refine lv_aload_n hx hb dX9_year_145 rfl (lv_at hl 2 rfl) ?_
        refine lv_iload hx hb dX9_year_146 (lv_at hl 0 rfl) ?_
        refine lv_bipush (v := (8 : Int32)) hx hb dX9_year_148 (by decide) ?_
        refine lv_irem hx hb dX9_year_150 (by decide) ?_
        refine z_ri (z_runV (As := [.int ((y60 / (8 : Int32)) - (y60 / (8 : Int32)) / (8 : Int32) * (8 : Int32))]) (rest := [.ref h]) hF (c_X9_bend l D cI cC cZ h h_now h_places (.ref h_book) g_ways g_milky g_sights g_sight g_signs g_pad (.int f_offAt) (.int f_offWho) (.int f_reason) g_acts g_enough g_rows g_counts g_pours g_image g_isKept f_now f_places f_power f_spite ((y60 / (8 : Int32)) - (y60 / (8 : Int32)) / (8 : Int32) * (8 : Int32)) _ _ hw) (cwV 1 hz (z_gV z4_69 z4_71 zp_26 z1_10 z4_72) rfl rfl rfl hd_X9_bend ⟨Nat.le_of_ble_eq_true rfl, Nat.le_of_ble_eq_true rfl⟩) hK hP hD [0, 2, 3] rfl rfl 0 9 rfl rfl rfl rfl hl.1 rfl (Nat.le_of_ble_eq_true rfl) dX9_year_151 ⟨Nat.zero_le _, Nat.zero_le _⟩) hP hD hS hA [0, 2, 3] rfl (fun _ => rfl) (fun u => cw_X9_year cI h h_book h_now h_places g_ways g_milky g_sights g_sight g_signs g_pad g_acts g_enough g_rows g_counts g_pours g_image g_isKept f_book u f_places f_power f_spite f_offAt f_offWho f_reason) (fun _ => rfl) (fun r151 u151_0 H locs hw hP hD hS => ?_)
        try dsimp only at hw
        have hP : va_P D vwCl (cw_X9_year cI h h_book h_now h_places g_ways g_milky g_sights g_sight g_signs g_pad g_acts g_enough g_rows g_counts g_pours g_image g_isKept f_book u151_0 f_places f_power f_spite f_offAt f_offWho f_reason) H := hP
        have hD : va_D A (cw_X9_year cI h h_book h_now h_places g_ways g_milky g_sights g_sight g_signs g_pad g_acts g_enough g_rows g_counts g_pours g_image g_isKept f_book u151_0 f_places f_power f_spite f_offAt f_offWho f_reason) := hD
        refine va_put (D := D) (ci := 9) (v := .int r151) (ty := .int) (C := RX9) (T := TX9) (N := 21) hx hb hz hX_X9 tyX9 tyX9_ok nmX9 hown hK.1 hP hD hS 0 rfl rfl 13 (by decide) (hz _ z3_169) (fun _ h9 => h9) rfl (tyX9_ok 13 (by decide)) rfl rfl (Nat.le_of_ble_eq_true rfl) dX9_year_154 (fun H locs hP hD hS => ?_)
        have hP : va_P D vwCl (cw_X9_year cI h h_book h_now h_places g_ways g_milky g_sights g_sight g_signs g_pad g_acts g_enough g_rows g_counts g_pours g_image g_isKept f_book u151_0 f_places f_power f_spite f_offAt f_offWho r151) H := hP
        have hD : va_D A (cw_X9_year cI h h_book h_now h_places g_ways g_milky g_sights g_sight g_signs g_pad g_acts g_enough g_rows g_counts g_pours g_image g_isKept f_book u151_0 f_places f_power f_spite f_offAt f_offWho r151) := hD
        refine lv_goto (tgt := 200) hx hb dX9_year_157 (by decide) ?_
        refine lv_iinc (k := 5) (v := (x5 + 1)) (lv' := [(5, .int (x5 + 1)), (6, .int (y60 / (8 : Int32))), (4, .int y60), (0, .ref h), (2, .int p2), (3, .int p3)]) hx hb dX9_year_200 hl rfl rfl (by decide) rfl (fun ls hl => ?_)
        refine lv_goto (tgt := 43) hx hb dX9_year_203 (by decide) ?_
        exact ih43 u151_0 f_offAt f_offWho r151 y60 (x5 + 1) _ _ _ hw hP hD hS (lv_sub hl [3, 4, 5, 2, 0] rfl)
      have hw := hw.2 c74_2
      have i74_2 : (y60 - y60 / (8 : Int32) * (8 : Int32)).toInt ≠ 2 := fun h => c74_2 (Int32.toInt_inj.mp (h.trans (by decide)))
      by_cases c74_3 : (y60 - y60 / (8 : Int32) * (8 : Int32)) = (3 : Int32)
      · have hw := hw.1 c74_3
        refine lv_tableIn (off := 86) (tgt := 160) hx hb dX9_year_74 (by rw [c74_3]; decide) (by rw [c74_3]; decide) (by rw [c74_3]; rfl) (by decide) ?_
        refine lv_aload_n hx hb dX9_year_160 rfl (lv_at hl 2 rfl) ?_
        refine lv_aload_n hx hb dX9_year_161 rfl (lv_at hl 2 rfl) ?_
        refine lv_iload hx hb dX9_year_162 (lv_at hl 0 rfl) ?_
        refine lv_bipush (v := (8 : Int32)) hx hb dX9_year_164 (by decide) ?_
        refine lv_irem hx hb dX9_year_166 (by decide) ?_
        refine z_ri (z_runV (As := [.int ((y60 / (8 : Int32)) - (y60 / (8 : Int32)) / (8 : Int32) * (8 : Int32))]) (rest := [.ref h]) hF (c_X9_fill l D cI cC cZ h h_now (.ref h_book) (.ref h_places) (.int f_power) (.int f_spite) g_ways g_milky g_sights g_sight g_signs g_pad (.int f_offAt) (.int f_offWho) (.int f_reason) g_acts g_enough g_rows g_counts g_pours g_image g_isKept f_now ((y60 / (8 : Int32)) - (y60 / (8 : Int32)) / (8 : Int32) * (8 : Int32)) _ _ hw) (cwV 1 hz (z_gV z4_73 z4_75 zp_27 z1_10 z4_76) rfl rfl rfl hd_X9_fill ⟨Nat.le_of_ble_eq_true rfl, Nat.le_of_ble_eq_true rfl⟩) hK hP hD [0, 2] rfl rfl 0 9 rfl rfl rfl rfl hl.1 rfl (Nat.le_of_ble_eq_true rfl) dX9_year_167 ⟨Nat.zero_le _, Nat.zero_le _⟩) hP hD hS hA [0, 2] rfl (fun _ => rfl) (fun u => cw_X9_year cI h h_book h_now h_places g_ways g_milky g_sights g_sight g_signs g_pad g_acts g_enough g_rows g_counts g_pours g_image g_isKept f_book u f_places f_power f_spite f_offAt f_offWho f_reason) (fun _ => rfl) (fun r167 u167_0 H locs hw hP hD hS => ?_)
        try dsimp only at hw
        have hP : va_P D vwCl (cw_X9_year cI h h_book h_now h_places g_ways g_milky g_sights g_sight g_signs g_pad g_acts g_enough g_rows g_counts g_pours g_image g_isKept f_book u167_0 f_places f_power f_spite f_offAt f_offWho f_reason) H := hP
        have hD : va_D A (cw_X9_year cI h h_book h_now h_places g_ways g_milky g_sights g_sight g_signs g_pad g_acts g_enough g_rows g_counts g_pours g_image g_isKept f_book u167_0 f_places f_power f_spite f_offAt f_offWho f_reason) := hD
        refine va_put (D := D) (ci := 9) (v := .int r167) (ty := .int) (C := RX9) (T := TX9) (N := 21) hx hb hz hX_X9 tyX9 tyX9_ok nmX9 hown hK.1 hP hD hS 0 rfl rfl 13 (by decide) (hz _ z3_169) (fun _ h9 => h9) rfl (tyX9_ok 13 (by decide)) rfl rfl (Nat.le_of_ble_eq_true rfl) dX9_year_170 (fun H locs hP hD hS => ?_)
        have hP : va_P D vwCl (cw_X9_year cI h h_book h_now h_places g_ways g_milky g_sights g_sight g_signs g_pad g_acts g_enough g_rows g_counts g_pours g_image g_isKept f_book u167_0 f_places f_power f_spite f_offAt f_offWho r167) H := hP
        have hD : va_D A (cw_X9_year cI h h_book h_now h_places g_ways g_milky g_sights g_sight g_signs g_pad g_acts g_enough g_rows g_counts g_pours g_image g_isKept f_book u167_0 f_places f_power f_spite f_offAt f_offWho r167) := hD
        refine lv_goto (tgt := 200) hx hb dX9_year_173 (by decide) ?_
        refine lv_iinc (k := 5) (v := (x5 + 1)) (lv' := [(5, .int (x5 + 1)), (6, .int (y60 / (8 : Int32))), (4, .int y60), (0, .ref h), (2, .int p2), (3, .int p3)]) hx hb dX9_year_200 hl rfl rfl (by decide) rfl (fun ls hl => ?_)
        refine lv_goto (tgt := 43) hx hb dX9_year_203 (by decide) ?_
        exact ih43 u167_0 f_offAt f_offWho r167 y60 (x5 + 1) _ _ _ hw hP hD hS (lv_sub hl [3, 4, 5, 2, 0] rfl)
      have hw := hw.2 c74_3
      have i74_3 : (y60 - y60 / (8 : Int32) * (8 : Int32)).toInt ≠ 3 := fun h => c74_3 (Int32.toInt_inj.mp (h.trans (by decide)))
      by_cases c74_4 : (y60 - y60 / (8 : Int32) * (8 : Int32)) = (4 : Int32)
      · have hw := hw.1 c74_4
        refine lv_tableIn (off := 102) (tgt := 176) hx hb dX9_year_74 (by rw [c74_4]; decide) (by rw [c74_4]; decide) (by rw [c74_4]; rfl) (by decide) ?_
        refine lv_aload_n hx hb dX9_year_176 rfl (lv_at hl 2 rfl) ?_
        refine lv_aload_n hx hb dX9_year_177 rfl (lv_at hl 2 rfl) ?_
        refine lv_iload hx hb dX9_year_178 (lv_at hl 0 rfl) ?_
        refine lv_bipush (v := (8 : Int32)) hx hb dX9_year_180 (by decide) ?_
        refine lv_irem hx hb dX9_year_182 (by decide) ?_
        refine z_ri (z_runV (As := [.int ((y60 / (8 : Int32)) - (y60 / (8 : Int32)) / (8 : Int32) * (8 : Int32))]) (rest := [.ref h]) hF (c_X9_thinkAgain l D cI cC cZ h h_now (.ref h_book) (.ref h_places) (.int f_power) (.int f_spite) g_ways g_milky g_sights g_sight g_signs g_pad (.int f_offAt) (.int f_offWho) (.int f_reason) g_acts g_enough g_rows g_counts g_pours g_image g_isKept f_now ((y60 / (8 : Int32)) - (y60 / (8 : Int32)) / (8 : Int32) * (8 : Int32)) _ _ hw) (cwV 1 hz (z_gV z4_77 z4_79 zp_28 z1_10 z4_80) rfl rfl rfl hd_X9_thinkAgain ⟨Nat.le_of_ble_eq_true rfl, Nat.le_of_ble_eq_true rfl⟩) hK hP hD [0, 2] rfl rfl 0 9 rfl rfl rfl rfl hl.1 rfl (Nat.le_of_ble_eq_true rfl) dX9_year_183 ⟨Nat.zero_le _, Nat.zero_le _⟩) hP hD hS hA [0, 2] rfl (fun _ => rfl) (fun u => cw_X9_year cI h h_book h_now h_places g_ways g_milky g_sights g_sight g_signs g_pad g_acts g_enough g_rows g_counts g_pours g_image g_isKept f_book u f_places f_power f_spite f_offAt f_offWho f_reason) (fun _ => rfl) (fun r183 u183_0 H locs hw hP hD hS => ?_)
        try dsimp only at hw
        have hP : va_P D vwCl (cw_X9_year cI h h_book h_now h_places g_ways g_milky g_sights g_sight g_signs g_pad g_acts g_enough g_rows g_counts g_pours g_image g_isKept f_book u183_0 f_places f_power f_spite f_offAt f_offWho f_reason) H := hP
        have hD : va_D A (cw_X9_year cI h h_book h_now h_places g_ways g_milky g_sights g_sight g_signs g_pad g_acts g_enough g_rows g_counts g_pours g_image g_isKept f_book u183_0 f_places f_power f_spite f_offAt f_offWho f_reason) := hD
        refine va_put (D := D) (ci := 9) (v := .int r183) (ty := .int) (C := RX9) (T := TX9) (N := 21) hx hb hz hX_X9 tyX9 tyX9_ok nmX9 hown hK.1 hP hD hS 0 rfl rfl 13 (by decide) (hz _ z3_169) (fun _ h9 => h9) rfl (tyX9_ok 13 (by decide)) rfl rfl (Nat.le_of_ble_eq_true rfl) dX9_year_186 (fun H locs hP hD hS => ?_)
        have hP : va_P D vwCl (cw_X9_year cI h h_book h_now h_places g_ways g_milky g_sights g_sight g_signs g_pad g_acts g_enough g_rows g_counts g_pours g_image g_isKept f_book u183_0 f_places f_power f_spite f_offAt f_offWho r183) H := hP
        have hD : va_D A (cw_X9_year cI h h_book h_now h_places g_ways g_milky g_sights g_sight g_signs g_pad g_acts g_enough g_rows g_counts g_pours g_image g_isKept f_book u183_0 f_places f_power f_spite f_offAt f_offWho r183) := hD
        refine lv_goto (tgt := 200) hx hb dX9_year_189 (by decide) ?_
        refine lv_iinc (k := 5) (v := (x5 + 1)) (lv' := [(5, .int (x5 + 1)), (6, .int (y60 / (8 : Int32))), (4, .int y60), (0, .ref h), (2, .int p2), (3, .int p3)]) hx hb dX9_year_200 hl rfl rfl (by decide) rfl (fun ls hl => ?_)
        refine lv_goto (tgt := 43) hx hb dX9_year_203 (by decide) ?_
        exact ih43 u183_0 f_offAt f_offWho r183 y60 (x5 + 1) _ _ _ hw hP hD hS (lv_sub hl [3, 4, 5, 2, 0] rfl)
      have hw := hw.2 c74_4
      have i74_4 : (y60 - y60 / (8 : Int32) * (8 : Int32)).toInt ≠ 4 := fun h => c74_4 (Int32.toInt_inj.mp (h.trans (by decide)))
      refine lv_tableOut (tgt := 192) hx hb dX9_year_74 (by omega) (by decide) ?_
      refine lv_aload_n hx hb dX9_year_192 rfl (lv_at hl 2 rfl) ?_
      refine lv_aload_n hx hb dX9_year_193 rfl (lv_at hl 2 rfl) ?_
      refine z_ri (z_runV (As := []) (rest := [.ref h]) hF (c_X9_endHour l D cI cC cZ h h_now h_places (.ref h_book) g_ways g_milky g_sights g_sight g_signs g_pad (.int f_offAt) (.int f_offWho) (.int f_reason) g_acts g_enough g_rows g_counts g_pours g_image g_isKept f_now f_places f_power f_spite _ _ hw) (cwV 0 hz (z_gV z4_45 z4_47 zp_20 z1_10 z4_48) rfl rfl rfl hd_X9_endHour ⟨Nat.le_of_ble_eq_true rfl, Nat.le_of_ble_eq_true rfl⟩) hK hP hD [0, 2, 3] rfl rfl 0 9 rfl rfl rfl rfl hl.1 rfl (Nat.le_of_ble_eq_true rfl) dX9_year_194 ⟨Nat.zero_le _, Nat.zero_le _⟩) hP hD hS hA [0, 2, 3] rfl (fun _ => rfl) (fun u => cw_X9_year cI h h_book h_now h_places g_ways g_milky g_sights g_sight g_signs g_pad g_acts g_enough g_rows g_counts g_pours g_image g_isKept f_book u f_places f_power f_spite f_offAt f_offWho f_reason) (fun _ => rfl) (fun r194 u194_0 H locs hw hP hD hS => ?_)
      try dsimp only at hw
      have hP : va_P D vwCl (cw_X9_year cI h h_book h_now h_places g_ways g_milky g_sights g_sight g_signs g_pad g_acts g_enough g_rows g_counts g_pours g_image g_isKept f_book u194_0 f_places f_power f_spite f_offAt f_offWho f_reason) H := hP
      have hD : va_D A (cw_X9_year cI h h_book h_now h_places g_ways g_milky g_sights g_sight g_signs g_pad g_acts g_enough g_rows g_counts g_pours g_image g_isKept f_book u194_0 f_places f_power f_spite f_offAt f_offWho f_reason) := hD
      refine va_put (D := D) (ci := 9) (v := .int r194) (ty := .int) (C := RX9) (T := TX9) (N := 21) hx hb hz hX_X9 tyX9 tyX9_ok nmX9 hown hK.1 hP hD hS 0 rfl rfl 13 (by decide) (hz _ z3_169) (fun _ h9 => h9) rfl (tyX9_ok 13 (by decide)) rfl rfl (Nat.le_of_ble_eq_true rfl) dX9_year_197 (fun H locs hP hD hS => ?_)
      have hP : va_P D vwCl (cw_X9_year cI h h_book h_now h_places g_ways g_milky g_sights g_sight g_signs g_pad g_acts g_enough g_rows g_counts g_pours g_image g_isKept f_book u194_0 f_places f_power f_spite f_offAt f_offWho r194) H := hP
      have hD : va_D A (cw_X9_year cI h h_book h_now h_places g_ways g_milky g_sights g_sight g_signs g_pad g_acts g_enough g_rows g_counts g_pours g_image g_isKept f_book u194_0 f_places f_power f_spite f_offAt f_offWho r194) := hD
      refine lv_iinc (k := 5) (v := (x5 + 1)) (lv' := [(5, .int (x5 + 1)), (6, .int (y60 / (8 : Int32))), (4, .int y60), (0, .ref h), (2, .int p2), (3, .int p3)]) hx hb dX9_year_200 hl rfl rfl (by decide) rfl (fun ls hl => ?_)
      refine lv_goto (tgt := 43) hx hb dX9_year_203 (by decide) ?_
      exact ih43 u194_0 f_offAt f_offWho r194 y60 (x5 + 1) _ _ _ hw hP hD hS (lv_sub hl [3, 4, 5, 2, 0] rfl)
  unfold w_X9_year at hw
  refine lv_iload_n hx hb dX9_year_0 rfl (lv_at hl 1 rfl) ?_
  refine lv_iconst (v := (0 : Int32)) hx hb dX9_year_1 (by decide) ?_
  refine lv_sipush (v := (9999 : Int32)) hx hb dX9_year_2 (by decide) ?_
  refine z_ri (z_runS (As := [.int p1, .int (0 : Int32), .int (9999 : Int32)]) (rest := []) hF (c_X9_in l D cI cC cZ p1 (0 : Int32) (9999 : Int32) _ _ hw) (va_cwS 3 hz (z_gS z3_225 z3_226 z1_10 z3_227) rfl rfl rfl hd_X9_in ⟨Nat.le_of_ble_eq_true rfl, Nat.le_of_ble_eq_true rfl⟩) hK hP hD [] rfl rfl rfl hl.1 rfl (Nat.le_of_ble_eq_true rfl) dX9_year_5 ⟨Nat.zero_le _, Nat.zero_le _⟩) hP hD hS hA [] rfl (fun _ => rfl) (fun _ => cw_X9_year cI h h_book h_now h_places g_ways g_milky g_sights g_sight g_signs g_pad g_acts g_enough g_rows g_counts g_pours g_image g_isKept f_book f_now f_places f_power f_spite f_offAt f_offWho f_reason) (fun _ => rfl) (fun r5 u5 H locs hw hP hD hS => ?_)
  obtain ⟨hn5, hw⟩ := hw
  try dsimp only at hw
  refine lv_if_eq (tgt := 30) hx hb dX9_year_8 (by decide) (fun c8 => ?_) (fun c8 => ?_)
  · have hw := hw.1 c8
    refine lv_bipush (v := (-2 : Int32)) hx hb dX9_year_30 (by decide) ?_
    exact z_iret hx hb hr hlocks (f_now, f_offAt, f_offWho, f_reason) hw hP hS dX9_year_32
  have hw := hw.2 c8
  refine lv_iload_n hx hb dX9_year_11 rfl (lv_at hl 2 rfl) ?_
  refine lv_iconst (v := (1 : Int32)) hx hb dX9_year_12 (by decide) ?_
  refine lv_bipush (v := (99 : Int32)) hx hb dX9_year_13 (by decide) ?_
  refine z_ri (z_runS (As := [.int p2, .int (1 : Int32), .int (99 : Int32)]) (rest := []) hF (c_X9_in l D cI cC cZ p2 (1 : Int32) (99 : Int32) _ _ hw) (va_cwS 3 hz (z_gS z3_225 z3_226 z1_10 z3_227) rfl rfl rfl hd_X9_in ⟨Nat.le_of_ble_eq_true rfl, Nat.le_of_ble_eq_true rfl⟩) hK hP hD [] rfl rfl rfl hl.1 rfl (Nat.le_of_ble_eq_true rfl) dX9_year_15 ⟨Nat.zero_le _, Nat.zero_le _⟩) hP hD hS hA [] rfl (fun _ => rfl) (fun _ => cw_X9_year cI h h_book h_now h_places g_ways g_milky g_sights g_sight g_signs g_pad g_acts g_enough g_rows g_counts g_pours g_image g_isKept f_book f_now f_places f_power f_spite f_offAt f_offWho f_reason) (fun _ => rfl) (fun r15 u15 H locs hw hP hD hS => ?_)
  obtain ⟨hn15, hw⟩ := hw
  try dsimp only at hw
  refine lv_if_eq (tgt := 30) hx hb dX9_year_18 (by decide) (fun c18 => ?_) (fun c18 => ?_)
  · have hw := hw.1 c18
    refine lv_bipush (v := (-2 : Int32)) hx hb dX9_year_30 (by decide) ?_
    exact z_iret hx hb hr hlocks (f_now, f_offAt, f_offWho, f_reason) hw hP hS dX9_year_32
  have hw := hw.2 c18
  refine lv_iload_n hx hb dX9_year_21 rfl (lv_at hl 3 rfl) ?_
  refine lv_iconst (v := (0 : Int32)) hx hb dX9_year_22 (by decide) ?_
  refine lv_iconst (v := (2 : Int32)) hx hb dX9_year_23 (by decide) ?_
  refine z_ri (z_runS (As := [.int p3, .int (0 : Int32), .int (2 : Int32)]) (rest := []) hF (c_X9_in l D cI cC cZ p3 (0 : Int32) (2 : Int32) _ _ hw) (va_cwS 3 hz (z_gS z3_225 z3_226 z1_10 z3_227) rfl rfl rfl hd_X9_in ⟨Nat.le_of_ble_eq_true rfl, Nat.le_of_ble_eq_true rfl⟩) hK hP hD [] rfl rfl rfl hl.1 rfl (Nat.le_of_ble_eq_true rfl) dX9_year_24 ⟨Nat.zero_le _, Nat.zero_le _⟩) hP hD hS hA [] rfl (fun _ => rfl) (fun _ => cw_X9_year cI h h_book h_now h_places g_ways g_milky g_sights g_sight g_signs g_pad g_acts g_enough g_rows g_counts g_pours g_image g_isKept f_book f_now f_places f_power f_spite f_offAt f_offWho f_reason) (fun _ => rfl) (fun r24 u24 H locs hw hP hD hS => ?_)
  obtain ⟨hn24, hw⟩ := hw
  try dsimp only at hw
  refine lv_if_ne (tgt := 33) hx hb dX9_year_27 (by decide) (fun c27 => ?_) (fun c27 => ?_)
  · have hw := hw.2 c27
    refine lv_aload_n hx hb dX9_year_33 rfl (lv_at hl 0 rfl) ?_
    refine z_rv (z_runV (As := []) (rest := []) hF (c_X9_asNow l D cI cC cZ h h_book h_now (.ref h_places) (.int f_power) (.int f_spite) g_ways g_milky g_sights g_sight g_signs g_pad (.int f_reason) g_acts g_enough g_rows g_counts g_pours g_image g_isKept f_book f_now f_offAt f_offWho _ _ hw) (cwV 0 hz (z_gV z4_30 z4_32 zp_17 z1_10 z4_33) rfl rfl rfl hd_X9_asNow ⟨Nat.le_of_ble_eq_true rfl, Nat.le_of_ble_eq_true rfl⟩) hK hP hD [0, 1, 2] rfl rfl 0 9 rfl rfl rfl rfl hl.1 rfl (Nat.le_of_ble_eq_true rfl) dX9_year_34 ⟨Nat.zero_le _, Nat.zero_le _⟩) hP hD hS hA [0, 1, 2] rfl (fun _ => rfl) (fun u => cw_X9_year cI h h_book h_now h_places g_ways g_milky g_sights g_sight g_signs g_pad g_acts g_enough g_rows g_counts g_pours g_image g_isKept f_book u.1 f_places f_power f_spite u.2.1 u.2.2 f_reason) (fun _ => rfl) (fun u34 H locs hw hP hD hS => ?_)
    obtain ⟨u34_0, u34_1, u34_2⟩ := u34
    try dsimp only at hw
    have hP : va_P D vwCl (cw_X9_year cI h h_book h_now h_places g_ways g_milky g_sights g_sight g_signs g_pad g_acts g_enough g_rows g_counts g_pours g_image g_isKept f_book u34_0 f_places f_power f_spite u34_1 u34_2 f_reason) H := hP
    have hD : va_D A (cw_X9_year cI h h_book h_now h_places g_ways g_milky g_sights g_sight g_signs g_pad g_acts g_enough g_rows g_counts g_pours g_image g_isKept f_book u34_0 f_places f_power f_spite u34_1 u34_2 f_reason) := hD
    refine lv_iload_n hx hb dX9_year_37 rfl (lv_at hl 1 rfl) ?_
    refine lv_istore (lv' := [(4, .int p1), (0, .ref h), (1, .int p1), (2, .int p2), (3, .int p3)]) hx hb dX9_year_38 hl (by decide) rfl (fun ls hl => ?_)
    refine lv_iconst (v := (0 : Int32)) hx hb dX9_year_40 (by decide) ?_
    refine lv_istore (lv' := [(5, .int (0 : Int32)), (4, .int p1), (0, .ref h), (1, .int p1), (2, .int p2), (3, .int p3)]) hx hb dX9_year_41 hl (by decide) rfl (fun ls hl => ?_)
    obtain ⟨n43, hw⟩ := hw
    exact L43 n43 u34_0 u34_1 u34_2 f_reason p1 (0 : Int32) _ _ _ hw hP hD hS (lv_sub hl [2, 4, 5, 1, 0] rfl)
  have hw := hw.1 c27
  refine lv_bipush (v := (-2 : Int32)) hx hb dX9_year_30 (by decide) ?_
  exact z_iret hx hb hr hlocks (f_now, f_offAt, f_offWho, f_reason) hw hP hS dX9_year_32
abbrev cw_X9_image (cI cZ : ClassId) (h h_book h_places h_ways h_sight h_image h_isKept : Nat) (g_now g_signs g_pad g_offAt g_offWho g_reason g_acts g_enough g_rows g_counts g_pours : Value) (f_book : Nat → Int32) (f_places : Nat → Int32) (f_power : Int32) (f_spite : Int32) (f_ways : Nat → Int32) (f_milky : Int32) (f_sights : Int32) (f_sight : Nat → Int32) (f_image : Nat → Int32) (f_isKept : Nat → Int32) : va_W := [(h, .inr (9, [.ref h_book, g_now, .ref h_places, .int f_power, .int f_spite, .ref h_ways, .int f_milky, .int f_sights, .ref h_sight, g_signs, g_pad, g_offAt, g_offWho, g_reason, g_acts, g_enough, g_rows, g_counts, g_pours, .ref h_image, .ref h_isKept])), (h_book, .inl (cI, 12, .inl f_book)), (h_places, .inl (cI, 8, .inl f_places)), (h_ways, .inl (cI, 12, .inl f_ways)), (h_sight, .inl (cI, 24, .inl f_sight)), (h_image, .inl (cI, 140, .inl f_image)), (h_isKept, .inl (cZ, 2, .inl f_isKept))]
abbrev q_X9_image (D : va_G) (cI cZ : ClassId) (h h_book h_places h_ways h_sight h_image h_isKept : Nat) (g_now g_signs g_pad g_offAt g_offWho g_reason g_acts g_enough g_rows g_counts g_pours : Value) (post : Int32 → (Nat → Int32) → (Nat → Int32) → Prop) (f_book : Nat → Int32) (f_places : Nat → Int32) (f_power : Int32) (f_spite : Int32) (f_ways : Nat → Int32) (f_milky : Int32) (f_sights : Int32) (f_sight : Nat → Int32) (A : Nat → Prop) : Array Value → State → Outcome → State → Prop := va_Qi (S := (Nat → Int32) × (Nat → Int32)) (fun r u => post r u.1 u.2) (fun u t => va_P D vwCl (cw_X9_image cI cZ h h_book h_places h_ways h_sight h_image h_isKept g_now g_signs g_pad g_offAt g_offWho g_reason g_acts g_enough g_rows g_counts g_pours f_book f_places f_power f_spite f_ways f_milky f_sights f_sight u.1 u.2) t.heap) A
abbrev v_X9_image : List Cond := .code yX9_image cX9_image 4 (some .int) :: zB
theorem hd_X9_image : yX9_image.cls = RX9 ∧ yX9_image.cls ≠ "java/lang/invoke/MethodHandle" ∧ yX9_image.cls ≠ "java/lang/invoke/VarHandle" ∧ (parseMethodDescriptor yX9_image.desc).map (fun d => d.parameters.length) = some 1 := by decide +kernel
set_option maxHeartbeats 4000000 in
set_option maxRecDepth 100000 in
theorem c_X9_image (l : Launch) (D : va_G) (cI cC cZ : ClassId) (h h_book h_places h_ways h_sight h_image h_isKept : Nat) (g_now g_signs g_pad g_offAt g_offWho g_reason g_acts g_enough g_rows g_counts g_pours : Value) (f_book : Nat → Int32) (f_places : Nat → Int32) (f_power : Int32) (f_spite : Int32) (f_ways : Nat → Int32) (f_milky : Int32) (f_sights : Int32) (f_sight : Nat → Int32) (f_image : Nat → Int32) (f_isKept : Nat → Int32) (p1 : Int32) (sz : Nat) (post : Int32 → (Nat → Int32) → (Nat → Int32) → Prop) (hw : w_X9_image post f_book f_places f_power f_spite f_ways f_milky f_sights f_sight f_image f_isKept p1) : Met l yX9_image v_X9_image ({ frames := 1, cells := 0, slots := 0, locals := 22 } : Room) (va_Pc [.ref h, .int p1] (zPre D (zT cI cC cZ) sz (cw_X9_image cI cZ h h_book h_places h_ways h_sight h_image h_isKept g_now g_signs g_pad g_offAt g_offWho g_reason g_acts g_enough g_rows g_counts g_pours f_book f_places f_power f_spite f_ways f_milky f_sights f_sight f_image f_isKept))) (q_X9_image D cI cZ h h_book h_places h_ways h_sight h_image h_isKept g_now g_signs g_pad g_offAt g_offWho g_reason g_acts g_enough g_rows g_counts g_pours post f_book f_places f_power f_spite f_ways f_milky f_sights f_sight (va_A (cw_X9_image cI cZ h h_book h_places h_ways h_sight h_image h_isKept g_now g_signs g_pad g_offAt g_offWho g_reason g_acts g_enough g_rows g_counts g_pours f_book f_places f_power f_spite f_ways f_milky f_sights f_sight f_image f_isKept) sz)) 0 0 (va_A (cw_X9_image cI cZ h h_book h_places h_ways h_sight h_image h_isKept g_now g_signs g_pad g_offAt g_offWho g_reason g_acts g_enough g_rows g_counts g_pours f_book f_places f_power f_spite f_ways f_milky f_sights f_sight f_image f_isKept) sz) := by
  refine Met.ofW (cc := cX9_image) (maxL := 4) (ret := (some .int)) (by decide) rfl ?_
  intro p e s m args below meth c s₁ B hml hv
  obtain ⟨rfl, hsz, hP, hK, hD0⟩ := hv
  subst hsz
  have hx := B.exec
  have hb := B.bytes
  have hr := B.returns
  have hz : ∀ w ∈ zB, w.before _ s = true := fun w h => atoms_spec (ws := v_X9_image) B.pre w (List.mem_cons_of_mem _ h)
  have hown : s.vm.findClass RX9 = some m.cls := findClass_of_methodNamed B.named
  have hlocks := B.notSynchronized
  have hF : CallFix p m c cX9_image 4 s (([.ref h, .int p1] : List Value).toArray) zB RX9 := ⟨hx, hb, hml, hown, hz⟩
  have hD := hD0.self (sz := s.heap.size)
  generalize hAe : va_A (cw_X9_image cI cZ h h_book h_places h_ways h_sight h_image h_isKept g_now g_signs g_pad g_offAt g_offWho g_reason g_acts g_enough g_rows g_counts g_pours f_book f_places f_power f_spite f_ways f_milky f_sights f_sight f_image f_isKept) s.heap.size = A at hD ⊢
  have hA : ∀ q : Nat, s.heap.size ≤ q → A q := fun q h => by rw [← hAe]; exact Or.inr h
  have hS : va_S A s.heap s.heap [] := va_S.rf
  have hP : va_P D vwCl (cw_X9_image cI cZ h h_book h_places h_ways h_sight h_image h_isKept g_now g_signs g_pad g_offAt g_offWho g_reason g_acts g_enough g_rows g_counts g_pours f_book f_places f_power f_spite f_ways f_milky f_sights f_sight f_image f_isKept) s.heap := hP
  have hl := lv_entry ([.ref h, .int p1]) (n := 4) (Nat.le_of_ble_eq_true rfl)
  rw [lg_entry_eq]
  generalize (lg_sl ([.ref h, .int p1]) ++ List.replicate (4 - (lg_sl ([.ref h, .int p1])).length) Slot.unset).toArray = ls at hl ⊢
  have hl : lv_has ls 4 [(0, .ref h), (1, .int p1)] := hl
  have L95 : ∀ (n95 : Nat) (f_image : Nat → Int32) (f_isKept : Nat → Int32) (x2 : Int32) (x3 : Int32) (H : Heap) (locs : List Loc) (ls : Array Slot) (hw : w_X9_image_B95 post f_book f_places f_power f_spite f_ways f_milky f_sights f_sight p1 n95 f_image f_isKept x2 x3) (hP : va_P D vwCl (cw_X9_image cI cZ h h_book h_places h_ways h_sight h_image h_isKept g_now g_signs g_pad g_offAt g_offWho g_reason g_acts g_enough g_rows g_counts g_pours f_book f_places f_power f_spite f_ways f_milky f_sights f_sight f_image f_isKept) H) (hD : va_D A (cw_X9_image cI cZ h h_book h_places h_ways h_sight h_image h_isKept g_now g_signs g_pad g_offAt g_offWho g_reason g_acts g_enough g_rows g_counts g_pours f_book f_places f_power f_spite f_ways f_milky f_sights f_sight f_image f_isKept)) (hS : va_S A s.heap H locs) (hl : lv_has ls 4 [(0, .ref h), (1, .int p1), (2, .int x2), (3, .int x3)]), W p l e (headSpec v_X9_image ({ frames := 1, cells := 0, slots := 0, locals := 22 } : Room)).room s m (([.ref h, .int p1] : List Value).toArray) below meth c H locs 0 0 (MQ below (q_X9_image D cI cZ h h_book h_places h_ways h_sight h_image h_isKept g_now g_signs g_pad g_offAt g_offWho g_reason g_acts g_enough g_rows g_counts g_pours post f_book f_places f_power f_spite f_ways f_milky f_sights f_sight A) (([.ref h, .int p1] : List Value).toArray) s 0 0 A) (F0 m 95 ls []) := by
    intro n95
    induction n95 with
    | zero => intro f_image f_isKept x2 x3 H locs ls hw; exact False.elim hw
    | succ n95 ih95 =>
      intro f_image f_isKept x2 x3 H locs ls hw hP hD hS hl
      unfold w_X9_image_B95 at hw
      refine lv_iload_n hx hb dX9_image_95 rfl (lv_at hl 3 rfl) ?_
      refine lv_bipush (v := (24 : Int32)) hx hb dX9_image_96 (by decide) ?_
      refine lv_icmp_ge (tgt := 124) hx hb dX9_image_98 (by decide) (fun c98 => ?_) (fun c98 => ?_)
      · have hw := hw.1 c98
        refine lv_aload_n hx hb dX9_image_124 rfl (lv_at hl 0 rfl) ?_
        refine va_get (D := D) (ci := 9) (v := .ref h_image) (C := RX9) (T := TX9) (N := 21) hx hb hz hX_X9 hown hK.1 hP 0 rfl rfl 19 (by decide) (hz _ z3_175) (fun _ h9 => h9) rfl dX9_image_125 ?_
        refine lv_iload_n hx hb dX9_image_128 rfl (lv_at hl 2 rfl) ?_
        refine lv_bipush (v := (60 : Int32)) hx hb dX9_image_129 (by decide) ?_
        refine lv_iadd hx hb dX9_image_131 ?_
        refine lv_aload_n hx hb dX9_image_132 rfl (lv_at hl 0 rfl) ?_
        refine va_get (D := D) (ci := 9) (v := .int f_power) (C := RX9) (T := TX9) (N := 21) hx hb hz hX_X9 hown hK.1 hP 0 rfl rfl 3 (by decide) (hz _ z3_159) (fun _ h9 => h9) rfl dX9_image_133 ?_
        obtain ⟨hi136, hw⟩ := hw
        refine va_iast hx hb hK.1 hP hD hS 5 0 rfl rfl hi136 dX9_image_136 (fun H locs hP hD hS => ?_)
        have hP : va_P D vwCl (cw_X9_image cI cZ h h_book h_places h_ways h_sight h_image h_isKept g_now g_signs g_pad g_offAt g_offWho g_reason g_acts g_enough g_rows g_counts g_pours f_book f_places f_power f_spite f_ways f_milky f_sights f_sight (upd f_image (x2 + (60 : Int32)).toNatClampNeg f_power) f_isKept) H := hP
        have hD : va_D A (cw_X9_image cI cZ h h_book h_places h_ways h_sight h_image h_isKept g_now g_signs g_pad g_offAt g_offWho g_reason g_acts g_enough g_rows g_counts g_pours f_book f_places f_power f_spite f_ways f_milky f_sights f_sight (upd f_image (x2 + (60 : Int32)).toNatClampNeg f_power) f_isKept) := hD
        refine lv_aload_n hx hb dX9_image_137 rfl (lv_at hl 0 rfl) ?_
        refine va_get (D := D) (ci := 9) (v := .ref h_image) (C := RX9) (T := TX9) (N := 21) hx hb hz hX_X9 hown hK.1 hP 0 rfl rfl 19 (by decide) (hz _ z3_175) (fun _ h9 => h9) rfl dX9_image_138 ?_
        refine lv_iload_n hx hb dX9_image_141 rfl (lv_at hl 2 rfl) ?_
        refine lv_bipush (v := (61 : Int32)) hx hb dX9_image_142 (by decide) ?_
        refine lv_iadd hx hb dX9_image_144 ?_
        refine lv_aload_n hx hb dX9_image_145 rfl (lv_at hl 0 rfl) ?_
        refine va_get (D := D) (ci := 9) (v := .int f_spite) (C := RX9) (T := TX9) (N := 21) hx hb hz hX_X9 hown hK.1 hP 0 rfl rfl 4 (by decide) (hz _ z3_160) (fun _ h9 => h9) rfl dX9_image_146 ?_
        obtain ⟨hi149, hw⟩ := hw
        refine va_iast hx hb hK.1 hP hD hS 5 0 rfl rfl hi149 dX9_image_149 (fun H locs hP hD hS => ?_)
        have hP : va_P D vwCl (cw_X9_image cI cZ h h_book h_places h_ways h_sight h_image h_isKept g_now g_signs g_pad g_offAt g_offWho g_reason g_acts g_enough g_rows g_counts g_pours f_book f_places f_power f_spite f_ways f_milky f_sights f_sight (upd (upd f_image (x2 + (60 : Int32)).toNatClampNeg f_power) (x2 + (61 : Int32)).toNatClampNeg f_spite) f_isKept) H := hP
        have hD : va_D A (cw_X9_image cI cZ h h_book h_places h_ways h_sight h_image h_isKept g_now g_signs g_pad g_offAt g_offWho g_reason g_acts g_enough g_rows g_counts g_pours f_book f_places f_power f_spite f_ways f_milky f_sights f_sight (upd (upd f_image (x2 + (60 : Int32)).toNatClampNeg f_power) (x2 + (61 : Int32)).toNatClampNeg f_spite) f_isKept) := hD
        refine lv_aload_n hx hb dX9_image_150 rfl (lv_at hl 0 rfl) ?_
        refine va_get (D := D) (ci := 9) (v := .ref h_image) (C := RX9) (T := TX9) (N := 21) hx hb hz hX_X9 hown hK.1 hP 0 rfl rfl 19 (by decide) (hz _ z3_175) (fun _ h9 => h9) rfl dX9_image_151 ?_
        refine lv_iload_n hx hb dX9_image_154 rfl (lv_at hl 2 rfl) ?_
        refine lv_bipush (v := (62 : Int32)) hx hb dX9_image_155 (by decide) ?_
        refine lv_iadd hx hb dX9_image_157 ?_
        refine lv_aload_n hx hb dX9_image_158 rfl (lv_at hl 0 rfl) ?_
        refine va_get (D := D) (ci := 9) (v := .int f_milky) (C := RX9) (T := TX9) (N := 21) hx hb hz hX_X9 hown hK.1 hP 0 rfl rfl 6 (by decide) (hz _ z3_162) (fun _ h9 => h9) rfl dX9_image_159 ?_
        obtain ⟨hi162, hw⟩ := hw
        refine va_iast hx hb hK.1 hP hD hS 5 0 rfl rfl hi162 dX9_image_162 (fun H locs hP hD hS => ?_)
        have hP : va_P D vwCl (cw_X9_image cI cZ h h_book h_places h_ways h_sight h_image h_isKept g_now g_signs g_pad g_offAt g_offWho g_reason g_acts g_enough g_rows g_counts g_pours f_book f_places f_power f_spite f_ways f_milky f_sights f_sight (upd (upd (upd f_image (x2 + (60 : Int32)).toNatClampNeg f_power) (x2 + (61 : Int32)).toNatClampNeg f_spite) (x2 + (62 : Int32)).toNatClampNeg f_milky) f_isKept) H := hP
        have hD : va_D A (cw_X9_image cI cZ h h_book h_places h_ways h_sight h_image h_isKept g_now g_signs g_pad g_offAt g_offWho g_reason g_acts g_enough g_rows g_counts g_pours f_book f_places f_power f_spite f_ways f_milky f_sights f_sight (upd (upd (upd f_image (x2 + (60 : Int32)).toNatClampNeg f_power) (x2 + (61 : Int32)).toNatClampNeg f_spite) (x2 + (62 : Int32)).toNatClampNeg f_milky) f_isKept) := hD
        refine lv_aload_n hx hb dX9_image_163 rfl (lv_at hl 0 rfl) ?_
        refine va_get (D := D) (ci := 9) (v := .ref h_image) (C := RX9) (T := TX9) (N := 21) hx hb hz hX_X9 hown hK.1 hP 0 rfl rfl 19 (by decide) (hz _ z3_175) (fun _ h9 => h9) rfl dX9_image_164 ?_
        refine lv_iload_n hx hb dX9_image_167 rfl (lv_at hl 2 rfl) ?_
        refine lv_bipush (v := (63 : Int32)) hx hb dX9_image_168 (by decide) ?_
        refine lv_iadd hx hb dX9_image_170 ?_
        refine lv_aload_n hx hb dX9_image_171 rfl (lv_at hl 0 rfl) ?_
        refine va_get (D := D) (ci := 9) (v := .int f_sights) (C := RX9) (T := TX9) (N := 21) hx hb hz hX_X9 hown hK.1 hP 0 rfl rfl 7 (by decide) (hz _ z3_163) (fun _ h9 => h9) rfl dX9_image_172 ?_
        obtain ⟨hi175, hw⟩ := hw
        refine va_iast hx hb hK.1 hP hD hS 5 0 rfl rfl hi175 dX9_image_175 (fun H locs hP hD hS => ?_)
        have hP : va_P D vwCl (cw_X9_image cI cZ h h_book h_places h_ways h_sight h_image h_isKept g_now g_signs g_pad g_offAt g_offWho g_reason g_acts g_enough g_rows g_counts g_pours f_book f_places f_power f_spite f_ways f_milky f_sights f_sight (upd (upd (upd (upd f_image (x2 + (60 : Int32)).toNatClampNeg f_power) (x2 + (61 : Int32)).toNatClampNeg f_spite) (x2 + (62 : Int32)).toNatClampNeg f_milky) (x2 + (63 : Int32)).toNatClampNeg f_sights) f_isKept) H := hP
        have hD : va_D A (cw_X9_image cI cZ h h_book h_places h_ways h_sight h_image h_isKept g_now g_signs g_pad g_offAt g_offWho g_reason g_acts g_enough g_rows g_counts g_pours f_book f_places f_power f_spite f_ways f_milky f_sights f_sight (upd (upd (upd (upd f_image (x2 + (60 : Int32)).toNatClampNeg f_power) (x2 + (61 : Int32)).toNatClampNeg f_spite) (x2 + (62 : Int32)).toNatClampNeg f_milky) (x2 + (63 : Int32)).toNatClampNeg f_sights) f_isKept) := hD
        refine lv_aload_n hx hb dX9_image_176 rfl (lv_at hl 0 rfl) ?_
        refine va_get (D := D) (ci := 9) (v := .ref h_isKept) (C := RX9) (T := TX9) (N := 21) hx hb hz hX_X9 hown hK.1 hP 0 rfl rfl 20 (by decide) (hz _ z3_176) (fun _ h9 => h9) rfl dX9_image_177 ?_
        refine lv_iload_n hx hb dX9_image_180 rfl (lv_at hl 1 rfl) ?_
        refine lv_iconst (v := (1 : Int32)) hx hb dX9_image_181 (by decide) ?_
        obtain ⟨hi182, hw⟩ := hw
        refine va_zast hx hb hK.1 hP hD hS 6 2 rfl rfl hi182 dX9_image_182 (fun H locs hP hD hS => ?_)
        have hP : va_P D vwCl (cw_X9_image cI cZ h h_book h_places h_ways h_sight h_image h_isKept g_now g_signs g_pad g_offAt g_offWho g_reason g_acts g_enough g_rows g_counts g_pours f_book f_places f_power f_spite f_ways f_milky f_sights f_sight (upd (upd (upd (upd f_image (x2 + (60 : Int32)).toNatClampNeg f_power) (x2 + (61 : Int32)).toNatClampNeg f_spite) (x2 + (62 : Int32)).toNatClampNeg f_milky) (x2 + (63 : Int32)).toNatClampNeg f_sights) (upd f_isKept p1.toNatClampNeg (vp_nar .boolean (1 : Int32)))) H := hP
        have hD : va_D A (cw_X9_image cI cZ h h_book h_places h_ways h_sight h_image h_isKept g_now g_signs g_pad g_offAt g_offWho g_reason g_acts g_enough g_rows g_counts g_pours f_book f_places f_power f_spite f_ways f_milky f_sights f_sight (upd (upd (upd (upd f_image (x2 + (60 : Int32)).toNatClampNeg f_power) (x2 + (61 : Int32)).toNatClampNeg f_spite) (x2 + (62 : Int32)).toNatClampNeg f_milky) (x2 + (63 : Int32)).toNatClampNeg f_sights) (upd f_isKept p1.toNatClampNeg (vp_nar .boolean (1 : Int32)))) := hD
        refine lv_iconst (v := (1 : Int32)) hx hb dX9_image_183 (by decide) ?_
        exact z_iret hx hb hr hlocks ((upd (upd (upd (upd f_image (x2 + (60 : Int32)).toNatClampNeg f_power) (x2 + (61 : Int32)).toNatClampNeg f_spite) (x2 + (62 : Int32)).toNatClampNeg f_milky) (x2 + (63 : Int32)).toNatClampNeg f_sights), (upd f_isKept p1.toNatClampNeg (vp_nar .boolean (1 : Int32)))) hw hP hS dX9_image_184
      have hw := hw.2 c98
      refine lv_aload_n hx hb dX9_image_101 rfl (lv_at hl 0 rfl) ?_
      refine va_get (D := D) (ci := 9) (v := .ref h_image) (C := RX9) (T := TX9) (N := 21) hx hb hz hX_X9 hown hK.1 hP 0 rfl rfl 19 (by decide) (hz _ z3_175) (fun _ h9 => h9) rfl dX9_image_102 ?_
      refine lv_iload_n hx hb dX9_image_105 rfl (lv_at hl 2 rfl) ?_
      refine lv_bipush (v := (32 : Int32)) hx hb dX9_image_106 (by decide) ?_
      refine lv_iadd hx hb dX9_image_108 ?_
      refine lv_iload_n hx hb dX9_image_109 rfl (lv_at hl 3 rfl) ?_
      refine lv_iadd hx hb dX9_image_110 ?_
      refine lv_aload_n hx hb dX9_image_111 rfl (lv_at hl 0 rfl) ?_
      refine va_get (D := D) (ci := 9) (v := .ref h_sight) (C := RX9) (T := TX9) (N := 21) hx hb hz hX_X9 hown hK.1 hP 0 rfl rfl 8 (by decide) (hz _ z3_164) (fun _ h9 => h9) rfl dX9_image_112 ?_
      refine lv_iload_n hx hb dX9_image_115 rfl (lv_at hl 3 rfl) ?_
      obtain ⟨hi116, hw⟩ := hw
      refine va_iald hx hb hK.1 hP 4 0 rfl rfl hi116 dX9_image_116 ?_
      obtain ⟨hi117, hw⟩ := hw
      refine va_iast hx hb hK.1 hP hD hS 5 0 rfl rfl hi117 dX9_image_117 (fun H locs hP hD hS => ?_)
      have hP : va_P D vwCl (cw_X9_image cI cZ h h_book h_places h_ways h_sight h_image h_isKept g_now g_signs g_pad g_offAt g_offWho g_reason g_acts g_enough g_rows g_counts g_pours f_book f_places f_power f_spite f_ways f_milky f_sights f_sight (upd f_image ((x2 + (32 : Int32)) + x3).toNatClampNeg (f_sight x3.toNatClampNeg)) f_isKept) H := hP
      have hD : va_D A (cw_X9_image cI cZ h h_book h_places h_ways h_sight h_image h_isKept g_now g_signs g_pad g_offAt g_offWho g_reason g_acts g_enough g_rows g_counts g_pours f_book f_places f_power f_spite f_ways f_milky f_sights f_sight (upd f_image ((x2 + (32 : Int32)) + x3).toNatClampNeg (f_sight x3.toNatClampNeg)) f_isKept) := hD
      refine lv_iinc (k := 3) (v := (x3 + 1)) (lv' := [(3, .int (x3 + 1)), (0, .ref h), (1, .int p1), (2, .int x2)]) hx hb dX9_image_118 hl rfl rfl (by decide) rfl (fun ls hl => ?_)
      refine lv_goto (tgt := 95) hx hb dX9_image_121 (by decide) ?_
      exact ih95 (upd f_image ((x2 + (32 : Int32)) + x3).toNatClampNeg (f_sight x3.toNatClampNeg)) f_isKept x2 (x3 + 1) _ _ _ hw hP hD hS (lv_sub hl [1, 2, 3, 0] rfl)
  have L64 : ∀ (n64 : Nat) (f_image : Nat → Int32) (f_isKept : Nat → Int32) (x2 : Int32) (x3 : Int32) (H : Heap) (locs : List Loc) (ls : Array Slot) (hw : w_X9_image_B64 post f_book f_places f_power f_spite f_ways f_milky f_sights f_sight p1 n64 f_image f_isKept x2 x3) (hP : va_P D vwCl (cw_X9_image cI cZ h h_book h_places h_ways h_sight h_image h_isKept g_now g_signs g_pad g_offAt g_offWho g_reason g_acts g_enough g_rows g_counts g_pours f_book f_places f_power f_spite f_ways f_milky f_sights f_sight f_image f_isKept) H) (hD : va_D A (cw_X9_image cI cZ h h_book h_places h_ways h_sight h_image h_isKept g_now g_signs g_pad g_offAt g_offWho g_reason g_acts g_enough g_rows g_counts g_pours f_book f_places f_power f_spite f_ways f_milky f_sights f_sight f_image f_isKept)) (hS : va_S A s.heap H locs) (hl : lv_has ls 4 [(0, .ref h), (1, .int p1), (2, .int x2), (3, .int x3)]), W p l e (headSpec v_X9_image ({ frames := 1, cells := 0, slots := 0, locals := 22 } : Room)).room s m (([.ref h, .int p1] : List Value).toArray) below meth c H locs 0 0 (MQ below (q_X9_image D cI cZ h h_book h_places h_ways h_sight h_image h_isKept g_now g_signs g_pad g_offAt g_offWho g_reason g_acts g_enough g_rows g_counts g_pours post f_book f_places f_power f_spite f_ways f_milky f_sights f_sight A) (([.ref h, .int p1] : List Value).toArray) s 0 0 A) (F0 m 64 ls []) := by
    intro n64
    induction n64 with
    | zero => intro f_image f_isKept x2 x3 H locs ls hw; exact False.elim hw
    | succ n64 ih64 =>
      intro f_image f_isKept x2 x3 H locs ls hw hP hD hS hl
      unfold w_X9_image_B64 at hw
      refine lv_iload_n hx hb dX9_image_64 rfl (lv_at hl 3 rfl) ?_
      refine lv_bipush (v := (8 : Int32)) hx hb dX9_image_65 (by decide) ?_
      refine lv_icmp_ge (tgt := 93) hx hb dX9_image_67 (by decide) (fun c67 => ?_) (fun c67 => ?_)
      · have hw := hw.1 c67
        refine lv_iconst (v := (0 : Int32)) hx hb dX9_image_93 (by decide) ?_
        refine lv_istore_n (lv' := [(3, .int (0 : Int32)), (0, .ref h), (1, .int p1), (2, .int x2)]) hx hb dX9_image_94 rfl hl (by decide) rfl (fun ls hl => ?_)
        obtain ⟨n95, hw⟩ := hw
        exact L95 n95 f_image f_isKept x2 (0 : Int32) _ _ _ hw hP hD hS (lv_sub hl [1, 2, 3, 0] rfl)
      have hw := hw.2 c67
      refine lv_aload_n hx hb dX9_image_70 rfl (lv_at hl 0 rfl) ?_
      refine va_get (D := D) (ci := 9) (v := .ref h_image) (C := RX9) (T := TX9) (N := 21) hx hb hz hX_X9 hown hK.1 hP 0 rfl rfl 19 (by decide) (hz _ z3_175) (fun _ h9 => h9) rfl dX9_image_71 ?_
      refine lv_iload_n hx hb dX9_image_74 rfl (lv_at hl 2 rfl) ?_
      refine lv_bipush (v := (24 : Int32)) hx hb dX9_image_75 (by decide) ?_
      refine lv_iadd hx hb dX9_image_77 ?_
      refine lv_iload_n hx hb dX9_image_78 rfl (lv_at hl 3 rfl) ?_
      refine lv_iadd hx hb dX9_image_79 ?_
      refine lv_aload_n hx hb dX9_image_80 rfl (lv_at hl 0 rfl) ?_
      refine va_get (D := D) (ci := 9) (v := .ref h_places) (C := RX9) (T := TX9) (N := 21) hx hb hz hX_X9 hown hK.1 hP 0 rfl rfl 2 (by decide) (hz _ z3_158) (fun _ h9 => h9) rfl dX9_image_81 ?_
      refine lv_iload_n hx hb dX9_image_84 rfl (lv_at hl 3 rfl) ?_
      obtain ⟨hi85, hw⟩ := hw
      refine va_iald hx hb hK.1 hP 2 0 rfl rfl hi85 dX9_image_85 ?_
      obtain ⟨hi86, hw⟩ := hw
      refine va_iast hx hb hK.1 hP hD hS 5 0 rfl rfl hi86 dX9_image_86 (fun H locs hP hD hS => ?_)
      have hP : va_P D vwCl (cw_X9_image cI cZ h h_book h_places h_ways h_sight h_image h_isKept g_now g_signs g_pad g_offAt g_offWho g_reason g_acts g_enough g_rows g_counts g_pours f_book f_places f_power f_spite f_ways f_milky f_sights f_sight (upd f_image ((x2 + (24 : Int32)) + x3).toNatClampNeg (f_places x3.toNatClampNeg)) f_isKept) H := hP
      have hD : va_D A (cw_X9_image cI cZ h h_book h_places h_ways h_sight h_image h_isKept g_now g_signs g_pad g_offAt g_offWho g_reason g_acts g_enough g_rows g_counts g_pours f_book f_places f_power f_spite f_ways f_milky f_sights f_sight (upd f_image ((x2 + (24 : Int32)) + x3).toNatClampNeg (f_places x3.toNatClampNeg)) f_isKept) := hD
      refine lv_iinc (k := 3) (v := (x3 + 1)) (lv' := [(3, .int (x3 + 1)), (0, .ref h), (1, .int p1), (2, .int x2)]) hx hb dX9_image_87 hl rfl rfl (by decide) rfl (fun ls hl => ?_)
      refine lv_goto (tgt := 64) hx hb dX9_image_90 (by decide) ?_
      exact ih64 (upd f_image ((x2 + (24 : Int32)) + x3).toNatClampNeg (f_places x3.toNatClampNeg)) f_isKept x2 (x3 + 1) _ _ _ hw hP hD hS (lv_sub hl [1, 2, 3, 0] rfl)
  have L19 : ∀ (n19 : Nat) (f_image : Nat → Int32) (f_isKept : Nat → Int32) (x2 : Int32) (x3 : Int32) (H : Heap) (locs : List Loc) (ls : Array Slot) (hw : w_X9_image_B19 post f_book f_places f_power f_spite f_ways f_milky f_sights f_sight p1 n19 f_image f_isKept x2 x3) (hP : va_P D vwCl (cw_X9_image cI cZ h h_book h_places h_ways h_sight h_image h_isKept g_now g_signs g_pad g_offAt g_offWho g_reason g_acts g_enough g_rows g_counts g_pours f_book f_places f_power f_spite f_ways f_milky f_sights f_sight f_image f_isKept) H) (hD : va_D A (cw_X9_image cI cZ h h_book h_places h_ways h_sight h_image h_isKept g_now g_signs g_pad g_offAt g_offWho g_reason g_acts g_enough g_rows g_counts g_pours f_book f_places f_power f_spite f_ways f_milky f_sights f_sight f_image f_isKept)) (hS : va_S A s.heap H locs) (hl : lv_has ls 4 [(0, .ref h), (1, .int p1), (2, .int x2), (3, .int x3)]), W p l e (headSpec v_X9_image ({ frames := 1, cells := 0, slots := 0, locals := 22 } : Room)).room s m (([.ref h, .int p1] : List Value).toArray) below meth c H locs 0 0 (MQ below (q_X9_image D cI cZ h h_book h_places h_ways h_sight h_image h_isKept g_now g_signs g_pad g_offAt g_offWho g_reason g_acts g_enough g_rows g_counts g_pours post f_book f_places f_power f_spite f_ways f_milky f_sights f_sight A) (([.ref h, .int p1] : List Value).toArray) s 0 0 A) (F0 m 19 ls []) := by
    intro n19
    induction n19 with
    | zero => intro f_image f_isKept x2 x3 H locs ls hw; exact False.elim hw
    | succ n19 ih19 =>
      intro f_image f_isKept x2 x3 H locs ls hw hP hD hS hl
      unfold w_X9_image_B19 at hw
      refine lv_iload_n hx hb dX9_image_19 rfl (lv_at hl 3 rfl) ?_
      refine lv_bipush (v := (12 : Int32)) hx hb dX9_image_20 (by decide) ?_
      refine lv_icmp_ge (tgt := 62) hx hb dX9_image_22 (by decide) (fun c22 => ?_) (fun c22 => ?_)
      · have hw := hw.1 c22
        refine lv_iconst (v := (0 : Int32)) hx hb dX9_image_62 (by decide) ?_
        refine lv_istore_n (lv' := [(3, .int (0 : Int32)), (0, .ref h), (1, .int p1), (2, .int x2)]) hx hb dX9_image_63 rfl hl (by decide) rfl (fun ls hl => ?_)
        obtain ⟨n64, hw⟩ := hw
        exact L64 n64 f_image f_isKept x2 (0 : Int32) _ _ _ hw hP hD hS (lv_sub hl [1, 2, 3, 0] rfl)
      have hw := hw.2 c22
      refine lv_aload_n hx hb dX9_image_25 rfl (lv_at hl 0 rfl) ?_
      refine va_get (D := D) (ci := 9) (v := .ref h_image) (C := RX9) (T := TX9) (N := 21) hx hb hz hX_X9 hown hK.1 hP 0 rfl rfl 19 (by decide) (hz _ z3_175) (fun _ h9 => h9) rfl dX9_image_26 ?_
      refine lv_iload_n hx hb dX9_image_29 rfl (lv_at hl 2 rfl) ?_
      refine lv_iload_n hx hb dX9_image_30 rfl (lv_at hl 3 rfl) ?_
      refine lv_iadd hx hb dX9_image_31 ?_
      refine lv_aload_n hx hb dX9_image_32 rfl (lv_at hl 0 rfl) ?_
      refine va_get (D := D) (ci := 9) (v := .ref h_book) (C := RX9) (T := TX9) (N := 21) hx hb hz hX_X9 hown hK.1 hP 0 rfl rfl 0 (by decide) (hz _ z3_156) (fun _ h9 => h9) rfl dX9_image_33 ?_
      refine lv_iload_n hx hb dX9_image_36 rfl (lv_at hl 3 rfl) ?_
      obtain ⟨hi37, hw⟩ := hw
      refine va_iald hx hb hK.1 hP 1 0 rfl rfl hi37 dX9_image_37 ?_
      obtain ⟨hi38, hw⟩ := hw
      refine va_iast hx hb hK.1 hP hD hS 5 0 rfl rfl hi38 dX9_image_38 (fun H locs hP hD hS => ?_)
      have hP : va_P D vwCl (cw_X9_image cI cZ h h_book h_places h_ways h_sight h_image h_isKept g_now g_signs g_pad g_offAt g_offWho g_reason g_acts g_enough g_rows g_counts g_pours f_book f_places f_power f_spite f_ways f_milky f_sights f_sight (upd f_image (x2 + x3).toNatClampNeg (f_book x3.toNatClampNeg)) f_isKept) H := hP
      have hD : va_D A (cw_X9_image cI cZ h h_book h_places h_ways h_sight h_image h_isKept g_now g_signs g_pad g_offAt g_offWho g_reason g_acts g_enough g_rows g_counts g_pours f_book f_places f_power f_spite f_ways f_milky f_sights f_sight (upd f_image (x2 + x3).toNatClampNeg (f_book x3.toNatClampNeg)) f_isKept) := hD
      refine lv_aload_n hx hb dX9_image_39 rfl (lv_at hl 0 rfl) ?_
      refine va_get (D := D) (ci := 9) (v := .ref h_image) (C := RX9) (T := TX9) (N := 21) hx hb hz hX_X9 hown hK.1 hP 0 rfl rfl 19 (by decide) (hz _ z3_175) (fun _ h9 => h9) rfl dX9_image_40 ?_
      refine lv_iload_n hx hb dX9_image_43 rfl (lv_at hl 2 rfl) ?_
      refine lv_bipush (v := (12 : Int32)) hx hb dX9_image_44 (by decide) ?_
      refine lv_iadd hx hb dX9_image_46 ?_
      refine lv_iload_n hx hb dX9_image_47 rfl (lv_at hl 3 rfl) ?_
      refine lv_iadd hx hb dX9_image_48 ?_
      refine lv_aload_n hx hb dX9_image_49 rfl (lv_at hl 0 rfl) ?_
      refine va_get (D := D) (ci := 9) (v := .ref h_ways) (C := RX9) (T := TX9) (N := 21) hx hb hz hX_X9 hown hK.1 hP 0 rfl rfl 5 (by decide) (hz _ z3_161) (fun _ h9 => h9) rfl dX9_image_50 ?_
      refine lv_iload_n hx hb dX9_image_53 rfl (lv_at hl 3 rfl) ?_
      obtain ⟨hi54, hw⟩ := hw
      refine va_iald hx hb hK.1 hP 3 0 rfl rfl hi54 dX9_image_54 ?_
      obtain ⟨hi55, hw⟩ := hw
      refine va_iast hx hb hK.1 hP hD hS 5 0 rfl rfl hi55 dX9_image_55 (fun H locs hP hD hS => ?_)
      have hP : va_P D vwCl (cw_X9_image cI cZ h h_book h_places h_ways h_sight h_image h_isKept g_now g_signs g_pad g_offAt g_offWho g_reason g_acts g_enough g_rows g_counts g_pours f_book f_places f_power f_spite f_ways f_milky f_sights f_sight (upd (upd f_image (x2 + x3).toNatClampNeg (f_book x3.toNatClampNeg)) ((x2 + (12 : Int32)) + x3).toNatClampNeg (f_ways x3.toNatClampNeg)) f_isKept) H := hP
      have hD : va_D A (cw_X9_image cI cZ h h_book h_places h_ways h_sight h_image h_isKept g_now g_signs g_pad g_offAt g_offWho g_reason g_acts g_enough g_rows g_counts g_pours f_book f_places f_power f_spite f_ways f_milky f_sights f_sight (upd (upd f_image (x2 + x3).toNatClampNeg (f_book x3.toNatClampNeg)) ((x2 + (12 : Int32)) + x3).toNatClampNeg (f_ways x3.toNatClampNeg)) f_isKept) := hD
      refine lv_iinc (k := 3) (v := (x3 + 1)) (lv' := [(3, .int (x3 + 1)), (0, .ref h), (1, .int p1), (2, .int x2)]) hx hb dX9_image_56 hl rfl rfl (by decide) rfl (fun ls hl => ?_)
      refine lv_goto (tgt := 19) hx hb dX9_image_59 (by decide) ?_
      exact ih19 (upd (upd f_image (x2 + x3).toNatClampNeg (f_book x3.toNatClampNeg)) ((x2 + (12 : Int32)) + x3).toNatClampNeg (f_ways x3.toNatClampNeg)) f_isKept x2 (x3 + 1) _ _ _ hw hP hD hS (lv_sub hl [1, 2, 3, 0] rfl)
  unfold w_X9_image at hw
  refine lv_iload_n hx hb dX9_image_0 rfl (lv_at hl 1 rfl) ?_
  refine lv_iconst (v := (0 : Int32)) hx hb dX9_image_1 (by decide) ?_
  refine lv_iconst (v := (1 : Int32)) hx hb dX9_image_2 (by decide) ?_
  refine z_ri (z_runS (As := [.int p1, .int (0 : Int32), .int (1 : Int32)]) (rest := []) hF (c_X9_in l D cI cC cZ p1 (0 : Int32) (1 : Int32) _ _ hw) (va_cwS 3 hz (z_gS z3_225 z3_226 z1_10 z3_227) rfl rfl rfl hd_X9_in ⟨Nat.le_of_ble_eq_true rfl, Nat.le_of_ble_eq_true rfl⟩) hK hP hD [] rfl rfl rfl hl.1 rfl (Nat.le_of_ble_eq_true rfl) dX9_image_3 ⟨Nat.zero_le _, Nat.zero_le _⟩) hP hD hS hA [] rfl (fun _ => rfl) (fun _ => cw_X9_image cI cZ h h_book h_places h_ways h_sight h_image h_isKept g_now g_signs g_pad g_offAt g_offWho g_reason g_acts g_enough g_rows g_counts g_pours f_book f_places f_power f_spite f_ways f_milky f_sights f_sight f_image f_isKept) (fun _ => rfl) (fun r3 u3 H locs hw hP hD hS => ?_)
  obtain ⟨hn3, hw⟩ := hw
  try dsimp only at hw
  refine lv_if_ne (tgt := 12) hx hb dX9_image_6 (by decide) (fun c6 => ?_) (fun c6 => ?_)
  · have hw := hw.2 c6
    refine lv_bipush (v := (70 : Int32)) hx hb dX9_image_12 (by decide) ?_
    refine lv_iload_n hx hb dX9_image_14 rfl (lv_at hl 1 rfl) ?_
    refine lv_imul hx hb dX9_image_15 ?_
    refine lv_istore_n (lv' := [(2, .int ((70 : Int32) * p1)), (0, .ref h), (1, .int p1)]) hx hb dX9_image_16 rfl hl (by decide) rfl (fun ls hl => ?_)
    refine lv_iconst (v := (0 : Int32)) hx hb dX9_image_17 (by decide) ?_
    refine lv_istore_n (lv' := [(3, .int (0 : Int32)), (2, .int ((70 : Int32) * p1)), (0, .ref h), (1, .int p1)]) hx hb dX9_image_18 rfl hl (by decide) rfl (fun ls hl => ?_)
    obtain ⟨n19, hw⟩ := hw
    exact L19 n19 f_image f_isKept ((70 : Int32) * p1) (0 : Int32) _ _ _ hw hP hD hS (lv_sub hl [2, 3, 1, 0] rfl)
  have hw := hw.1 c6
  refine lv_bipush (v := (-2 : Int32)) hx hb dX9_image_9 (by decide) ?_
  exact z_iret hx hb hr hlocks (f_image, f_isKept) hw hP hS dX9_image_11
abbrev cw_X9_restore (cI cZ : ClassId) (h h_book h_places h_ways h_sight h_image h_isKept : Nat) (g_now g_signs g_pad g_offAt g_offWho g_reason g_acts g_enough g_rows g_counts g_pours : Value) (f_book : Nat → Int32) (f_places : Nat → Int32) (f_power : Int32) (f_spite : Int32) (f_ways : Nat → Int32) (f_milky : Int32) (f_sights : Int32) (f_sight : Nat → Int32) (f_image : Nat → Int32) (f_isKept : Nat → Int32) : va_W := [(h, .inr (9, [.ref h_book, g_now, .ref h_places, .int f_power, .int f_spite, .ref h_ways, .int f_milky, .int f_sights, .ref h_sight, g_signs, g_pad, g_offAt, g_offWho, g_reason, g_acts, g_enough, g_rows, g_counts, g_pours, .ref h_image, .ref h_isKept])), (h_book, .inl (cI, 12, .inl f_book)), (h_places, .inl (cI, 8, .inl f_places)), (h_ways, .inl (cI, 12, .inl f_ways)), (h_sight, .inl (cI, 24, .inl f_sight)), (h_image, .inl (cI, 140, .inl f_image)), (h_isKept, .inl (cZ, 2, .inl f_isKept))]
abbrev q_X9_restore (D : va_G) (cI cZ : ClassId) (h h_book h_places h_ways h_sight h_image h_isKept : Nat) (g_now g_signs g_pad g_offAt g_offWho g_reason g_acts g_enough g_rows g_counts g_pours : Value) (post : Int32 → (Nat → Int32) → (Nat → Int32) → Int32 → Int32 → (Nat → Int32) → Int32 → Int32 → (Nat → Int32) → Prop) (f_image : Nat → Int32) (f_isKept : Nat → Int32) (A : Nat → Prop) : Array Value → State → Outcome → State → Prop := va_Qi (S := (Nat → Int32) × (Nat → Int32) × Int32 × Int32 × (Nat → Int32) × Int32 × Int32 × (Nat → Int32)) (fun r u => post r u.1 u.2.1 u.2.2.1 u.2.2.2.1 u.2.2.2.2.1 u.2.2.2.2.2.1 u.2.2.2.2.2.2.1 u.2.2.2.2.2.2.2) (fun u t => va_P D vwCl (cw_X9_restore cI cZ h h_book h_places h_ways h_sight h_image h_isKept g_now g_signs g_pad g_offAt g_offWho g_reason g_acts g_enough g_rows g_counts g_pours u.1 u.2.1 u.2.2.1 u.2.2.2.1 u.2.2.2.2.1 u.2.2.2.2.2.1 u.2.2.2.2.2.2.1 u.2.2.2.2.2.2.2 f_image f_isKept) t.heap) A
abbrev v_X9_restore : List Cond := .code yX9_restore cX9_restore 4 (some .int) :: zB
theorem hd_X9_restore : yX9_restore.cls = RX9 ∧ yX9_restore.cls ≠ "java/lang/invoke/MethodHandle" ∧ yX9_restore.cls ≠ "java/lang/invoke/VarHandle" ∧ (parseMethodDescriptor yX9_restore.desc).map (fun d => d.parameters.length) = some 1 := by decide +kernel
set_option maxHeartbeats 4000000 in
set_option maxRecDepth 100000 in
theorem c_X9_restore (l : Launch) (D : va_G) (cI cC cZ : ClassId) (h h_book h_places h_ways h_sight h_image h_isKept : Nat) (g_now g_signs g_pad g_offAt g_offWho g_reason g_acts g_enough g_rows g_counts g_pours : Value) (f_book : Nat → Int32) (f_places : Nat → Int32) (f_power : Int32) (f_spite : Int32) (f_ways : Nat → Int32) (f_milky : Int32) (f_sights : Int32) (f_sight : Nat → Int32) (f_image : Nat → Int32) (f_isKept : Nat → Int32) (p1 : Int32) (sz : Nat) (post : Int32 → (Nat → Int32) → (Nat → Int32) → Int32 → Int32 → (Nat → Int32) → Int32 → Int32 → (Nat → Int32) → Prop) (hw : w_X9_restore post f_book f_places f_power f_spite f_ways f_milky f_sights f_sight f_image f_isKept p1) : Met l yX9_restore v_X9_restore ({ frames := 1, cells := 0, slots := 0, locals := 22 } : Room) (va_Pc [.ref h, .int p1] (zPre D (zT cI cC cZ) sz (cw_X9_restore cI cZ h h_book h_places h_ways h_sight h_image h_isKept g_now g_signs g_pad g_offAt g_offWho g_reason g_acts g_enough g_rows g_counts g_pours f_book f_places f_power f_spite f_ways f_milky f_sights f_sight f_image f_isKept))) (q_X9_restore D cI cZ h h_book h_places h_ways h_sight h_image h_isKept g_now g_signs g_pad g_offAt g_offWho g_reason g_acts g_enough g_rows g_counts g_pours post f_image f_isKept (va_A (cw_X9_restore cI cZ h h_book h_places h_ways h_sight h_image h_isKept g_now g_signs g_pad g_offAt g_offWho g_reason g_acts g_enough g_rows g_counts g_pours f_book f_places f_power f_spite f_ways f_milky f_sights f_sight f_image f_isKept) sz)) 0 0 (va_A (cw_X9_restore cI cZ h h_book h_places h_ways h_sight h_image h_isKept g_now g_signs g_pad g_offAt g_offWho g_reason g_acts g_enough g_rows g_counts g_pours f_book f_places f_power f_spite f_ways f_milky f_sights f_sight f_image f_isKept) sz) := by
  refine Met.ofW (cc := cX9_restore) (maxL := 4) (ret := (some .int)) (by decide) rfl ?_
  intro p e s m args below meth c s₁ B hml hv
  obtain ⟨rfl, hsz, hP, hK, hD0⟩ := hv
  subst hsz
  have hx := B.exec
  have hb := B.bytes
  have hr := B.returns
  have hz : ∀ w ∈ zB, w.before _ s = true := fun w h => atoms_spec (ws := v_X9_restore) B.pre w (List.mem_cons_of_mem _ h)
  have hown : s.vm.findClass RX9 = some m.cls := findClass_of_methodNamed B.named
  have hlocks := B.notSynchronized
  have hF : CallFix p m c cX9_restore 4 s (([.ref h, .int p1] : List Value).toArray) zB RX9 := ⟨hx, hb, hml, hown, hz⟩
  have hD := hD0.self (sz := s.heap.size)
  generalize hAe : va_A (cw_X9_restore cI cZ h h_book h_places h_ways h_sight h_image h_isKept g_now g_signs g_pad g_offAt g_offWho g_reason g_acts g_enough g_rows g_counts g_pours f_book f_places f_power f_spite f_ways f_milky f_sights f_sight f_image f_isKept) s.heap.size = A at hD ⊢
  have hA : ∀ q : Nat, s.heap.size ≤ q → A q := fun q h => by rw [← hAe]; exact Or.inr h
  have hS : va_S A s.heap s.heap [] := va_S.rf
  have hP : va_P D vwCl (cw_X9_restore cI cZ h h_book h_places h_ways h_sight h_image h_isKept g_now g_signs g_pad g_offAt g_offWho g_reason g_acts g_enough g_rows g_counts g_pours f_book f_places f_power f_spite f_ways f_milky f_sights f_sight f_image f_isKept) s.heap := hP
  have hl := lv_entry ([.ref h, .int p1]) (n := 4) (Nat.le_of_ble_eq_true rfl)
  rw [lg_entry_eq]
  generalize (lg_sl ([.ref h, .int p1]) ++ List.replicate (4 - (lg_sl ([.ref h, .int p1])).length) Slot.unset).toArray = ls at hl ⊢
  have hl : lv_has ls 4 [(0, .ref h), (1, .int p1)] := hl
  have L107 : ∀ (n107 : Nat) (f_book : Nat → Int32) (f_places : Nat → Int32) (f_power : Int32) (f_spite : Int32) (f_ways : Nat → Int32) (f_milky : Int32) (f_sights : Int32) (f_sight : Nat → Int32) (x2 : Int32) (x3 : Int32) (H : Heap) (locs : List Loc) (ls : Array Slot) (hw : w_X9_restore_B107 post f_image f_isKept p1 n107 f_book f_places f_power f_spite f_ways f_milky f_sights f_sight x2 x3) (hP : va_P D vwCl (cw_X9_restore cI cZ h h_book h_places h_ways h_sight h_image h_isKept g_now g_signs g_pad g_offAt g_offWho g_reason g_acts g_enough g_rows g_counts g_pours f_book f_places f_power f_spite f_ways f_milky f_sights f_sight f_image f_isKept) H) (hD : va_D A (cw_X9_restore cI cZ h h_book h_places h_ways h_sight h_image h_isKept g_now g_signs g_pad g_offAt g_offWho g_reason g_acts g_enough g_rows g_counts g_pours f_book f_places f_power f_spite f_ways f_milky f_sights f_sight f_image f_isKept)) (hS : va_S A s.heap H locs) (hl : lv_has ls 4 [(0, .ref h), (2, .int x2), (3, .int x3)]), W p l e (headSpec v_X9_restore ({ frames := 1, cells := 0, slots := 0, locals := 22 } : Room)).room s m (([.ref h, .int p1] : List Value).toArray) below meth c H locs 0 0 (MQ below (q_X9_restore D cI cZ h h_book h_places h_ways h_sight h_image h_isKept g_now g_signs g_pad g_offAt g_offWho g_reason g_acts g_enough g_rows g_counts g_pours post f_image f_isKept A) (([.ref h, .int p1] : List Value).toArray) s 0 0 A) (F0 m 107 ls []) := by
    intro n107
    induction n107 with
    | zero => intro f_book f_places f_power f_spite f_ways f_milky f_sights f_sight x2 x3 H locs ls hw; exact False.elim hw
    | succ n107 ih107 =>
      intro f_book f_places f_power f_spite f_ways f_milky f_sights f_sight x2 x3 H locs ls hw hP hD hS hl
      unfold w_X9_restore_B107 at hw
      refine lv_iload_n hx hb dX9_restore_107 rfl (lv_at hl 2 rfl) ?_
      refine lv_bipush (v := (24 : Int32)) hx hb dX9_restore_108 (by decide) ?_
      refine lv_icmp_ge (tgt := 136) hx hb dX9_restore_110 (by decide) (fun c110 => ?_) (fun c110 => ?_)
      · have hw := hw.1 c110
        refine lv_aload_n hx hb dX9_restore_136 rfl (lv_at hl 0 rfl) ?_
        refine lv_aload_n hx hb dX9_restore_137 rfl (lv_at hl 0 rfl) ?_
        refine va_get (D := D) (ci := 9) (v := .ref h_image) (C := RX9) (T := TX9) (N := 21) hx hb hz hX_X9 hown hK.1 hP 0 rfl rfl 19 (by decide) (hz _ z3_175) (fun _ h9 => h9) rfl dX9_restore_138 ?_
        refine lv_iload_n hx hb dX9_restore_141 rfl (lv_at hl 1 rfl) ?_
        refine lv_bipush (v := (60 : Int32)) hx hb dX9_restore_142 (by decide) ?_
        refine lv_iadd hx hb dX9_restore_144 ?_
        obtain ⟨hi145, hw⟩ := hw
        refine va_iald hx hb hK.1 hP 5 0 rfl rfl hi145 dX9_restore_145 ?_
        refine lv_topi (fun y146 ey146 => ?_)
        have hw := hw y146 ey146
        refine va_put (D := D) (ci := 9) (v := .int y146) (ty := .int) (C := RX9) (T := TX9) (N := 21) hx hb hz hX_X9 tyX9 tyX9_ok nmX9 hown hK.1 hP hD hS 0 rfl rfl 3 (by decide) (hz _ z3_159) (fun _ h9 => h9) rfl (tyX9_ok 3 (by decide)) rfl rfl (Nat.le_of_ble_eq_true rfl) dX9_restore_146 (fun H locs hP hD hS => ?_)
        have hP : va_P D vwCl (cw_X9_restore cI cZ h h_book h_places h_ways h_sight h_image h_isKept g_now g_signs g_pad g_offAt g_offWho g_reason g_acts g_enough g_rows g_counts g_pours f_book f_places y146 f_spite f_ways f_milky f_sights f_sight f_image f_isKept) H := hP
        have hD : va_D A (cw_X9_restore cI cZ h h_book h_places h_ways h_sight h_image h_isKept g_now g_signs g_pad g_offAt g_offWho g_reason g_acts g_enough g_rows g_counts g_pours f_book f_places y146 f_spite f_ways f_milky f_sights f_sight f_image f_isKept) := hD
        refine lv_aload_n hx hb dX9_restore_149 rfl (lv_at hl 0 rfl) ?_
        refine lv_aload_n hx hb dX9_restore_150 rfl (lv_at hl 0 rfl) ?_
        refine va_get (D := D) (ci := 9) (v := .ref h_image) (C := RX9) (T := TX9) (N := 21) hx hb hz hX_X9 hown hK.1 hP 0 rfl rfl 19 (by decide) (hz _ z3_175) (fun _ h9 => h9) rfl dX9_restore_151 ?_
        refine lv_iload_n hx hb dX9_restore_154 rfl (lv_at hl 1 rfl) ?_
        refine lv_bipush (v := (61 : Int32)) hx hb dX9_restore_155 (by decide) ?_
        refine lv_iadd hx hb dX9_restore_157 ?_
        obtain ⟨hi158, hw⟩ := hw
        refine va_iald hx hb hK.1 hP 5 0 rfl rfl hi158 dX9_restore_158 ?_
        refine lv_topi (fun y159 ey159 => ?_)
        have hw := hw y159 ey159
        refine va_put (D := D) (ci := 9) (v := .int y159) (ty := .int) (C := RX9) (T := TX9) (N := 21) hx hb hz hX_X9 tyX9 tyX9_ok nmX9 hown hK.1 hP hD hS 0 rfl rfl 4 (by decide) (hz _ z3_160) (fun _ h9 => h9) rfl (tyX9_ok 4 (by decide)) rfl rfl (Nat.le_of_ble_eq_true rfl) dX9_restore_159 (fun H locs hP hD hS => ?_)
        have hP : va_P D vwCl (cw_X9_restore cI cZ h h_book h_places h_ways h_sight h_image h_isKept g_now g_signs g_pad g_offAt g_offWho g_reason g_acts g_enough g_rows g_counts g_pours f_book f_places y146 y159 f_ways f_milky f_sights f_sight f_image f_isKept) H := hP
        have hD : va_D A (cw_X9_restore cI cZ h h_book h_places h_ways h_sight h_image h_isKept g_now g_signs g_pad g_offAt g_offWho g_reason g_acts g_enough g_rows g_counts g_pours f_book f_places y146 y159 f_ways f_milky f_sights f_sight f_image f_isKept) := hD
        refine lv_aload_n hx hb dX9_restore_162 rfl (lv_at hl 0 rfl) ?_
        refine lv_aload_n hx hb dX9_restore_163 rfl (lv_at hl 0 rfl) ?_
        refine va_get (D := D) (ci := 9) (v := .ref h_image) (C := RX9) (T := TX9) (N := 21) hx hb hz hX_X9 hown hK.1 hP 0 rfl rfl 19 (by decide) (hz _ z3_175) (fun _ h9 => h9) rfl dX9_restore_164 ?_
        refine lv_iload_n hx hb dX9_restore_167 rfl (lv_at hl 1 rfl) ?_
        refine lv_bipush (v := (62 : Int32)) hx hb dX9_restore_168 (by decide) ?_
        refine lv_iadd hx hb dX9_restore_170 ?_
        obtain ⟨hi171, hw⟩ := hw
        refine va_iald hx hb hK.1 hP 5 0 rfl rfl hi171 dX9_restore_171 ?_
        refine lv_topi (fun y172 ey172 => ?_)
        have hw := hw y172 ey172
        refine va_put (D := D) (ci := 9) (v := .int y172) (ty := .int) (C := RX9) (T := TX9) (N := 21) hx hb hz hX_X9 tyX9 tyX9_ok nmX9 hown hK.1 hP hD hS 0 rfl rfl 6 (by decide) (hz _ z3_162) (fun _ h9 => h9) rfl (tyX9_ok 6 (by decide)) rfl rfl (Nat.le_of_ble_eq_true rfl) dX9_restore_172 (fun H locs hP hD hS => ?_)
        have hP : va_P D vwCl (cw_X9_restore cI cZ h h_book h_places h_ways h_sight h_image h_isKept g_now g_signs g_pad g_offAt g_offWho g_reason g_acts g_enough g_rows g_counts g_pours f_book f_places y146 y159 f_ways y172 f_sights f_sight f_image f_isKept) H := hP
        have hD : va_D A (cw_X9_restore cI cZ h h_book h_places h_ways h_sight h_image h_isKept g_now g_signs g_pad g_offAt g_offWho g_reason g_acts g_enough g_rows g_counts g_pours f_book f_places y146 y159 f_ways y172 f_sights f_sight f_image f_isKept) := hD
        refine lv_aload_n hx hb dX9_restore_175 rfl (lv_at hl 0 rfl) ?_
        refine lv_aload_n hx hb dX9_restore_176 rfl (lv_at hl 0 rfl) ?_
        refine va_get (D := D) (ci := 9) (v := .ref h_image) (C := RX9) (T := TX9) (N := 21) hx hb hz hX_X9 hown hK.1 hP 0 rfl rfl 19 (by decide) (hz _ z3_175) (fun _ h9 => h9) rfl dX9_restore_177 ?_
        refine lv_iload_n hx hb dX9_restore_180 rfl (lv_at hl 1 rfl) ?_
        refine lv_bipush (v := (63 : Int32)) hx hb dX9_restore_181 (by decide) ?_
        refine lv_iadd hx hb dX9_restore_183 ?_
        obtain ⟨hi184, hw⟩ := hw
        refine va_iald hx hb hK.1 hP 5 0 rfl rfl hi184 dX9_restore_184 ?_
        refine lv_topi (fun y185 ey185 => ?_)
        have hw := hw y185 ey185
        refine va_put (D := D) (ci := 9) (v := .int y185) (ty := .int) (C := RX9) (T := TX9) (N := 21) hx hb hz hX_X9 tyX9 tyX9_ok nmX9 hown hK.1 hP hD hS 0 rfl rfl 7 (by decide) (hz _ z3_163) (fun _ h9 => h9) rfl (tyX9_ok 7 (by decide)) rfl rfl (Nat.le_of_ble_eq_true rfl) dX9_restore_185 (fun H locs hP hD hS => ?_)
        have hP : va_P D vwCl (cw_X9_restore cI cZ h h_book h_places h_ways h_sight h_image h_isKept g_now g_signs g_pad g_offAt g_offWho g_reason g_acts g_enough g_rows g_counts g_pours f_book f_places y146 y159 f_ways y172 y185 f_sight f_image f_isKept) H := hP
        have hD : va_D A (cw_X9_restore cI cZ h h_book h_places h_ways h_sight h_image h_isKept g_now g_signs g_pad g_offAt g_offWho g_reason g_acts g_enough g_rows g_counts g_pours f_book f_places y146 y159 f_ways y172 y185 f_sight f_image f_isKept) := hD
        refine lv_iconst (v := (1 : Int32)) hx hb dX9_restore_188 (by decide) ?_
        exact z_iret hx hb hr hlocks (f_book, f_places, y146, y159, f_ways, y172, y185, f_sight) hw hP hS dX9_restore_189
      have hw := hw.2 c110
      refine lv_aload_n hx hb dX9_restore_113 rfl (lv_at hl 0 rfl) ?_
      refine va_get (D := D) (ci := 9) (v := .ref h_sight) (C := RX9) (T := TX9) (N := 21) hx hb hz hX_X9 hown hK.1 hP 0 rfl rfl 8 (by decide) (hz _ z3_164) (fun _ h9 => h9) rfl dX9_restore_114 ?_
      refine lv_iload_n hx hb dX9_restore_117 rfl (lv_at hl 2 rfl) ?_
      refine lv_aload_n hx hb dX9_restore_118 rfl (lv_at hl 0 rfl) ?_
      refine va_get (D := D) (ci := 9) (v := .ref h_image) (C := RX9) (T := TX9) (N := 21) hx hb hz hX_X9 hown hK.1 hP 0 rfl rfl 19 (by decide) (hz _ z3_175) (fun _ h9 => h9) rfl dX9_restore_119 ?_
      refine lv_iload_n hx hb dX9_restore_122 rfl (lv_at hl 1 rfl) ?_
      refine lv_bipush (v := (32 : Int32)) hx hb dX9_restore_123 (by decide) ?_
      refine lv_iadd hx hb dX9_restore_125 ?_
      refine lv_iload_n hx hb dX9_restore_126 rfl (lv_at hl 2 rfl) ?_
      refine lv_iadd hx hb dX9_restore_127 ?_
      obtain ⟨hi128, hw⟩ := hw
      refine va_iald hx hb hK.1 hP 5 0 rfl rfl hi128 dX9_restore_128 ?_
      obtain ⟨hi129, hw⟩ := hw
      refine va_iast hx hb hK.1 hP hD hS 4 0 rfl rfl hi129 dX9_restore_129 (fun H locs hP hD hS => ?_)
      have hP : va_P D vwCl (cw_X9_restore cI cZ h h_book h_places h_ways h_sight h_image h_isKept g_now g_signs g_pad g_offAt g_offWho g_reason g_acts g_enough g_rows g_counts g_pours f_book f_places f_power f_spite f_ways f_milky f_sights (upd f_sight x3.toNatClampNeg (f_image ((x2 + (32 : Int32)) + x3).toNatClampNeg)) f_image f_isKept) H := hP
      have hD : va_D A (cw_X9_restore cI cZ h h_book h_places h_ways h_sight h_image h_isKept g_now g_signs g_pad g_offAt g_offWho g_reason g_acts g_enough g_rows g_counts g_pours f_book f_places f_power f_spite f_ways f_milky f_sights (upd f_sight x3.toNatClampNeg (f_image ((x2 + (32 : Int32)) + x3).toNatClampNeg)) f_image f_isKept) := hD
      refine lv_iinc (k := 2) (v := (x3 + 1)) (lv' := [(3, .int (x3 + 1)), (0, .ref h), (2, .int x2)]) hx hb dX9_restore_130 hl rfl rfl (by decide) rfl (fun ls hl => ?_)
      refine lv_goto (tgt := 107) hx hb dX9_restore_133 (by decide) ?_
      exact ih107 f_book f_places f_power f_spite f_ways f_milky f_sights (upd f_sight x3.toNatClampNeg (f_image ((x2 + (32 : Int32)) + x3).toNatClampNeg)) x2 (x3 + 1) _ _ _ hw hP hD hS (lv_sub hl [1, 2, 0] rfl)
  have L76 : ∀ (n76 : Nat) (f_book : Nat → Int32) (f_places : Nat → Int32) (f_power : Int32) (f_spite : Int32) (f_ways : Nat → Int32) (f_milky : Int32) (f_sights : Int32) (f_sight : Nat → Int32) (x2 : Int32) (x3 : Int32) (H : Heap) (locs : List Loc) (ls : Array Slot) (hw : w_X9_restore_B76 post f_image f_isKept p1 n76 f_book f_places f_power f_spite f_ways f_milky f_sights f_sight x2 x3) (hP : va_P D vwCl (cw_X9_restore cI cZ h h_book h_places h_ways h_sight h_image h_isKept g_now g_signs g_pad g_offAt g_offWho g_reason g_acts g_enough g_rows g_counts g_pours f_book f_places f_power f_spite f_ways f_milky f_sights f_sight f_image f_isKept) H) (hD : va_D A (cw_X9_restore cI cZ h h_book h_places h_ways h_sight h_image h_isKept g_now g_signs g_pad g_offAt g_offWho g_reason g_acts g_enough g_rows g_counts g_pours f_book f_places f_power f_spite f_ways f_milky f_sights f_sight f_image f_isKept)) (hS : va_S A s.heap H locs) (hl : lv_has ls 4 [(0, .ref h), (2, .int x2), (3, .int x3)]), W p l e (headSpec v_X9_restore ({ frames := 1, cells := 0, slots := 0, locals := 22 } : Room)).room s m (([.ref h, .int p1] : List Value).toArray) below meth c H locs 0 0 (MQ below (q_X9_restore D cI cZ h h_book h_places h_ways h_sight h_image h_isKept g_now g_signs g_pad g_offAt g_offWho g_reason g_acts g_enough g_rows g_counts g_pours post f_image f_isKept A) (([.ref h, .int p1] : List Value).toArray) s 0 0 A) (F0 m 76 ls []) := by
    intro n76
    induction n76 with
    | zero => intro f_book f_places f_power f_spite f_ways f_milky f_sights f_sight x2 x3 H locs ls hw; exact False.elim hw
    | succ n76 ih76 =>
      intro f_book f_places f_power f_spite f_ways f_milky f_sights f_sight x2 x3 H locs ls hw hP hD hS hl
      unfold w_X9_restore_B76 at hw
      refine lv_iload_n hx hb dX9_restore_76 rfl (lv_at hl 2 rfl) ?_
      refine lv_bipush (v := (8 : Int32)) hx hb dX9_restore_77 (by decide) ?_
      refine lv_icmp_ge (tgt := 105) hx hb dX9_restore_79 (by decide) (fun c79 => ?_) (fun c79 => ?_)
      · have hw := hw.1 c79
        refine lv_iconst (v := (0 : Int32)) hx hb dX9_restore_105 (by decide) ?_
        refine lv_istore_n (lv' := [(3, .int (0 : Int32)), (0, .ref h), (2, .int x2)]) hx hb dX9_restore_106 rfl hl (by decide) rfl (fun ls hl => ?_)
        obtain ⟨n107, hw⟩ := hw
        exact L107 n107 f_book f_places f_power f_spite f_ways f_milky f_sights f_sight x2 (0 : Int32) _ _ _ hw hP hD hS (lv_sub hl [1, 2, 0] rfl)
      have hw := hw.2 c79
      refine lv_aload_n hx hb dX9_restore_82 rfl (lv_at hl 0 rfl) ?_
      refine va_get (D := D) (ci := 9) (v := .ref h_places) (C := RX9) (T := TX9) (N := 21) hx hb hz hX_X9 hown hK.1 hP 0 rfl rfl 2 (by decide) (hz _ z3_158) (fun _ h9 => h9) rfl dX9_restore_83 ?_
      refine lv_iload_n hx hb dX9_restore_86 rfl (lv_at hl 2 rfl) ?_
      refine lv_aload_n hx hb dX9_restore_87 rfl (lv_at hl 0 rfl) ?_
      refine va_get (D := D) (ci := 9) (v := .ref h_image) (C := RX9) (T := TX9) (N := 21) hx hb hz hX_X9 hown hK.1 hP 0 rfl rfl 19 (by decide) (hz _ z3_175) (fun _ h9 => h9) rfl dX9_restore_88 ?_
      refine lv_iload_n hx hb dX9_restore_91 rfl (lv_at hl 1 rfl) ?_
      refine lv_bipush (v := (24 : Int32)) hx hb dX9_restore_92 (by decide) ?_
      refine lv_iadd hx hb dX9_restore_94 ?_
      refine lv_iload_n hx hb dX9_restore_95 rfl (lv_at hl 2 rfl) ?_
      refine lv_iadd hx hb dX9_restore_96 ?_
      obtain ⟨hi97, hw⟩ := hw
      refine va_iald hx hb hK.1 hP 5 0 rfl rfl hi97 dX9_restore_97 ?_
      obtain ⟨hi98, hw⟩ := hw
      refine va_iast hx hb hK.1 hP hD hS 2 0 rfl rfl hi98 dX9_restore_98 (fun H locs hP hD hS => ?_)
      have hP : va_P D vwCl (cw_X9_restore cI cZ h h_book h_places h_ways h_sight h_image h_isKept g_now g_signs g_pad g_offAt g_offWho g_reason g_acts g_enough g_rows g_counts g_pours f_book (upd f_places x3.toNatClampNeg (f_image ((x2 + (24 : Int32)) + x3).toNatClampNeg)) f_power f_spite f_ways f_milky f_sights f_sight f_image f_isKept) H := hP
      have hD : va_D A (cw_X9_restore cI cZ h h_book h_places h_ways h_sight h_image h_isKept g_now g_signs g_pad g_offAt g_offWho g_reason g_acts g_enough g_rows g_counts g_pours f_book (upd f_places x3.toNatClampNeg (f_image ((x2 + (24 : Int32)) + x3).toNatClampNeg)) f_power f_spite f_ways f_milky f_sights f_sight f_image f_isKept) := hD
      refine lv_iinc (k := 2) (v := (x3 + 1)) (lv' := [(3, .int (x3 + 1)), (0, .ref h), (2, .int x2)]) hx hb dX9_restore_99 hl rfl rfl (by decide) rfl (fun ls hl => ?_)
      refine lv_goto (tgt := 76) hx hb dX9_restore_102 (by decide) ?_
      exact ih76 f_book (upd f_places x3.toNatClampNeg (f_image ((x2 + (24 : Int32)) + x3).toNatClampNeg)) f_power f_spite f_ways f_milky f_sights f_sight x2 (x3 + 1) _ _ _ hw hP hD hS (lv_sub hl [1, 2, 0] rfl)
  have L31 : ∀ (n31 : Nat) (f_book : Nat → Int32) (f_places : Nat → Int32) (f_power : Int32) (f_spite : Int32) (f_ways : Nat → Int32) (f_milky : Int32) (f_sights : Int32) (f_sight : Nat → Int32) (x2 : Int32) (x3 : Int32) (H : Heap) (locs : List Loc) (ls : Array Slot) (hw : w_X9_restore_B31 post f_image f_isKept p1 n31 f_book f_places f_power f_spite f_ways f_milky f_sights f_sight x2 x3) (hP : va_P D vwCl (cw_X9_restore cI cZ h h_book h_places h_ways h_sight h_image h_isKept g_now g_signs g_pad g_offAt g_offWho g_reason g_acts g_enough g_rows g_counts g_pours f_book f_places f_power f_spite f_ways f_milky f_sights f_sight f_image f_isKept) H) (hD : va_D A (cw_X9_restore cI cZ h h_book h_places h_ways h_sight h_image h_isKept g_now g_signs g_pad g_offAt g_offWho g_reason g_acts g_enough g_rows g_counts g_pours f_book f_places f_power f_spite f_ways f_milky f_sights f_sight f_image f_isKept)) (hS : va_S A s.heap H locs) (hl : lv_has ls 4 [(0, .ref h), (2, .int x2), (3, .int x3)]), W p l e (headSpec v_X9_restore ({ frames := 1, cells := 0, slots := 0, locals := 22 } : Room)).room s m (([.ref h, .int p1] : List Value).toArray) below meth c H locs 0 0 (MQ below (q_X9_restore D cI cZ h h_book h_places h_ways h_sight h_image h_isKept g_now g_signs g_pad g_offAt g_offWho g_reason g_acts g_enough g_rows g_counts g_pours post f_image f_isKept A) (([.ref h, .int p1] : List Value).toArray) s 0 0 A) (F0 m 31 ls []) := by
    intro n31
    induction n31 with
    | zero => intro f_book f_places f_power f_spite f_ways f_milky f_sights f_sight x2 x3 H locs ls hw; exact False.elim hw
    | succ n31 ih31 =>
      intro f_book f_places f_power f_spite f_ways f_milky f_sights f_sight x2 x3 H locs ls hw hP hD hS hl
      unfold w_X9_restore_B31 at hw
      refine lv_iload_n hx hb dX9_restore_31 rfl (lv_at hl 2 rfl) ?_
      refine lv_bipush (v := (12 : Int32)) hx hb dX9_restore_32 (by decide) ?_
      refine lv_icmp_ge (tgt := 74) hx hb dX9_restore_34 (by decide) (fun c34 => ?_) (fun c34 => ?_)
      · have hw := hw.1 c34
        refine lv_iconst (v := (0 : Int32)) hx hb dX9_restore_74 (by decide) ?_
        refine lv_istore_n (lv' := [(3, .int (0 : Int32)), (0, .ref h), (2, .int x2)]) hx hb dX9_restore_75 rfl hl (by decide) rfl (fun ls hl => ?_)
        obtain ⟨n76, hw⟩ := hw
        exact L76 n76 f_book f_places f_power f_spite f_ways f_milky f_sights f_sight x2 (0 : Int32) _ _ _ hw hP hD hS (lv_sub hl [1, 2, 0] rfl)
      have hw := hw.2 c34
      refine lv_aload_n hx hb dX9_restore_37 rfl (lv_at hl 0 rfl) ?_
      refine va_get (D := D) (ci := 9) (v := .ref h_book) (C := RX9) (T := TX9) (N := 21) hx hb hz hX_X9 hown hK.1 hP 0 rfl rfl 0 (by decide) (hz _ z3_156) (fun _ h9 => h9) rfl dX9_restore_38 ?_
      refine lv_iload_n hx hb dX9_restore_41 rfl (lv_at hl 2 rfl) ?_
      refine lv_aload_n hx hb dX9_restore_42 rfl (lv_at hl 0 rfl) ?_
      refine va_get (D := D) (ci := 9) (v := .ref h_image) (C := RX9) (T := TX9) (N := 21) hx hb hz hX_X9 hown hK.1 hP 0 rfl rfl 19 (by decide) (hz _ z3_175) (fun _ h9 => h9) rfl dX9_restore_43 ?_
      refine lv_iload_n hx hb dX9_restore_46 rfl (lv_at hl 1 rfl) ?_
      refine lv_iload_n hx hb dX9_restore_47 rfl (lv_at hl 2 rfl) ?_
      refine lv_iadd hx hb dX9_restore_48 ?_
      obtain ⟨hi49, hw⟩ := hw
      refine va_iald hx hb hK.1 hP 5 0 rfl rfl hi49 dX9_restore_49 ?_
      obtain ⟨hi50, hw⟩ := hw
      refine va_iast hx hb hK.1 hP hD hS 1 0 rfl rfl hi50 dX9_restore_50 (fun H locs hP hD hS => ?_)
      have hP : va_P D vwCl (cw_X9_restore cI cZ h h_book h_places h_ways h_sight h_image h_isKept g_now g_signs g_pad g_offAt g_offWho g_reason g_acts g_enough g_rows g_counts g_pours (upd f_book x3.toNatClampNeg (f_image (x2 + x3).toNatClampNeg)) f_places f_power f_spite f_ways f_milky f_sights f_sight f_image f_isKept) H := hP
      have hD : va_D A (cw_X9_restore cI cZ h h_book h_places h_ways h_sight h_image h_isKept g_now g_signs g_pad g_offAt g_offWho g_reason g_acts g_enough g_rows g_counts g_pours (upd f_book x3.toNatClampNeg (f_image (x2 + x3).toNatClampNeg)) f_places f_power f_spite f_ways f_milky f_sights f_sight f_image f_isKept) := hD
      refine lv_aload_n hx hb dX9_restore_51 rfl (lv_at hl 0 rfl) ?_
      refine va_get (D := D) (ci := 9) (v := .ref h_ways) (C := RX9) (T := TX9) (N := 21) hx hb hz hX_X9 hown hK.1 hP 0 rfl rfl 5 (by decide) (hz _ z3_161) (fun _ h9 => h9) rfl dX9_restore_52 ?_
      refine lv_iload_n hx hb dX9_restore_55 rfl (lv_at hl 2 rfl) ?_
      refine lv_aload_n hx hb dX9_restore_56 rfl (lv_at hl 0 rfl) ?_
      refine va_get (D := D) (ci := 9) (v := .ref h_image) (C := RX9) (T := TX9) (N := 21) hx hb hz hX_X9 hown hK.1 hP 0 rfl rfl 19 (by decide) (hz _ z3_175) (fun _ h9 => h9) rfl dX9_restore_57 ?_
      refine lv_iload_n hx hb dX9_restore_60 rfl (lv_at hl 1 rfl) ?_
      refine lv_bipush (v := (12 : Int32)) hx hb dX9_restore_61 (by decide) ?_
      refine lv_iadd hx hb dX9_restore_63 ?_
      refine lv_iload_n hx hb dX9_restore_64 rfl (lv_at hl 2 rfl) ?_
      refine lv_iadd hx hb dX9_restore_65 ?_
      obtain ⟨hi66, hw⟩ := hw
      refine va_iald hx hb hK.1 hP 5 0 rfl rfl hi66 dX9_restore_66 ?_
      obtain ⟨hi67, hw⟩ := hw
      refine va_iast hx hb hK.1 hP hD hS 3 0 rfl rfl hi67 dX9_restore_67 (fun H locs hP hD hS => ?_)
      have hP : va_P D vwCl (cw_X9_restore cI cZ h h_book h_places h_ways h_sight h_image h_isKept g_now g_signs g_pad g_offAt g_offWho g_reason g_acts g_enough g_rows g_counts g_pours (upd f_book x3.toNatClampNeg (f_image (x2 + x3).toNatClampNeg)) f_places f_power f_spite (upd f_ways x3.toNatClampNeg (f_image ((x2 + (12 : Int32)) + x3).toNatClampNeg)) f_milky f_sights f_sight f_image f_isKept) H := hP
      have hD : va_D A (cw_X9_restore cI cZ h h_book h_places h_ways h_sight h_image h_isKept g_now g_signs g_pad g_offAt g_offWho g_reason g_acts g_enough g_rows g_counts g_pours (upd f_book x3.toNatClampNeg (f_image (x2 + x3).toNatClampNeg)) f_places f_power f_spite (upd f_ways x3.toNatClampNeg (f_image ((x2 + (12 : Int32)) + x3).toNatClampNeg)) f_milky f_sights f_sight f_image f_isKept) := hD
      refine lv_iinc (k := 2) (v := (x3 + 1)) (lv' := [(3, .int (x3 + 1)), (0, .ref h), (2, .int x2)]) hx hb dX9_restore_68 hl rfl rfl (by decide) rfl (fun ls hl => ?_)
      refine lv_goto (tgt := 31) hx hb dX9_restore_71 (by decide) ?_
      exact ih31 (upd f_book x3.toNatClampNeg (f_image (x2 + x3).toNatClampNeg)) f_places f_power f_spite (upd f_ways x3.toNatClampNeg (f_image ((x2 + (12 : Int32)) + x3).toNatClampNeg)) f_milky f_sights f_sight x2 (x3 + 1) _ _ _ hw hP hD hS (lv_sub hl [1, 2, 0] rfl)
  unfold w_X9_restore at hw
  refine lv_iload_n hx hb dX9_restore_0 rfl (lv_at hl 1 rfl) ?_
  refine lv_iconst (v := (0 : Int32)) hx hb dX9_restore_1 (by decide) ?_
  refine lv_iconst (v := (1 : Int32)) hx hb dX9_restore_2 (by decide) ?_
  refine z_ri (z_runS (As := [.int p1, .int (0 : Int32), .int (1 : Int32)]) (rest := []) hF (c_X9_in l D cI cC cZ p1 (0 : Int32) (1 : Int32) _ _ hw) (va_cwS 3 hz (z_gS z3_225 z3_226 z1_10 z3_227) rfl rfl rfl hd_X9_in ⟨Nat.le_of_ble_eq_true rfl, Nat.le_of_ble_eq_true rfl⟩) hK hP hD [] rfl rfl rfl hl.1 rfl (Nat.le_of_ble_eq_true rfl) dX9_restore_3 ⟨Nat.zero_le _, Nat.zero_le _⟩) hP hD hS hA [] rfl (fun _ => rfl) (fun _ => cw_X9_restore cI cZ h h_book h_places h_ways h_sight h_image h_isKept g_now g_signs g_pad g_offAt g_offWho g_reason g_acts g_enough g_rows g_counts g_pours f_book f_places f_power f_spite f_ways f_milky f_sights f_sight f_image f_isKept) (fun _ => rfl) (fun r3 u3 H locs hw hP hD hS => ?_)
  obtain ⟨hn3, hw⟩ := hw
  try dsimp only at hw
  refine lv_if_ne (tgt := 12) hx hb dX9_restore_6 (by decide) (fun c6 => ?_) (fun c6 => ?_)
  · have hw := hw.2 c6
    refine lv_aload_n hx hb dX9_restore_12 rfl (lv_at hl 0 rfl) ?_
    refine va_get (D := D) (ci := 9) (v := .ref h_isKept) (C := RX9) (T := TX9) (N := 21) hx hb hz hX_X9 hown hK.1 hP 0 rfl rfl 20 (by decide) (hz _ z3_176) (fun _ h9 => h9) rfl dX9_restore_13 ?_
    refine lv_iload_n hx hb dX9_restore_16 rfl (lv_at hl 1 rfl) ?_
    obtain ⟨hi17, hw⟩ := hw
    refine va_zald hx hb hK.1 hP 6 2 rfl rfl hi17 dX9_restore_17 ?_
    refine lv_if_ne (tgt := 24) hx hb dX9_restore_18 (by decide) (fun c18 => ?_) (fun c18 => ?_)
    · have hw := hw.2 c18
      refine lv_bipush (v := (70 : Int32)) hx hb dX9_restore_24 (by decide) ?_
      refine lv_iload_n hx hb dX9_restore_26 rfl (lv_at hl 1 rfl) ?_
      refine lv_imul hx hb dX9_restore_27 ?_
      refine lv_istore_n (lv' := [(2, .int ((70 : Int32) * p1)), (0, .ref h), (1, .int p1)]) hx hb dX9_restore_28 rfl hl (by decide) rfl (fun ls hl => ?_)
      refine lv_iconst (v := (0 : Int32)) hx hb dX9_restore_29 (by decide) ?_
      refine lv_istore_n (lv' := [(3, .int (0 : Int32)), (2, .int ((70 : Int32) * p1)), (0, .ref h), (1, .int p1)]) hx hb dX9_restore_30 rfl hl (by decide) rfl (fun ls hl => ?_)
      obtain ⟨n31, hw⟩ := hw
      exact L31 n31 f_book f_places f_power f_spite f_ways f_milky f_sights f_sight ((70 : Int32) * p1) (0 : Int32) _ _ _ hw hP hD hS (lv_sub hl [2, 1, 0] rfl)
    have hw := hw.1 c18
    refine lv_bipush (v := (-3 : Int32)) hx hb dX9_restore_21 (by decide) ?_
    exact z_iret hx hb hr hlocks (f_book, f_places, f_power, f_spite, f_ways, f_milky, f_sights, f_sight) hw hP hS dX9_restore_23
  have hw := hw.1 c6
  refine lv_bipush (v := (-2 : Int32)) hx hb dX9_restore_9 (by decide) ?_
  exact z_iret hx hb hr hlocks (f_book, f_places, f_power, f_spite, f_ways, f_milky, f_sights, f_sight) hw hP hS dX9_restore_11
abbrev cw_X9_told (cI : ClassId) (h h_book h_now h_places h_ways : Nat) (g_sight g_pad g_reason g_acts g_enough g_rows g_counts g_pours g_image g_isKept : Value) (f_book : Nat → Int32) (f_now : Nat → Int32) (f_places : Nat → Int32) (f_power : Int32) (f_spite : Int32) (f_ways : Nat → Int32) (f_milky : Int32) (f_sights : Int32) (f_signs : Int32) (f_offAt : Int32) (f_offWho : Int32) : va_W := [(h, .inr (9, [.ref h_book, .ref h_now, .ref h_places, .int f_power, .int f_spite, .ref h_ways, .int f_milky, .int f_sights, g_sight, .int f_signs, g_pad, .int f_offAt, .int f_offWho, g_reason, g_acts, g_enough, g_rows, g_counts, g_pours, g_image, g_isKept])), (h_book, .inl (cI, 12, .inl f_book)), (h_now, .inl (cI, 12, .inl f_now)), (h_places, .inl (cI, 8, .inl f_places)), (h_ways, .inl (cI, 12, .inl f_ways))]
abbrev q_X9_told (D : va_G) (cI : ClassId) (h h_book h_now h_places h_ways : Nat) (g_sight g_pad g_reason g_acts g_enough g_rows g_counts g_pours g_image g_isKept : Value) (post : Int32 → (Nat → Int32) → Int32 → Int32 → Prop) (f_book : Nat → Int32) (f_places : Nat → Int32) (f_power : Int32) (f_spite : Int32) (f_ways : Nat → Int32) (f_milky : Int32) (f_sights : Int32) (f_signs : Int32) (A : Nat → Prop) : Array Value → State → Outcome → State → Prop := va_Qi (S := (Nat → Int32) × Int32 × Int32) (fun r u => post r u.1 u.2.1 u.2.2) (fun u t => va_P D vwCl (cw_X9_told cI h h_book h_now h_places h_ways g_sight g_pad g_reason g_acts g_enough g_rows g_counts g_pours g_image g_isKept f_book u.1 f_places f_power f_spite f_ways f_milky f_sights f_signs u.2.1 u.2.2) t.heap) A
abbrev v_X9_told : List Cond := .code yX9_told cX9_told 4 (some .int) :: zB
theorem hd_X9_told : yX9_told.cls = RX9 ∧ yX9_told.cls ≠ "java/lang/invoke/MethodHandle" ∧ yX9_told.cls ≠ "java/lang/invoke/VarHandle" ∧ (parseMethodDescriptor yX9_told.desc).map (fun d => d.parameters.length) = some 1 := by decide +kernel
set_option maxHeartbeats 4000000 in
set_option maxRecDepth 100000 in
theorem c_X9_told (l : Launch) (D : va_G) (cI cC cZ : ClassId) (h h_book h_now h_places h_ways : Nat) (g_sight g_pad g_reason g_acts g_enough g_rows g_counts g_pours g_image g_isKept : Value) (f_book : Nat → Int32) (f_now : Nat → Int32) (f_places : Nat → Int32) (f_power : Int32) (f_spite : Int32) (f_ways : Nat → Int32) (f_milky : Int32) (f_sights : Int32) (f_signs : Int32) (f_offAt : Int32) (f_offWho : Int32) (p1 : Int32) (sz : Nat) (post : Int32 → (Nat → Int32) → Int32 → Int32 → Prop) (hw : w_X9_told post f_book f_now f_places f_power f_spite f_ways f_milky f_sights f_signs f_offAt f_offWho p1) : Met l yX9_told v_X9_told ({ frames := 3, cells := 0, slots := 0, locals := 65 } : Room) (va_Pc [.ref h, .int p1] (zPre D (zT cI cC cZ) sz (cw_X9_told cI h h_book h_now h_places h_ways g_sight g_pad g_reason g_acts g_enough g_rows g_counts g_pours g_image g_isKept f_book f_now f_places f_power f_spite f_ways f_milky f_sights f_signs f_offAt f_offWho))) (q_X9_told D cI h h_book h_now h_places h_ways g_sight g_pad g_reason g_acts g_enough g_rows g_counts g_pours g_image g_isKept post f_book f_places f_power f_spite f_ways f_milky f_sights f_signs (va_A (cw_X9_told cI h h_book h_now h_places h_ways g_sight g_pad g_reason g_acts g_enough g_rows g_counts g_pours g_image g_isKept f_book f_now f_places f_power f_spite f_ways f_milky f_sights f_signs f_offAt f_offWho) sz)) 0 0 (va_A (cw_X9_told cI h h_book h_now h_places h_ways g_sight g_pad g_reason g_acts g_enough g_rows g_counts g_pours g_image g_isKept f_book f_now f_places f_power f_spite f_ways f_milky f_sights f_signs f_offAt f_offWho) sz) := by
  refine Met.ofW (cc := cX9_told) (maxL := 4) (ret := (some .int)) (by decide) rfl ?_
  intro p e s m args below meth c s₁ B hml hv
  obtain ⟨rfl, hsz, hP, hK, hD0⟩ := hv
  subst hsz
  have hx := B.exec
  have hb := B.bytes
  have hr := B.returns
  have hz : ∀ w ∈ zB, w.before _ s = true := fun w h => atoms_spec (ws := v_X9_told) B.pre w (List.mem_cons_of_mem _ h)
  have hown : s.vm.findClass RX9 = some m.cls := findClass_of_methodNamed B.named
  have hlocks := B.notSynchronized
  have hF : CallFix p m c cX9_told 4 s (([.ref h, .int p1] : List Value).toArray) zB RX9 := ⟨hx, hb, hml, hown, hz⟩
  have hD := hD0.self (sz := s.heap.size)
  generalize hAe : va_A (cw_X9_told cI h h_book h_now h_places h_ways g_sight g_pad g_reason g_acts g_enough g_rows g_counts g_pours g_image g_isKept f_book f_now f_places f_power f_spite f_ways f_milky f_sights f_signs f_offAt f_offWho) s.heap.size = A at hD ⊢
  have hA : ∀ q : Nat, s.heap.size ≤ q → A q := fun q h => by rw [← hAe]; exact Or.inr h
  have hS : va_S A s.heap s.heap [] := va_S.rf
  have hP : va_P D vwCl (cw_X9_told cI h h_book h_now h_places h_ways g_sight g_pad g_reason g_acts g_enough g_rows g_counts g_pours g_image g_isKept f_book f_now f_places f_power f_spite f_ways f_milky f_sights f_signs f_offAt f_offWho) s.heap := hP
  have hl := lv_entry ([.ref h, .int p1]) (n := 4) (Nat.le_of_ble_eq_true rfl)
  rw [lg_entry_eq]
  generalize (lg_sl ([.ref h, .int p1]) ++ List.replicate (4 - (lg_sl ([.ref h, .int p1])).length) Slot.unset).toArray = ls at hl ⊢
  have hl : lv_has ls 4 [(0, .ref h), (1, .int p1)] := hl
  have J32 : ∀ (f_now : Nat → Int32) (f_offAt : Int32) (f_offWho : Int32) (H : Heap) (locs : List Loc) (ls : Array Slot) (hw : w_X9_told_B32 post f_book f_places f_power f_spite f_ways f_milky f_sights f_signs p1 f_now f_offAt f_offWho) (hP : va_P D vwCl (cw_X9_told cI h h_book h_now h_places h_ways g_sight g_pad g_reason g_acts g_enough g_rows g_counts g_pours g_image g_isKept f_book f_now f_places f_power f_spite f_ways f_milky f_sights f_signs f_offAt f_offWho) H) (hD : va_D A (cw_X9_told cI h h_book h_now h_places h_ways g_sight g_pad g_reason g_acts g_enough g_rows g_counts g_pours g_image g_isKept f_book f_now f_places f_power f_spite f_ways f_milky f_sights f_signs f_offAt f_offWho)) (hS : va_S A s.heap H locs) (hl : lv_has ls 4 []), W p l e (headSpec v_X9_told ({ frames := 3, cells := 0, slots := 0, locals := 65 } : Room)).room s m (([.ref h, .int p1] : List Value).toArray) below meth c H locs 0 0 (MQ below (q_X9_told D cI h h_book h_now h_places h_ways g_sight g_pad g_reason g_acts g_enough g_rows g_counts g_pours g_image g_isKept post f_book f_places f_power f_spite f_ways f_milky f_sights f_signs A) (([.ref h, .int p1] : List Value).toArray) s 0 0 A) (F0 m 32 ls []) := by
    intro f_now f_offAt f_offWho H locs ls hw hP hD hS hl
    unfold w_X9_told_B32 at hw
    refine lv_bipush (v := (-2 : Int32)) hx hb dX9_told_32 (by decide) ?_
    refine lv_goto (tgt := 75) hx hb dX9_told_34 (by decide) ?_
    exact z_iret hx hb hr hlocks (f_now, f_offAt, f_offWho) hw hP hS dX9_told_75
  unfold w_X9_told at hw
  refine lv_iload_n hx hb dX9_told_0 rfl (lv_at hl 1 rfl) ?_
  refine lv_bipush (v := (100 : Int32)) hx hb dX9_told_1 (by decide) ?_
  refine lv_icmp_lt (tgt := 76) hx hb dX9_told_3 (by decide) (fun c3 => ?_) (fun c3 => ?_)
  · have hw := hw.1 c3
    refine lv_iload_n hx hb dX9_told_76 rfl (lv_at hl 1 rfl) ?_
    refine lv_bipush (v := (10 : Int32)) hx hb dX9_told_77 (by decide) ?_
    refine lv_icmp_lt (tgt := 107) hx hb dX9_told_79 (by decide) (fun c79 => ?_) (fun c79 => ?_)
    · have hw := hw.1 c79
      refine lv_aload_n hx hb dX9_told_107 rfl (lv_at hl 0 rfl) ?_
      refine z_rv (z_runV (As := []) (rest := []) hF (c_X9_asNow l D cI cC cZ h h_book h_now (.ref h_places) (.int f_power) (.int f_spite) (.ref h_ways) (.int f_milky) (.int f_sights) g_sight (.int f_signs) g_pad g_reason g_acts g_enough g_rows g_counts g_pours g_image g_isKept f_book f_now f_offAt f_offWho _ _ hw) (cwV 0 hz (z_gV z4_30 z4_32 zp_17 z1_10 z4_33) rfl rfl rfl hd_X9_asNow ⟨Nat.le_of_ble_eq_true rfl, Nat.le_of_ble_eq_true rfl⟩) hK hP hD [0, 1, 2] rfl rfl 0 9 rfl rfl rfl rfl hl.1 rfl (Nat.le_of_ble_eq_true rfl) dX9_told_108 ⟨Nat.zero_le _, Nat.zero_le _⟩) hP hD hS hA [0, 1, 2] rfl (fun _ => rfl) (fun u => cw_X9_told cI h h_book h_now h_places h_ways g_sight g_pad g_reason g_acts g_enough g_rows g_counts g_pours g_image g_isKept f_book u.1 f_places f_power f_spite f_ways f_milky f_sights f_signs u.2.1 u.2.2) (fun _ => rfl) (fun u108 H locs hw hP hD hS => ?_)
      obtain ⟨u108_0, u108_1, u108_2⟩ := u108
      try dsimp only at hw
      have hP : va_P D vwCl (cw_X9_told cI h h_book h_now h_places h_ways g_sight g_pad g_reason g_acts g_enough g_rows g_counts g_pours g_image g_isKept f_book u108_0 f_places f_power f_spite f_ways f_milky f_sights f_signs u108_1 u108_2) H := hP
      have hD : va_D A (cw_X9_told cI h h_book h_now h_places h_ways g_sight g_pad g_reason g_acts g_enough g_rows g_counts g_pours g_image g_isKept f_book u108_0 f_places f_power f_spite f_ways f_milky f_sights f_signs u108_1 u108_2) := hD
      refine lv_iload_n hx hb dX9_told_111 rfl (lv_at hl 1 rfl) ?_
      by_cases c112_0 : p1 = (0 : Int32)
      · have hw := hw.1 c112_0
        refine lv_tableIn (off := 48) (tgt := 160) hx hb dX9_told_112 (by rw [c112_0]; decide) (by rw [c112_0]; decide) (by rw [c112_0]; rfl) (by decide) ?_
        refine lv_aload_n hx hb dX9_told_160 rfl (lv_at hl 0 rfl) ?_
        refine va_get (D := D) (ci := 9) (v := .int f_signs) (C := RX9) (T := TX9) (N := 21) hx hb hz hX_X9 hown hK.1 hP 0 rfl rfl 9 (by decide) (hz _ z3_165) (fun _ h9 => h9) rfl dX9_told_161 ?_
        exact z_iret hx hb hr hlocks (u108_0, u108_1, u108_2) hw hP hS dX9_told_164
      have hw := hw.2 c112_0
      have i112_0 : p1.toInt ≠ 0 := fun h => c112_0 (Int32.toInt_inj.mp (h.trans (by decide)))
      by_cases c112_1 : p1 = (1 : Int32)
      · have hw := hw.1 c112_1
        refine lv_tableIn (off := 53) (tgt := 165) hx hb dX9_told_112 (by rw [c112_1]; decide) (by rw [c112_1]; decide) (by rw [c112_1]; rfl) (by decide) ?_
        refine lv_aload_n hx hb dX9_told_165 rfl (lv_at hl 0 rfl) ?_
        refine va_get (D := D) (ci := 9) (v := .ref h_book) (C := RX9) (T := TX9) (N := 21) hx hb hz hX_X9 hown hK.1 hP 0 rfl rfl 0 (by decide) (hz _ z3_156) (fun _ h9 => h9) rfl dX9_told_166 ?_
        refine lv_bipush (v := (8 : Int32)) hx hb dX9_told_169 (by decide) ?_
        refine va_iald hx hb hK.1 hP 1 0 rfl rfl (z_in rfl) dX9_told_171 ?_
        exact z_iret hx hb hr hlocks (u108_0, u108_1, u108_2) hw hP hS dX9_told_172
      have hw := hw.2 c112_1
      have i112_1 : p1.toInt ≠ 1 := fun h => c112_1 (Int32.toInt_inj.mp (h.trans (by decide)))
      by_cases c112_2 : p1 = (2 : Int32)
      · have hw := hw.1 c112_2
        refine lv_tableIn (off := 61) (tgt := 173) hx hb dX9_told_112 (by rw [c112_2]; decide) (by rw [c112_2]; decide) (by rw [c112_2]; rfl) (by decide) ?_
        refine lv_aload_n hx hb dX9_told_173 rfl (lv_at hl 0 rfl) ?_
        refine z_ri (z_runV (As := []) (rest := []) hF (c_X9_offOnes l D cI cC cZ h h_now (.ref h_book) (.ref h_places) (.int f_power) (.int f_spite) (.ref h_ways) (.int f_milky) (.int f_sights) g_sight (.int f_signs) g_pad (.int u108_1) (.int u108_2) g_reason g_acts g_enough g_rows g_counts g_pours g_image g_isKept u108_0 _ _ hw) (cwV 0 hz (z_gV z4_34 z4_36 zp_18 z1_10 z4_37) rfl rfl rfl hd_X9_offOnes ⟨Nat.le_of_ble_eq_true rfl, Nat.le_of_ble_eq_true rfl⟩) hK hP hD [0, 2] rfl rfl 0 9 rfl rfl rfl rfl hl.1 rfl (Nat.le_of_ble_eq_true rfl) dX9_told_174 ⟨Nat.zero_le _, Nat.zero_le _⟩) hP hD hS hA [0, 2] rfl (fun _ => rfl) (fun _ => cw_X9_told cI h h_book h_now h_places h_ways g_sight g_pad g_reason g_acts g_enough g_rows g_counts g_pours g_image g_isKept f_book u108_0 f_places f_power f_spite f_ways f_milky f_sights f_signs u108_1 u108_2) (fun _ => rfl) (fun r174 u174 H locs hw hP hD hS => ?_)
        try dsimp only at hw
        exact z_iret hx hb hr hlocks (u108_0, u108_1, u108_2) hw hP hS dX9_told_177
      have hw := hw.2 c112_2
      have i112_2 : p1.toInt ≠ 2 := fun h => c112_2 (Int32.toInt_inj.mp (h.trans (by decide)))
      by_cases c112_3 : p1 = (3 : Int32)
      · have hw := hw.1 c112_3
        refine lv_tableIn (off := 66) (tgt := 178) hx hb dX9_told_112 (by rw [c112_3]; decide) (by rw [c112_3]; decide) (by rw [c112_3]; rfl) (by decide) ?_
        refine lv_aload_n hx hb dX9_told_178 rfl (lv_at hl 0 rfl) ?_
        refine va_get (D := D) (ci := 9) (v := .ref h_book) (C := RX9) (T := TX9) (N := 21) hx hb hz hX_X9 hown hK.1 hP 0 rfl rfl 0 (by decide) (hz _ z3_156) (fun _ h9 => h9) rfl dX9_told_179 ?_
        refine lv_bipush (v := (10 : Int32)) hx hb dX9_told_182 (by decide) ?_
        refine va_iald hx hb hK.1 hP 1 0 rfl rfl (z_in rfl) dX9_told_184 ?_
        exact z_iret hx hb hr hlocks (u108_0, u108_1, u108_2) hw hP hS dX9_told_185
      have hw := hw.2 c112_3
      have i112_3 : p1.toInt ≠ 3 := fun h => c112_3 (Int32.toInt_inj.mp (h.trans (by decide)))
      by_cases c112_4 : p1 = (4 : Int32)
      · have hw := hw.1 c112_4
        refine lv_tableIn (off := 74) (tgt := 186) hx hb dX9_told_112 (by rw [c112_4]; decide) (by rw [c112_4]; decide) (by rw [c112_4]; rfl) (by decide) ?_
        refine lv_aload_n hx hb dX9_told_186 rfl (lv_at hl 0 rfl) ?_
        refine va_get (D := D) (ci := 9) (v := .int f_power) (C := RX9) (T := TX9) (N := 21) hx hb hz hX_X9 hown hK.1 hP 0 rfl rfl 3 (by decide) (hz _ z3_159) (fun _ h9 => h9) rfl dX9_told_187 ?_
        exact z_iret hx hb hr hlocks (u108_0, u108_1, u108_2) hw hP hS dX9_told_190
      have hw := hw.2 c112_4
      have i112_4 : p1.toInt ≠ 4 := fun h => c112_4 (Int32.toInt_inj.mp (h.trans (by decide)))
      by_cases c112_5 : p1 = (5 : Int32)
      · have hw := hw.1 c112_5
        refine lv_tableIn (off := 79) (tgt := 191) hx hb dX9_told_112 (by rw [c112_5]; decide) (by rw [c112_5]; decide) (by rw [c112_5]; rfl) (by decide) ?_
        refine lv_aload_n hx hb dX9_told_191 rfl (lv_at hl 0 rfl) ?_
        refine va_get (D := D) (ci := 9) (v := .int f_spite) (C := RX9) (T := TX9) (N := 21) hx hb hz hX_X9 hown hK.1 hP 0 rfl rfl 4 (by decide) (hz _ z3_160) (fun _ h9 => h9) rfl dX9_told_192 ?_
        exact z_iret hx hb hr hlocks (u108_0, u108_1, u108_2) hw hP hS dX9_told_195
      have hw := hw.2 c112_5
      have i112_5 : p1.toInt ≠ 5 := fun h => c112_5 (Int32.toInt_inj.mp (h.trans (by decide)))
      by_cases c112_6 : p1 = (6 : Int32)
      · have hw := hw.1 c112_6
        refine lv_tableIn (off := 84) (tgt := 196) hx hb dX9_told_112 (by rw [c112_6]; decide) (by rw [c112_6]; decide) (by rw [c112_6]; rfl) (by decide) ?_
        refine lv_aload_n hx hb dX9_told_196 rfl (lv_at hl 0 rfl) ?_
        refine va_get (D := D) (ci := 9) (v := .ref h_book) (C := RX9) (T := TX9) (N := 21) hx hb hz hX_X9 hown hK.1 hP 0 rfl rfl 0 (by decide) (hz _ z3_156) (fun _ h9 => h9) rfl dX9_told_197 ?_
        refine lv_bipush (v := (11 : Int32)) hx hb dX9_told_200 (by decide) ?_
        refine va_iald hx hb hK.1 hP 1 0 rfl rfl (z_in rfl) dX9_told_202 ?_
        exact z_iret hx hb hr hlocks (u108_0, u108_1, u108_2) hw hP hS dX9_told_203
      have hw := hw.2 c112_6
      have i112_6 : p1.toInt ≠ 6 := fun h => c112_6 (Int32.toInt_inj.mp (h.trans (by decide)))
      by_cases c112_7 : p1 = (7 : Int32)
      · have hw := hw.1 c112_7
        refine lv_tableIn (off := 92) (tgt := 204) hx hb dX9_told_112 (by rw [c112_7]; decide) (by rw [c112_7]; decide) (by rw [c112_7]; rfl) (by decide) ?_
        refine lv_aload_n hx hb dX9_told_204 rfl (lv_at hl 0 rfl) ?_
        refine va_get (D := D) (ci := 9) (v := .int f_milky) (C := RX9) (T := TX9) (N := 21) hx hb hz hX_X9 hown hK.1 hP 0 rfl rfl 6 (by decide) (hz _ z3_162) (fun _ h9 => h9) rfl dX9_told_205 ?_
        exact z_iret hx hb hr hlocks (u108_0, u108_1, u108_2) hw hP hS dX9_told_208
      have hw := hw.2 c112_7
      have i112_7 : p1.toInt ≠ 7 := fun h => c112_7 (Int32.toInt_inj.mp (h.trans (by decide)))
      refine lv_tableOut (tgt := 209) hx hb dX9_told_112 (by omega) (by decide) ?_
      refine lv_iload_n hx hb dX9_told_209 rfl (lv_at hl 1 rfl) ?_
      refine lv_bipush (v := (8 : Int32)) hx hb dX9_told_210 (by decide) ?_
      refine lv_icmp_ne (tgt := 222) hx hb dX9_told_212 (by decide) (fun c212 => ?_) (fun c212 => ?_)
      · have hw := hw.2 c212
        refine lv_bipush (v := (-2 : Int32)) hx hb dX9_told_222 (by decide) ?_
        exact z_iret hx hb hr hlocks (u108_0, u108_1, u108_2) hw hP hS dX9_told_224
      have hw := hw.1 c212
      refine lv_aload_n hx hb dX9_told_215 rfl (lv_at hl 0 rfl) ?_
      refine va_get (D := D) (ci := 9) (v := .int f_sights) (C := RX9) (T := TX9) (N := 21) hx hb hz hX_X9 hown hK.1 hP 0 rfl rfl 7 (by decide) (hz _ z3_163) (fun _ h9 => h9) rfl dX9_told_216 ?_
      refine lv_goto (tgt := 224) hx hb dX9_told_219 (by decide) ?_
      exact z_iret hx hb hr hlocks (u108_0, u108_1, u108_2) hw hP hS dX9_told_224
    have hw := hw.2 c79
    refine lv_iload_n hx hb dX9_told_82 rfl (lv_at hl 1 rfl) ?_
    refine lv_bipush (v := (10 : Int32)) hx hb dX9_told_83 (by decide) ?_
    refine lv_isub hx hb dX9_told_85 ?_
    refine z_ri (z_runS (As := [.int (p1 - (10 : Int32))]) (rest := []) hF (c_X9_isCell l D cI cC cZ (p1 - (10 : Int32)) _ _ hw) (va_cwS 1 hz (z_gS z3_239 z4_0 z1_10 z4_1) rfl rfl rfl hd_X9_isCell ⟨Nat.le_of_ble_eq_true rfl, Nat.le_of_ble_eq_true rfl⟩) hK hP hD [] rfl rfl rfl hl.1 rfl (Nat.le_of_ble_eq_true rfl) dX9_told_86 ⟨Nat.zero_le _, Nat.zero_le _⟩) hP hD hS hA [] rfl (fun _ => rfl) (fun _ => cw_X9_told cI h h_book h_now h_places h_ways g_sight g_pad g_reason g_acts g_enough g_rows g_counts g_pours g_image g_isKept f_book f_now f_places f_power f_spite f_ways f_milky f_sights f_signs f_offAt f_offWho) (fun _ => rfl) (fun r86 u86 H locs hw hP hD hS => ?_)
    obtain ⟨hn86, hw⟩ := hw
    try dsimp only at hw
    refine lv_if_eq (tgt := 104) hx hb dX9_told_89 (by decide) (fun c89 => ?_) (fun c89 => ?_)
    · have hw := hw.1 c89
      refine lv_bipush (v := (-2 : Int32)) hx hb dX9_told_104 (by decide) ?_
      exact z_iret hx hb hr hlocks (f_now, f_offAt, f_offWho) hw hP hS dX9_told_106
    have hw := hw.2 c89
    refine lv_aload_n hx hb dX9_told_92 rfl (lv_at hl 0 rfl) ?_
    refine va_get (D := D) (ci := 9) (v := .ref h_ways) (C := RX9) (T := TX9) (N := 21) hx hb hz hX_X9 hown hK.1 hP 0 rfl rfl 5 (by decide) (hz _ z3_161) (fun _ h9 => h9) rfl dX9_told_93 ?_
    refine lv_iload_n hx hb dX9_told_96 rfl (lv_at hl 1 rfl) ?_
    refine lv_bipush (v := (10 : Int32)) hx hb dX9_told_97 (by decide) ?_
    refine lv_isub hx hb dX9_told_99 ?_
    obtain ⟨hi100, hw⟩ := hw
    refine va_iald hx hb hK.1 hP 4 0 rfl rfl hi100 dX9_told_100 ?_
    refine lv_goto (tgt := 106) hx hb dX9_told_101 (by decide) ?_
    exact z_iret hx hb hr hlocks (f_now, f_offAt, f_offWho) hw hP hS dX9_told_106
  have hw := hw.2 c3
  refine lv_iload_n hx hb dX9_told_6 rfl (lv_at hl 1 rfl) ?_
  refine lv_bipush (v := (10 : Int32)) hx hb dX9_told_7 (by decide) ?_
  refine lv_idiv hx hb dX9_told_9 (by decide) ?_
  refine lv_bipush (v := (10 : Int32)) hx hb dX9_told_10 (by decide) ?_
  refine lv_isub hx hb dX9_told_12 ?_
  refine lv_topi (fun y13 ey13 => ?_)
  have hw := hw y13 ey13
  refine lv_istore_n (lv' := [(2, .int y13), (0, .ref h), (1, .int p1)]) hx hb dX9_told_13 rfl hl (by decide) rfl (fun ls hl => ?_)
  refine lv_iload_n hx hb dX9_told_14 rfl (lv_at hl 2 rfl) ?_
  refine lv_bipush (v := (10 : Int32)) hx hb dX9_told_15 (by decide) ?_
  refine lv_irem hx hb dX9_told_17 (by decide) ?_
  refine lv_topi (fun y18 ey18 => ?_)
  have hw := hw y18 ey18
  refine lv_istore_n (lv' := [(3, .int y18), (2, .int y13), (0, .ref h), (1, .int p1)]) hx hb dX9_told_18 rfl hl (by decide) rfl (fun ls hl => ?_)
  refine lv_aload_n hx hb dX9_told_19 rfl (lv_at hl 2 rfl) ?_
  refine lv_iload_n hx hb dX9_told_20 rfl (lv_at hl 1 rfl) ?_
  refine z_ri (z_runV (As := [.int y13]) (rest := []) hF (c_X9_isThere l D cI cC cZ h h_book (.ref h_now) (.ref h_places) (.int f_power) (.int f_spite) (.ref h_ways) (.int f_milky) (.int f_sights) g_sight (.int f_signs) g_pad (.int f_offAt) (.int f_offWho) g_reason g_acts g_enough g_rows g_counts g_pours g_image g_isKept f_book y13 _ _ hw) (cwV 1 hz (z_gV z4_97 z4_99 zp_31 z1_10 z4_100) rfl rfl rfl hd_X9_isThere ⟨Nat.le_of_ble_eq_true rfl, Nat.le_of_ble_eq_true rfl⟩) hK hP hD [0, 1] rfl rfl 0 9 rfl rfl rfl rfl hl.1 rfl (Nat.le_of_ble_eq_true rfl) dX9_told_21 ⟨Nat.zero_le _, Nat.zero_le _⟩) hP hD hS hA [0, 1] rfl (fun _ => rfl) (fun _ => cw_X9_told cI h h_book h_now h_places h_ways g_sight g_pad g_reason g_acts g_enough g_rows g_counts g_pours g_image g_isKept f_book f_now f_places f_power f_spite f_ways f_milky f_sights f_signs f_offAt f_offWho) (fun _ => rfl) (fun r21 u21 H locs hw hP hD hS => ?_)
  obtain ⟨hn21, hw⟩ := hw
  try dsimp only at hw
  refine lv_if_eq (tgt := 32) hx hb dX9_told_24 (by decide) (fun c24 => ?_) (fun c24 => ?_)
  · have hw := hw.1 c24
    exact J32 f_now f_offAt f_offWho _ _ _ hw hP hD hS (lv_sub hl [] rfl)
  have hw := hw.2 c24
  refine lv_iload_n hx hb dX9_told_27 rfl (lv_at hl 0 rfl) ?_
  refine lv_iconst (v := (2 : Int32)) hx hb dX9_told_28 (by decide) ?_
  refine lv_icmp_le (tgt := 37) hx hb dX9_told_29 (by decide) (fun c29 => ?_) (fun c29 => ?_)
  · have hw := hw.1 c29
    refine lv_iload_n hx hb dX9_told_37 rfl (lv_at hl 0 rfl) ?_
    refine lv_if_ne (tgt := 50) hx hb dX9_told_38 (by decide) (fun c38 => ?_) (fun c38 => ?_)
    · have hw := hw.2 c38
      refine lv_iload_n hx hb dX9_told_50 rfl (lv_at hl 0 rfl) ?_
      refine lv_iconst (v := (1 : Int32)) hx hb dX9_told_51 (by decide) ?_
      refine lv_icmp_ne (tgt := 69) hx hb dX9_told_52 (by decide) (fun c52 => ?_) (fun c52 => ?_)
      · have hw := hw.2 c52
        refine lv_aload_n hx hb dX9_told_69 rfl (lv_at hl 2 rfl) ?_
        refine va_get (D := D) (ci := 9) (v := .ref h_book) (C := RX9) (T := TX9) (N := 21) hx hb hz hX_X9 hown hK.1 hP 0 rfl rfl 0 (by decide) (hz _ z3_156) (fun _ h9 => h9) rfl dX9_told_70 ?_
        refine lv_iload_n hx hb dX9_told_73 rfl (lv_at hl 1 rfl) ?_
        obtain ⟨hi74, hw⟩ := hw
        refine va_iald hx hb hK.1 hP 1 0 rfl rfl hi74 dX9_told_74 ?_
        exact z_iret hx hb hr hlocks (f_now, f_offAt, f_offWho) hw hP hS dX9_told_75
      have hw := hw.1 c52
      refine lv_aload_n hx hb dX9_told_55 rfl (lv_at hl 2 rfl) ?_
      refine va_get (D := D) (ci := 9) (v := .ref h_book) (C := RX9) (T := TX9) (N := 21) hx hb hz hX_X9 hown hK.1 hP 0 rfl rfl 0 (by decide) (hz _ z3_156) (fun _ h9 => h9) rfl dX9_told_56 ?_
      refine lv_bipush (v := (9 : Int32)) hx hb dX9_told_59 (by decide) ?_
      refine va_iald hx hb hK.1 hP 1 0 rfl rfl (z_in rfl) dX9_told_61 ?_
      refine lv_iload_n hx hb dX9_told_62 rfl (lv_at hl 1 rfl) ?_
      refine lv_ishr hx hb dX9_told_63 ?_
      refine lv_iconst (v := (1 : Int32)) hx hb dX9_told_64 (by decide) ?_
      refine lv_iand hx hb dX9_told_65 ?_
      refine lv_goto (tgt := 75) hx hb dX9_told_66 (by decide) ?_
      exact z_iret hx hb hr hlocks (f_now, f_offAt, f_offWho) hw hP hS dX9_told_75
    have hw := hw.1 c38
    refine lv_aload_n hx hb dX9_told_41 rfl (lv_at hl 2 rfl) ?_
    refine va_get (D := D) (ci := 9) (v := .ref h_places) (C := RX9) (T := TX9) (N := 21) hx hb hz hX_X9 hown hK.1 hP 0 rfl rfl 2 (by decide) (hz _ z3_158) (fun _ h9 => h9) rfl dX9_told_42 ?_
    refine lv_iload_n hx hb dX9_told_45 rfl (lv_at hl 1 rfl) ?_
    obtain ⟨hi46, hw⟩ := hw
    refine va_iald hx hb hK.1 hP 3 0 rfl rfl hi46 dX9_told_46 ?_
    refine lv_goto (tgt := 75) hx hb dX9_told_47 (by decide) ?_
    exact z_iret hx hb hr hlocks (f_now, f_offAt, f_offWho) hw hP hS dX9_told_75
  have hw := hw.2 c29
  exact J32 f_now f_offAt f_offWho _ _ _ hw hP hD hS (lv_sub hl [] rfl)
