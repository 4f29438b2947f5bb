-- acts of the text, one after the other, on both sides
def actK (t : Nat → Nat) (a : Nat) : Nat := if t a = 46 then 46 else if isLt (t a) then t (a + 1) else t a
def actN (t : Nat → Nat) (a : Nat) : Nat := if t a = 46 then 0 else if isLt (t a) then t a - 65 else t (a + 1) - 48
def actE (t : Nat → Nat) (a : Nat) : Nat := if t a = 46 then a + 1 else a + 2
theorem act_good {t : Nat → Nat} {n a : Nat} (h : fltA t n a = none) (ha : a < n) : goodA (actK t a) (actN t a) ∧ actE t a ≤ n ∧ fltA t n (actE t a) = none ∧ (t a = 46 ∨ a + 1 < n ∧ ((isLt (t a) ∧ isWs (t (a + 1))) ∨ (isMv (t a) ∧ isDg (t (a + 1))))) := by
  rw [fltA_eq, if_neg (by omega)] at h
  unfold actK actN actE
  by_cases h46 : t a = 46
  · rw [if_pos h46] at h
    rw [if_pos h46, if_pos h46, if_pos h46]
    exact ⟨Or.inl rfl, by omega, h, Or.inl h46⟩
  · rw [if_neg h46] at h
    rw [if_neg h46, if_neg h46, if_neg h46]
    by_cases hml : isMv (t a) ∨ isLt (t a)
    · rw [if_neg (fun z => z hml)] at h
      by_cases he : a + 1 = n
      · rw [if_pos he] at h; cases h
      · rw [if_neg he] at h
        by_cases hf : fol (t a) (t (a + 1))
        · rw [if_pos hf] at h
          by_cases hl : isLt (t a)
          · have nm : ¬ isMv (t a) := fun z => by have := hl.1; rcases z with z | z <;> omega
            have hw : isWs (t (a + 1)) := by rcases hf with z | z; exact absurd z.1 nm; exact z.2
            rw [if_pos hl, if_pos hl]
            exact ⟨Or.inr (Or.inr ⟨hw, by have := hl.1; have := hl.2; omega⟩), by omega, h, Or.inr ⟨by omega, Or.inl ⟨hl, hw⟩⟩⟩
          · have hm : isMv (t a) := hml.resolve_right hl
            have hd : isDg (t (a + 1)) := by rcases hf with z | z; exact z.2; exact absurd hm z.1
            rw [if_neg hl, if_neg hl]
            exact ⟨Or.inr (Or.inl ⟨hm.symm, by have := hd.2; omega⟩), by omega, h, Or.inr ⟨by omega, Or.inr ⟨hm, hd⟩⟩⟩
        · rw [if_neg hf] at h; cases h
    · rw [if_pos hml] at h; cases h
abbrev Gr : Type := Ct × Nat × Nat × Option (Nat × Nat)
def newOff (P : Nat → Nat) (po sp : Nat) (c : Ct) (kd num : Nat) : Nat := nd (off 8 (actC P po sp c kd num)) (off 8 c)
def go (t : Nat → Nat) (n : Nat) (P : Nat → Nat) (po sp : Nat) : Nat → Nat → Ct → Nat → Option (Nat × Nat) → Gr
  | 0, _, c, ac, f => (c, 0, ac, f)
  | g + 1, a, c, ac, f => if n ≤ a then (c, 0, ac, f) else if why P c (actK t a) (actN t a) = 0 then go t n P po sp g (actE t a) (actC P po sp c (actK t a) (actN t a)) (ac + 1) (noteS f ac (newOff P po sp c (actK t a) (actN t a))) else (c, why P c (actK t a) (actN t a), ac, f)
theorem actE_gt (t : Nat → Nat) (a : Nat) : a < actE t a := by unfold actE; split <;> omega
theorem go_f (t : Nat → Nat) (n : Nat) (P : Nat → Nat) (po sp : Nat) : ∀ (f g a : Nat) (c : Ct) (ac : Nat) (o : Option (Nat × Nat)), n - a < f → n - a < g → go t n P po sp f a c ac o = go t n P po sp g a c ac o := by
  intro f
  induction f with
  | zero => intro g a c ac o h; omega
  | succ f ih =>
    intro g a c ac o h1 h2
    cases g with
    | zero => omega
    | succ g =>
      rw [go, go]
      by_cases hn : n ≤ a
      · rw [if_pos hn, if_pos hn]
      · have := actE_gt t a
        rw [if_neg hn, if_neg hn, ih g (actE t a) _ _ _ (by omega) (by omega)]
def goA (t : Nat → Nat) (n : Nat) (P : Nat → Nat) (po sp a : Nat) (c : Ct) (ac : Nat) (o : Option (Nat × Nat)) : Gr := go t n P po sp (n - a + 1) a c ac o
theorem goA_eq (t : Nat → Nat) (n : Nat) (P : Nat → Nat) (po sp a : Nat) (c : Ct) (ac : Nat) (o : Option (Nat × Nat)) : goA t n P po sp a c ac o = if n ≤ a then (c, 0, ac, o) else if why P c (actK t a) (actN t a) = 0 then goA t n P po sp (actE t a) (actC P po sp c (actK t a) (actN t a)) (ac + 1) (noteS o ac (newOff P po sp c (actK t a) (actN t a))) else (c, why P c (actK t a) (actN t a), ac, o) := by
  show go t n P po sp (n - a + 1) a c ac o = _
  rw [go]
  by_cases hn : n ≤ a
  · rw [if_pos hn, if_pos hn]
  · have := actE_gt t a
    rw [if_neg hn, if_neg hn]
    unfold goA
    rw [go_f t n P po sp (n - a) (n - actE t a + 1) (actE t a) _ _ _ (by omega) (by omega)]
/-- what is known of the end -/
theorem goA_ok {t : Nat → Nat} {n : Nat} {P : Nat → Nat} {po sp : Nat} (hn : n ≤ 60) : ∀ (N a : Nat) (c : Ct) (ac : Nat) (o : Option (Nat × Nat)), n - a < N → fltA t n a = none → okC c → fOk o → ac ≤ a → okC (goA t n P po sp a c ac o).1 ∧ fOk (goA t n P po sp a c ac o).2.2.2 ∧ (goA t n P po sp a c ac o).2.2.1 ≤ ac + (n - a) ∧ (goA t n P po sp a c ac o).2.1 ≤ 5 := by
  intro N
  induction N with
  | zero => intro a c ac o h; omega
  | succ N ih =>
    intro a c ac o h1 h2 h3 h4 h5
    rw [goA_eq]
    by_cases hna : n ≤ a
    · rw [if_pos hna]; exact ⟨h3, h4, by show ac ≤ ac + (n - a); omega, by show 0 ≤ 5; omega⟩
    · obtain ⟨g1, g2, g3, -⟩ := act_good h2 (by omega)
      rw [if_neg hna]
      by_cases hw : why P c (actK t a) (actN t a) = 0
      · rw [if_pos hw]
        have := actE_gt t a
        obtain ⟨q1, q2, q3, q4⟩ := ih (actE t a) (actC P po sp c (actK t a) (actN t a)) (ac + 1) (noteS o ac (newOff P po sp c (actK t a) (actN t a))) (by omega) g3 (actC_ok h3 g1 hw) (noteS_ok h4 (by omega)) (by omega)
        exact ⟨q1, q2, by omega, q4⟩
      · rw [if_neg hw]
        refine ⟨h3, h4, by show ac ≤ ac + (n - a); omega, ?_⟩
        show why P c (actK t a) (actN t a) ≤ 5
        unfold why
        repeat' split
        all_goals omega
theorem y_cpy {f g : Nat → Int32} {j : Nat} (h : j < 8) : va_cpy f g (0 : Int32).toNatClampNeg (0 : Int32).toNatClampNeg (8 : Int32).toNatClampNeg j = f j := by
  have e0 : (0 : Int32).toNatClampNeg = 0 := by decide
  rw [e0, t8, pk_cpy_in (by omega) (by omega)]
  congr 1
  omega
theorem y_cpyC {c : Ct} {cr cr0 : Nat → Int32} {pr ly hi ho : Int32} (h : clC c cr pr ly hi ho) : clC c (va_cpy cr cr0 (0 : Int32).toNatClampNeg (0 : Int32).toNatClampNeg (8 : Int32).toNatClampNeg) pr ly hi ho := by
  obtain ⟨h1, h2, h3, h4, h5, h6⟩ := h
  exact ⟨h1, h2, h3, h4, fun k hk hb => by rw [y_cpy hk]; exact h5 k hk hb, fun k hk => by rw [y_cpy hk]; exact h6 k hk⟩
theorem y_cpyP {P : Nat → Nat} {pl pl0 : Nat → Int32} (h : plC P pl) : plC P (va_cpy pl pl0 (0 : Int32).toNatClampNeg (0 : Int32).toNatClampNeg (8 : Int32).toNatClampNeg) := fun k hk => by rw [y_cpy hk]; exact h k hk
theorem nI_nm1 {k : Nat} (h : k < 2 ^ 31) : ¬ nI k = (-1 : Int32) := by
  intro z
  have q := nI_pos' h
  rw [z] at q
  exact absurd q (by decide)
theorem fI_neg {o : Option Nat} (h : ∀ k, o = some k → k ≤ 60) : (fI o = -6 ↔ o = none) ∧ (fI o < 0 ↔ o = none) ∧ (0 ≤ fI o ↔ o ≠ none) := by
  cases o with
  | none => exact ⟨⟨fun _ => rfl, fun _ => rfl⟩, ⟨fun _ => rfl, fun _ => by decide⟩, ⟨fun z => absurd z (by decide), fun z => absurd rfl z⟩⟩
  | some k =>
    have hk := h k rfl
    have h0 : (0 : Int32) ≤ nI k := nI_pos' (by omega)
    have h1 : ¬ nI k < 0 := nI_pos (by omega)
    refine ⟨⟨fun z => ?_, fun z => by cases z⟩, ⟨fun z => absurd z h1, fun z => by cases z⟩, ⟨fun _ => (by intro z; cases z), fun _ => h0⟩⟩
    have e : nI k = (-6 : Int32) := z
    rw [e] at h0
    exact absurd h0 (by decide)
theorem flt_le (t : Nat → Nat) (n : Nat) : ∀ (f a k : Nat), flt t n f a = some k → k ≤ n := by
  intro f
  induction f with
  | zero => intro a k h; cases h
  | succ f ih =>
    intro a k h
    rw [flt] at h
    by_cases hn : n ≤ a
    · rw [if_pos hn] at h; cases h
    · rw [if_neg hn] at h
      split at h
      · exact ih _ _ h
      · split at h
        · cases h; omega
        · split at h
          · cases h; omega
          · split at h
            · exact ih _ _ h
            · cases h; omega
theorem fltA_le {t : Nat → Nat} {n k : Nat} (h : fltA t n 0 = some k) (hn : n ≤ 60) : k ≤ 60 := Nat.le_trans (flt_le t n _ _ _ h) hn
theorem s_hear {post : (Nat → Int32) → (Nat → Int32) → Int32 → Int32 → Int32 → Int32 → Int32 → Int32 → Int32 → Int32 → Int32 → Int32 → Prop} {t : Nat → Nat} {n : Nat} {P : Nat → Nat} {po sp : Nat} {c : Ct} {hpl hcr pl cr sg : Nat → Int32} {hpr hly hhi hpo hsp hho hac hre hfa hfw pr ly hi ho : Int32}
    (ht : txC t sg) (hn : n ≤ 60) (hp : plC P pl) (hc : okC c) (h : clC c cr pr ly hi ho) (h1 : po ≤ 9) (h2 : sp ≤ 9)
    (pf : fltA t n 0 ≠ none → ∀ (pl' cr' : Nat → Int32) (pr' ly' hi' po' sp' ho' ac' fa' fw' : Int32), post pl' cr' pr' ly' hi' po' sp' ho' ac' (-1 : Int32) fa' fw')
    (p : fltA t n 0 = none → ∀ (pl' cr' : Nat → Int32) (pr' ly' hi' ho' : Int32), plC P pl' → clC (goA t n P po sp 0 c 0 none).1 cr' pr' ly' hi' ho' → post pl' cr' pr' ly' hi' (nI po) (nI sp) ho' (nI (goA t n P po sp 0 c 0 none).2.2.1) (nI (goA t n P po sp 0 c 0 none).2.1) (fA (goA t n P po sp 0 c 0 none).2.2.2) (fW (goA t n P po sp 0 c 0 none).2.2.2)) :
    w_X3_hear post hpl hcr hpr hly hhi hpo hsp hho hac hre hfa hfw pl cr pr ly hi (nI po) (nI sp) ho sg (nI n) := by
  unfold w_X3_hear w_X3_begin w_X1_become
  refine s_fault ht hn ?_
  have hneg := fI_neg (o := fltA t n 0) (fun q hq => fltA_le hq hn)
  refine ⟨fun e => ?_, fun e => ?_⟩
  rotate_left
  · have hf : fltA t n 0 ≠ none := fun z => e (hneg.1.mpr z)
    unfold w_X3_hear_B19
    refine ⟨1, ?_⟩
    unfold w_X3_hear_B21
    exact ⟨fun z => absurd z (by decide), fun _ => pf hf _ _ _ _ _ _ _ _ _ _ _⟩
  have hflt := hneg.1.mp e
  replace p := p hflt
  unfold w_X3_hear_B19
  have key : ∀ (pl' : Nat → Int32), plC P pl' → ∀ (N a : Nat) (c' : Ct) (ac : Nat) (o : Option (Nat × Nat)) (cr' : Nat → Int32) (pr' ly' hi' ho' : Int32), n - a + 1 < N → a ≤ n → fltA t n a = none → okC c' → fOk o → ac ≤ a → clC c' cr' pr' ly' hi' ho' → goA t n P po sp a c' ac o = goA t n P po sp 0 c 0 none →
      w_X3_hear_B21 post pl cr pr ly hi (nI po) (nI sp) ho sg (nI n) N pl' cr' pr' ly' hi' (nI po) (nI sp) ho' (nI ac) (nI 0) (fA o) (fW o) (nI a) := by
    intro pl' hpl' N
    induction N with
    | zero => intro a c' ac o cr' pr' ly' hi' ho' q1; omega
    | succ N ih =>
      intro a c' ac o cr' pr' ly' hi' ho' q1 q2 q3 q4 q5 q6 q7 q8
      unfold w_X3_hear_B21
      rw [goA_eq] at q8
      refine ⟨fun _ => ?_, fun z => absurd rfl z⟩
      refine pk_le n a (fun h3 => ?_) (fun h3 => ?_)
      · rw [if_pos h3] at q8
        rw [← q8] at p
        exact p pl' cr' pr' ly' hi' ho' hpl' q7
      · rw [if_neg (by omega)] at q8
        obtain ⟨g1, g2, g3, g4⟩ := act_good q3 h3
        have es : sgn t a = t a := if_pos (by omega)
        refine s_kindAt ht (by omega) ?_
        refine s_numberAt ht (by omega) ?_
        rw [es]
        have ek : (if isLt (t a) then sgn t (a + 1) else t a) = actK t a := by
          unfold actK
          rcases g4 with z | ⟨z, z2 | z2⟩
          · rw [if_pos z, if_neg (fun q => by have := q.1; omega)]; exact z
          · rw [if_pos z2.1, if_neg (fun q => by have := z2.1.1; omega), if_pos z2.1]
            exact if_pos (by omega)
          · have nl : ¬ isLt (t a) := fun q => by have := q.1; rcases z2.1 with w | w <;> omega
            rw [if_neg nl, if_neg (fun q => by rcases z2.1 with w | w <;> omega), if_neg nl]
        have eq : actK t a ≠ 46 → (if isLt (t a) then nI (t a - 65) else nI (sgn t (a + 1)) - (48 : Int32)) = nI (actN t a) := by
          intro hk
          unfold actN
          rcases g4 with z | ⟨z, z2 | z2⟩
          · exact absurd (by unfold actK; rw [if_pos z]) hk
          · rw [if_pos z2.1, if_neg (fun q => by have := z2.1.1; omega), if_pos z2.1]
          · have nl : ¬ isLt (t a) := fun q => by have := q.1; rcases z2.1 with w | w <;> omega
            rw [if_neg nl, if_neg (fun q => by rcases z2.1 with w | w <;> omega), if_neg nl]
            have e1 : sgn t (a + 1) = t (a + 1) := if_pos (by omega)
            rw [e1, show (48 : Int32) = nI 48 from rfl, pk_sub (by have := z2.2.1; omega)]
        rw [ek]
        refine s_take hpl' q4 q7 h1 h2 g1 eq q5 (fun hw cr2 pr2 ly2 hi2 ho2 h' => ?_) (fun hw => ?_)
        · rw [if_pos hw] at q8
          have := actE_gt t a
          have nxt := ih (actE t a) _ (ac + 1) _ cr2 pr2 ly2 hi2 ho2 (by omega) g2 g3 (actC_ok (po := po) (sp := sp) q4 g1 hw) (noteS_ok q5 (ac := ac) (nw := newOff P po sp c' (actK t a) (actN t a)) (by omega)) (by omega) h' q8
          refine s_isHour ht (by omega) (y_01 (fun hh => ?_) (fun hh => ?_))
          · unfold w_X3_hear_B64
            rw [es] at hh
            have e2 : actE t a = a + 2 := by unfold actE; rw [if_neg hh]
            rw [e2] at nxt
            rw [show (2 : Int32) = nI 2 from rfl, nI_add]
            exact nxt
          · unfold w_X3_hear_B64
            rw [es] at hh
            have e2 : actE t a = a + 1 := by unfold actE; rw [if_pos hh]
            rw [e2] at nxt
            rw [show (1 : Int32) = nI 1 from rfl, nI_add]
            exact nxt
        · rw [if_neg hw] at q8
          have hw5 : why P c' (actK t a) (actN t a) ≤ 5 := by
            unfold why
            repeat' split
            all_goals omega
          rw [← q8] at p
          obtain ⟨N', rfl⟩ : ∃ N', N = N' + 1 := ⟨N - 1, by omega⟩
          have st : ∀ x : Int32, w_X3_hear_B21 post pl cr pr ly hi (nI po) (nI sp) ho sg (nI n) (N' + 1) pl' cr' pr' ly' hi' (nI po) (nI sp) ho' (nI ac) (nI (why P c' (actK t a) (actN t a))) (fA o) (fW o) x := by
            intro x
            unfold w_X3_hear_B21
            exact pk_eq (why P c' (actK t a) (actN t a)) 0 (fun z => absurd z hw) (fun _ => p pl' cr' pr' ly' hi' ho' hpl' q7)
          refine s_isHour ht (by omega) (y_01 (fun hh => ?_) (fun hh => ?_))
          · unfold w_X3_hear_B64
            exact st _
          · unfold w_X3_hear_B64
            exact st _
  exact ⟨63, key _ (y_cpyP hp) 63 0 c 0 none _ pr ly hi ho (by omega) (by omega) hflt hc (fun x hx => by cases hx) (Nat.le_refl 0) (y_cpyC h) rfl⟩
-- the reference
theorem r_asNow {post : (Nat → Int32) → Int32 → Int32 → Prop} {bk nw : Nat → Int32} {a b : Int32} (p : ∀ nw', (∀ k, k < 12 → nw' k = bk k) → post nw' (-6) (-6)) : w_X9_asNow post bk nw a b := by
  have key : ∀ N k (nw' : Nat → Int32), 12 - k < N → k ≤ 12 → (∀ j, j < k → nw' j = bk j) → w_X9_asNow_B2 post bk N nw' a b (nI k) := by
    intro N
    induction N with
    | zero => intro k nw' h; omega
    | succ N ih =>
      intro k nw' h1 h2 h3
      unfold w_X9_asNow_B2
      refine pk_le 12 k (fun h => p nw' (fun j hj => h3 j (by omega))) (fun h => ⟨vp_in_nI h (by decide), vp_in_nI h (by decide), ?_⟩)
      rw [nI_1, nI_clamp (by omega)]
      refine ih (k + 1) _ (by omega) (by omega) (fun j hj => ?_)
      by_cases e : j = k
      · subst e; rw [upd_s]
      · rw [upd_n e]; exact h3 j (by omega)
  exact ⟨13, key 13 0 nw (by omega) (by omega) (fun j hj => by omega)⟩
theorem clM_cpy {c : Ct} {bk nw : Nat → Int32} (h : clM c bk) (e : ∀ k, k < 12 → nw k = bk k) : clM c nw := by
  obtain ⟨g1, g2, g3, g4, g5⟩ := h
  exact ⟨fun k hk => by rw [e k (by omega)]; exact g1 k hk, by rw [e 8 (by omega)]; exact g2, by rw [e 9 (by omega)]; exact g3, by rw [e 10 (by omega)]; exact g4, by rw [e 11 (by omega)]; exact g5⟩
theorem fA_neg {o : Option (Nat × Nat)} (h : fOk o) : (0 ≤ fA o ↔ o ≠ none) := by
  cases o with
  | none => exact ⟨fun z => absurd z (by decide), fun z => absurd rfl z⟩
  | some x => exact ⟨fun _ => (by intro z; cases z), fun _ => nI_pos' (by have := (h x rfl).1; omega)⟩
theorem r_find {post : Int32 → (Nat → Int32) → Int32 → Int32 → Int32 → Int32 → Prop} {bk pl sg : Nat → Int32} {pw ss sn : Int32} {k11 : (Nat → Int32) → Int32 → Int32 → Int32 → Int32 → Int32 → Prop} {nw : Nat → Int32} {o : Option (Nat × Nat)} {re : Int32} {ac fr : Nat} {x1 : Int32} (ho : fOk o) (hf : fr < 256) (ha : ac < 1000)
    (p : k11 nw (fA (noteS o ac fr)) (fW (noteS o ac fr)) re (nI (ac + 1)) x1) : ∃ N : Nat, w_X9_goTerms_B137 post bk pl pw ss sn sg k11 N nw (fA o) (fW o) re (nI ac) x1 (nI fr) (0 : Int32) := by
  have stop : ∀ N k o', fOk o' → (fA o' = fA (noteS o ac fr) ∧ fW o' = fW (noteS o ac fr)) → (8 ≤ k ∨ o' ≠ none) → k < 1000 → w_X9_goTerms_B137 post bk pl pw ss sn sg k11 (N + 1) nw (fA o') (fW o') re (nI ac) x1 (nI fr) (nI k) := by
    intro N k o' q1 q2 q3 q4
    unfold w_X9_goTerms_B137 w_X9_goTerms_B181
    have e1 := q2.1
    have e2 := q2.2
    rw [e1, e2]
    refine pk_le 8 k (fun h => by rw [nI_1]; exact p) (fun h => ⟨fun _ => by rw [nI_1]; exact p, fun z => ?_⟩)
    rcases q3 with q3 | q3
    · omega
    · exact absurd (by rw [← e1]; exact (fA_neg q1).mpr q3) z
  cases o with
  | some x =>
    refine ⟨1, stop 0 0 (some x) ho ⟨?_, ?_⟩ (Or.inr (by intro z; cases z)) (by omega)⟩
    · unfold noteS; split <;> rfl
    · unfold noteS; split <;> rfl
  | none =>
    have key : ∀ N k, 8 - k < N → k ≤ 8 → (∀ j, j < k → fr.testBit j = false) → w_X9_goTerms_B137 post bk pl pw ss sn sg k11 (N + 1) nw (-6 : Int32) (-6 : Int32) re (nI ac) x1 (nI fr) (nI k) := by
      intro N
      induction N with
      | zero => intro k h; omega
      | succ N ih =>
        intro k h1 h2 h3
        by_cases h8 : k = 8
        · have e0 : fr = 0 := by
            apply Nat.eq_of_testBit_eq
            intro i
            rw [Nat.zero_testBit]
            by_cases hi : i < 8
            · exact h3 i (by omega)
            · exact y_bit_hi (n := 8) hf (by omega)
          have en : noteS none ac fr = none := by unfold noteS; rw [if_pos e0]
          have := stop (N + 1) k none ho ⟨by rw [en], by rw [en]⟩ (Or.inl (by omega)) (by omega)
          exact this
        · unfold w_X9_goTerms_B137
          refine pk_le 8 k (fun h => by omega) (fun h => ⟨fun z => absurd z (by decide), fun _ => ?_⟩)
          refine s9_has (by omega) (by omega) (y_01 (fun hb => ?_) (fun hb => ?_))
          · rw [nI_1]
            refine ih (k + 1) (by omega) (by omega) (fun j hj => ?_)
            by_cases e : j = k
            · subst e; simpa using hb
            · exact h3 j (by omega)
          · rw [nI_1]
            have nz : fr ≠ 0 := fun z => by rw [z, Nat.zero_testBit] at hb; cases hb
            have el : lob 8 fr = k := by
              have : ∀ m, m ≤ 8 → 8 - m ≤ k → lob m fr = k := by
                intro m
                induction m with
                | zero => intro _ q; omega
                | succ m ihm =>
                  intro q1 q2
                  rw [lob]
                  by_cases e : 8 - (m + 1) = k
                  · rw [e, if_pos hb]
                  · rw [if_neg (by rw [h3 _ (by omega)]; decide)]
                    exact ihm (by omega) (by omega)
              exact this 8 (Nat.le_refl 8) (by omega)
            have en : noteS none ac fr = some (ac, k) := by unfold noteS; rw [if_neg nz, el]
            exact stop N (k + 1) (some (ac, k)) (fun x hx => by cases hx; exact ⟨ha, by omega⟩) ⟨by rw [en], by rw [en]⟩ (Or.inr (by intro z; cases z)) (by omega)
    exact ⟨11, key 10 0 (by omega) (by omega) (fun j hj => by omega)⟩
theorem r_go {post : Int32 → (Nat → Int32) → Int32 → Int32 → Int32 → Int32 → Prop} {t : Nat → Nat} {n : Nat} {P : Nat → Nat} {po sp : Nat} {c : Ct} {bk nw pl sg : Nat → Int32} {ofa ofw re ac : Int32}
    (ht : txC t sg) (hn : n ≤ 60) (hflt : fltA t n 0 = none) (hp : plC P pl) (hc : okC c) (h : clM c bk) (h1 : po ≤ 9) (h2 : sp ≤ 9)
    (p0 : (goA t n P po sp 0 c 0 none).2.1 = 0 → ∀ (nw' : Nat → Int32) (re' : Int32), clM (goA t n P po sp 0 c 0 none).1 nw' → post (-6) nw' (fA (goA t n P po sp 0 c 0 none).2.2.2) (fW (goA t n P po sp 0 c 0 none).2.2.2) re' (nI (goA t n P po sp 0 c 0 none).2.2.1))
    (p1 : (goA t n P po sp 0 c 0 none).2.1 ≠ 0 → ∀ (nw' : Nat → Int32), post (nI (goA t n P po sp 0 c 0 none).2.2.1) nw' (fA (goA t n P po sp 0 c 0 none).2.2.2) (fW (goA t n P po sp 0 c 0 none).2.2.2) (nI (goA t n P po sp 0 c 0 none).2.1) (nI (goA t n P po sp 0 c 0 none).2.2.1)) :
    w_X9_goTerms post bk nw pl (nI po) (nI sp) (nI n) sg ofa ofw re ac := by
  unfold w_X9_goTerms
  refine r_asNow (fun nw1 hnw1 => ?_)
  have key : ∀ (N a : Nat) (c' : Ct) (ac : Nat) (o : Option (Nat × Nat)) (nw' : Nat → Int32) (re' : Int32), n - a < N → a ≤ n → fltA t n a = none → okC c' → fOk o → ac ≤ a → clM c' nw' → goA t n P po sp a c' ac o = goA t n P po sp 0 c 0 none →
      w_X9_goTerms_B11 post bk pl (nI po) (nI sp) (nI n) sg N nw' (fA o) (fW o) re' (nI ac) (nI a) := by
    intro N
    induction N with
    | zero => intro a c' ac o nw' re' q1; omega
    | succ N ih =>
      intro a c' ac o nw' re' q1 q2 q3 q4 q5 q6 q7 q8
      unfold w_X9_goTerms_B11
      rw [goA_eq] at q8
      refine pk_le n a (fun h3 => ?_) (fun h3 => ?_)
      · rw [if_pos h3] at q8
        rw [← q8] at p0
        exact p0 rfl nw' re' q7
      · rw [if_neg (by omega)] at q8
        obtain ⟨g1, g2, g3, g4⟩ := act_good q3 h3
        obtain ⟨ea, hle⟩ := ht a (by omega)
        refine r_offOnes q4 q7 ⟨vp_in_nI (by omega) (by decide), ?_⟩
        rw [nI_clamp (by omega), ea]
        -- behind an act: reason r, the state nw2
        have behind0 : why P c' (actK t a) (actN t a) = 0 → ∀ nw2, clM (actC P po sp c' (actK t a) (actN t a)) nw2 → w_X9_goTerms_B112 post bk pl (nI po) (nI sp) (nI n) sg (fun f_now f_offAt f_offWho f_reason f_acts x1 => w_X9_goTerms_B11 post bk pl (nI po) (nI sp) (nI n) sg N f_now f_offAt f_offWho f_reason f_acts x1) nw2 (fA o) (fW o) 0 (nI ac) (nI (actE t a)) (nI (off 8 c')) := by
          intro hw nw2 h'
          rw [if_pos hw] at q8
          unfold w_X9_goTerms_B112
          have hc2 := actC_ok (po := po) (sp := sp) q4 g1 hw
          refine ⟨fun _ => ?_, fun z => absurd (by decide) z⟩
          refine r_offOnes hc2 h' ?_
          intro y ey
          rw [y_nd] at ey
          rw [ey]
          have := actE_gt t a
          refine r_find q5 (y_nd_lt (n := 8) (off_lt 8 _)) (by omega) ?_
          exact ih (actE t a) _ (ac + 1) _ nw2 0 (by omega) g2 g3 hc2 (noteS_ok q5 (by omega)) (by omega) h' q8
        have behind1 : why P c' (actK t a) (actN t a) ≠ 0 → ∀ nw2 x1 x2, w_X9_goTerms_B112 post bk pl (nI po) (nI sp) (nI n) sg (fun f_now f_offAt f_offWho f_reason f_acts x1 => w_X9_goTerms_B11 post bk pl (nI po) (nI sp) (nI n) sg N f_now f_offAt f_offWho f_reason f_acts x1) nw2 (fA o) (fW o) (nI (why P c' (actK t a) (actN t a))) (nI ac) x1 x2 := by
          intro hw nw2 x1 x2
          rw [if_neg hw] at q8
          have hw5 : why P c' (actK t a) (actN t a) ≤ 5 := by
            unfold why
            repeat' split
            all_goals omega
          unfold w_X9_goTerms_B112
          refine pk_le (why P c' (actK t a) (actN t a)) 0 (fun z => absurd z (by omega)) (fun _ => ?_)
          rw [← q8] at p1
          exact p1 hw nw2
        refine pk_eq (t a) 46 (fun e46 => ?_) (fun e46 => ?_)
        · have eK : actK t a = 46 := by unfold actK; rw [if_pos e46]
          have eN : actN t a = 0 := by unfold actN; rw [if_pos e46]
          have eE : actE t a = a + 1 := by unfold actE; rw [if_pos e46]
          rw [eK, eN] at behind0 behind1
          rw [eE] at behind0
          rw [nI_1]
          exact r_endHour hp q4 q7 h1 h2 behind0 (fun hw => behind1 hw _ _ _)
        · have eE : actE t a = a + 2 := by unfold actE; rw [if_neg e46]
          rw [eE] at behind0
          rcases g4 with z | ⟨z, z2⟩
          · exact absurd z e46
          refine ⟨by rw [nI_1]; exact vp_in_nI (by omega) (by decide), ?_⟩
          obtain ⟨eb, hleb⟩ := ht (a + 1) (by omega)
          intro y ey
          rw [nI_1, nI_clamp (by omega), eb] at ey
          rw [ey]
          unfold w_X9_goTerms_B106
          rw [nI_1, nI_1]
          rcases z2 with ⟨yl, yw⟩ | ⟨ym, yd⟩
          · have eK : actK t a = t (a + 1) := by unfold actK; rw [if_neg e46, if_pos yl]
            have eN : actN t a = t a - 65 := by unfold actN; rw [if_neg e46, if_pos yl]
            rw [eK, eN] at behind0 behind1
            have hl1 := yl.1
            have hl2 := yl.2
            refine pk_eq (t a) 62 (fun e => by omega) (fun _ => pk_eq (t a) 60 (fun e => by omega) (fun _ => ?_))
            rw [show (65 : Int32) = nI 65 from rfl, pk_sub hl1]
            exact r_witAct hp q4 q7 h1 h2 yw (by omega) behind0 (fun hw => behind1 hw _ _ _)
          · have nl : ¬ isLt (t a) := fun q => by have := q.1; rcases ym with w | w <;> omega
            have eK : actK t a = t a := by unfold actK; rw [if_neg e46, if_neg nl]
            have eN : actN t a = t (a + 1) - 48 := by unfold actN; rw [if_neg e46, if_neg nl]
            rw [eK, eN] at behind0 behind1
            have hd1 := yd.1
            have hd2 := yd.2
            have hH := q4.2.2.2.1
            refine pk_eq (t a) 62 (fun e => ?_) (fun e62 => pk_eq (t a) 60 (fun e => ?_) (fun e60 => ?_))
            · rw [e] at behind0 behind1
              refine r_step q4 q7 (Or.inr ⟨rfl, ?_⟩) (by omega) behind0 (fun hw => behind1 hw _ _ _)
              rw [show (48 : Int32) = nI 48 from rfl, pk_sub (by omega)]
            · rw [e] at behind0 behind1
              refine r_step q4 q7 (Or.inl ⟨rfl, ?_⟩) (by omega) behind0 (fun hw => behind1 hw _ _ _)
              have e3 : (48 : Int32) - nI (t (a + 1)) = -(nI (t (a + 1) - 48)) := by
                rw [← pk_sub (a := t (a + 1)) (b := 48) (by omega), Int32.neg_sub]; rfl
              rw [e3, Int32.sub_eq_add_neg]
            · rcases ym with w | w
              · exact absurd w e62
              · exact absurd w e60
  exact ⟨62, key 62 0 c 0 none nw1 re (by omega) (by omega) hflt hc (fun x hx => by cases hx) (Nat.le_refl 0) (clM_cpy h hnw1) rfl⟩
