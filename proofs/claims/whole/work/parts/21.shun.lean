-- fewest cells to empty: shun; and told
theorem stS_mono {w : Nat → Nat} {s s' S S' : Nat} (h1 : ∀ i, s.testBit i = true → s'.testBit i = true) (h2 : ∀ i, S.testBit i = true → S'.testBit i = true) : ∀ i, (stS w s S).testBit i = true → (stS w s' S').testBit i = true := by
  intro i h
  rw [stS_bit] at h ⊢
  rcases h with h | ⟨⟨c, a1, a2, a3⟩, h⟩
  · exact Or.inl (h2 i h)
  · exact Or.inr ⟨⟨c, a1, h2 c a2, a3⟩, h1 i h⟩
theorem stK_mono {w : Nat → Nat} {s s' : Nat} (h1 : ∀ i, s.testBit i = true → s'.testBit i = true) : ∀ (k S S' : Nat), (∀ i, S.testBit i = true → S'.testBit i = true) → ∀ i, (stK w s k S).testBit i = true → (stK w s' k S').testBit i = true := by
  intro k
  induction k with
  | zero => intro S S' h2; exact h2
  | succ k ih => intro S S' h2; exact ih _ _ (stS_mono h1 h2)
theorem stF_hit {w : Nat → Nat} {s to f S k : Nat} (hk : k < f) (h : (stK w s k S).testBit to = true) : ∃ k', stF w s to f S = some k' := by
  obtain ⟨j, hj, hmin⟩ := pk_least (fun j => (stK w s j S).testBit to = true) ⟨k, h⟩
  have : j ≤ k := by
    rcases Nat.lt_or_ge k j with z | z
    · exact absurd h (hmin k z)
    · exact z
  exact ⟨j, (stF_iff w s to f S j).mpr ⟨by omega, hj, hmin⟩⟩
theorem nd_zero {a b : Nat} : nd a b = 0 ↔ ∀ i, a.testBit i = true → b.testBit i = true := by
  constructor
  · intro h i hi
    have := congrArg (fun z => z.testBit i) h
    simp only [nd_bit, Nat.zero_testBit, hi, Bool.true_and] at this
    simpa using this
  · intro h
    apply Nat.eq_of_testBit_eq
    intro i
    rw [nd_bit, Nat.zero_testBit]
    cases ha : a.testBit i
    · rfl
    · rw [h i ha]; rfl
theorem sub_le {a b : Nat} (h : nd a b = 0) : a ≤ b := by
  have e : a &&& b = a := by
    apply Nat.eq_of_testBit_eq
    intro i
    rw [Nat.testBit_and]
    cases ha : a.testBit i
    · rfl
    · rw [nd_zero.mp h i ha]; rfl
  rw [← e]; exact Nat.and_le_right
theorem pop_sub {a b : Nat} (h : nd a b = 0) : ∀ n, pop n a ≤ pop n b ∧ (pop n a = pop n b → ∀ j, j < n → a.testBit j = b.testBit j) := by
  intro n
  induction n with
  | zero => exact ⟨Nat.le_refl _, fun _ j hj => by omega⟩
  | succ n ih =>
    obtain ⟨h1, h2⟩ := ih
    have hb := nd_zero.mp h n
    rw [pop, pop]
    cases ha : a.testBit n
    · cases hh : b.testBit n
      · refine ⟨by simpa using h1, fun e j hj => ?_⟩
        rcases Nat.lt_or_ge j n with z | z
        · exact h2 (by simpa using e) j z
        · rw [show j = n by omega, ha, hh]
      · refine ⟨by simp; omega, fun e => ?_⟩
        simp at e; omega
    · rw [hb ha]
      refine ⟨by simpa using h1, fun e j hj => ?_⟩
      rcases Nat.lt_or_ge j n with z | z
      · exact h2 (by simpa using e) j z
      · rw [show j = n by omega, ha, hb ha]
theorem pop_lt {a b : Nat} (h : nd a b = 0) (hl : a < b) (hb : b < 2 ^ 12) : pop 12 a < pop 12 b := by
  obtain ⟨h1, h2⟩ := pop_sub h 12
  rcases Nat.lt_or_ge (pop 12 a) (pop 12 b) with z | z
  · exact z
  · exfalso
    have e := h2 (by omega)
    have : a = b := by
      apply Nat.eq_of_testBit_eq
      intro i
      rcases Nat.lt_or_ge i 12 with q | q
      · exact e i q
      · rw [y_bit_hi hb q, y_bit_hi (Nat.lt_trans hl hb) q]
    omega
theorem nbF_0 (w : Nat → Nat) : ∀ k, nbF w 0 k = 0 := by
  intro k
  induction k with
  | zero => rfl
  | succ k ih => rw [nbF, ih, if_neg (by rw [Nat.zero_testBit]; decide)]; rfl
theorem safe_0 (w : Nat → Nat) : safeF w 0 = 4095 := by unfold safeF; rw [nbF_0]; decide
theorem nd_self (m : Nat) : nd m m = 0 := nd_zero.mpr fun _ h => h
def fsB (w : Nat → Nat) (m a b e : Nat) : Bool := (stF w (safeF w (nd m e)) b 12 (2 ^ a &&& safeF w (nd m e))).isSome
theorem fs_top {w : Nat → Nat} {m a b e : Nat} (h : fsB w m a b e = true) : fsB w m a b m = true := by
  unfold fsB at h ⊢
  rw [nd_self, safe_0]
  obtain ⟨k, hk⟩ := Option.isSome_iff_exists.mp h
  obtain ⟨h1, h2, -⟩ := (stF_iff _ _ _ _ _ _).mp hk
  have hs : ∀ i, (safeF w (nd m e)).testBit i = true → (4095 : Nat).testBit i = true := by
    intro i hi
    rw [b4095]
    rcases Nat.lt_or_ge i 12 with z | z
    · simp [z]
    · rw [y_bit_hi (safe_lt _ _) z] at hi; cases hi
  have := stK_mono hs k _ (2 ^ a &&& 4095) (fun i hi => by
    rw [Nat.testBit_and, Bool.and_eq_true] at hi ⊢
    exact ⟨hi.1, hs i hi.2⟩) b h2
  obtain ⟨k', hk'⟩ := stF_hit h1 this
  rw [hk']; rfl
def bsF (w : Nat → Nat) (m a b : Nat) : Nat → Nat
  | 0 => m
  | i + 1 => if nd i m = 0 ∧ pop 12 i < pop 12 (bsF w m a b i) ∧ fsB w m a b i = true then i else bsF w m a b i
def fdF (w : Nat → Nat) (m a b : Nat) : Nat → Option Nat
  | 0 => none
  | i + 1 => match fdF w m a b i with
    | none => if nd i m = 0 ∧ fsB w m a b i = true then some i else none
    | some x => if nd i m = 0 ∧ pop 12 i < pop 12 x ∧ fsB w m a b i = true then some i else some x
theorem fdF_n {w : Nat → Nat} {m a b i : Nat} (h : fdF w m a b i = none) : fdF w m a b (i + 1) = if nd i m = 0 ∧ fsB w m a b i = true then some i else none := by rw [fdF, h]
theorem fdF_s {w : Nat → Nat} {m a b i x : Nat} (h : fdF w m a b i = some x) : fdF w m a b (i + 1) = if nd i m = 0 ∧ pop 12 i < pop 12 x ∧ fsB w m a b i = true then some i else some x := by rw [fdF, h]
theorem bsF_sub (w : Nat → Nat) (m a b : Nat) : ∀ i, nd (bsF w m a b i) m = 0 := by
  intro i
  induction i with
  | zero => exact nd_self m
  | succ i ih =>
    rw [bsF]
    split
    · rename_i h; exact h.1
    · exact ih
theorem fd_bs {w : Nat → Nat} {m a b : Nat} (hm : m < 2 ^ 12) : ∀ i, i ≤ m → (fdF w m a b i = none ∧ bsF w m a b i = m) ∨ fdF w m a b i = some (bsF w m a b i) := by
  intro i
  induction i with
  | zero => intro _; exact Or.inl ⟨rfl, rfl⟩
  | succ i ih =>
    intro hi
    rcases ih (by omega) with ⟨h1, h2⟩ | h1
    · rw [fdF_n h1, bsF, h2]
      by_cases c : nd i m = 0 ∧ fsB w m a b i = true
      · right
        rw [if_pos c, if_pos ⟨c.1, pop_lt c.1 (by omega) hm, c.2⟩]
      · left
        exact ⟨if_neg c, if_neg fun q => c ⟨q.1, q.2.2⟩⟩
    · right
      rw [fdF_s h1, bsF]
      by_cases c : nd i m = 0 ∧ pop 12 i < pop 12 (bsF w m a b i) ∧ fsB w m a b i = true
      · rw [if_pos c, if_pos c]
      · rw [if_neg c, if_neg c]
theorem fd_end {w : Nat → Nat} {m a b : Nat} (hm : m < 2 ^ 12) (hf : fsB w m a b m = true) : ∀ d, fdF w m a b (m + 1 + d) = some (bsF w m a b m) := by
  intro d
  induction d with
  | zero =>
    show fdF w m a b (m + 1) = _
    rw [fdF]
    rcases fd_bs hm m (Nat.le_refl _) with ⟨h1, h2⟩ | h1
    · rw [h1, h2]
      exact if_pos ⟨nd_self m, hf⟩
    · rw [h1]
      have := (pop_sub (bsF_sub w m a b m) 12).1
      exact if_neg (fun q => by omega)
  | succ d ih =>
    show fdF w m a b (m + 1 + d + 1) = _
    rw [fdF, ih]
    refine if_neg (fun q => ?_)
    have := sub_le q.1
    omega
theorem fd_none {w : Nat → Nat} {m a b : Nat} (hf : ¬ fsB w m a b m = true) : ∀ i, fdF w m a b i = none := by
  intro i
  induction i with
  | zero => rfl
  | succ i ih =>
    rw [fdF, ih]
    exact if_neg fun q => hf (fs_top q.2)
theorem fd_lt {w : Nat → Nat} {m a b : Nat} : ∀ i x, fdF w m a b i = some x → x < i := by
  intro i
  induction i with
  | zero => intro x h; cases h
  | succ i ih =>
    intro x h
    rw [fdF] at h
    cases hh : fdF w m a b i with
    | none =>
      rw [hh] at h
      have h' : (if nd i m = 0 ∧ fsB w m a b i = true then some i else none) = some x := h
      split at h'
      · cases h'; omega
      · cases h'
    | some y =>
      rw [hh] at h
      have h' : (if nd i m = 0 ∧ pop 12 i < pop 12 y ∧ fsB w m a b i = true then some i else some y) = some x := h
      have := ih y hh
      split at h'
      · cases h'; omega
      · cases h'; omega
def oI : Option Nat → Int32
  | none => -6
  | some k => nI k
theorem stI_none {o : Option Nat} (h : ∀ k, o = some k → k < 2 ^ 31) : (stI 0 o = -6 ↔ o.isSome = false) ∧ (stI 0 o < 0 ↔ o.isSome = false) := by
  cases o with
  | none => exact ⟨⟨fun _ => rfl, fun _ => rfl⟩, ⟨fun _ => rfl, fun _ => by decide⟩⟩
  | some k =>
    have hk := h k rfl
    have e : stI 0 (some k) = nI k := by show nI (0 + k) = _; rw [Nat.zero_add]
    rw [e]
    refine ⟨⟨fun q => ?_, fun q => by cases q⟩, ⟨fun q => absurd q (nI_pos hk), fun q => by cases q⟩⟩
    have := congrArg Int32.toInt q
    rw [nI_toInt hk] at this
    have e4 : (-6 : Int32).toInt = -6 := by decide
    omega
theorem oI_none {o : Option Nat} (h : ∀ k, o = some k → k < 2 ^ 31) : (oI o < 0 ↔ o = none) := by
  cases o with
  | none => exact ⟨fun _ => rfl, fun _ => by decide⟩
  | some k => exact ⟨fun q => absurd q (nI_pos (h k rfl)), fun q => by cases q⟩
theorem s_shunL {post : Int32 → Prop} {w : Nat → Nat} {g : Nat → Int32} {m a b : Nat} (hok : tnOk w m) (h : tnW w g) (ha : a < 12) (hb : b < 12) (p : post (nI (bsF w m a b m))) : ∃ n, w_X6_fewestToEmpty_B25 post g (nI m) (nI a) (nI b) n (nI m) 0 := by
  have hm := hok.2.2
  have key : ∀ n i, m - i < n → i ≤ m → w_X6_fewestToEmpty_B25 post g (nI m) (nI a) (nI b) n (nI (bsF w m a b i)) (nI i) := by
    intro n
    induction n with
    | zero => intro i z; omega
    | succ n ih =>
      intro i z1 z2
      unfold w_X6_fewestToEmpty_B25
      have hbs := sub_le (bsF_sub w m a b i)
      refine pk_le m i (fun z => ?_) (fun z => ?_)
      · have ei : i = m := by omega
        rw [ei]; exact p
      · have keep : ¬ (nd i m = 0 ∧ pop 12 i < pop 12 (bsF w m a b i) ∧ fsB w m a b i = true) → w_X6_fewestToEmpty_B25 post g (nI m) (nI a) (nI b) n (nI (bsF w m a b i)) (nI i + 1) := by
          intro q
          rw [nI_1]
          have e : bsF w m a b (i + 1) = bsF w m a b i := by rw [bsF, if_neg q]
          have := ih (i + 1) (by omega) (by omega)
          rw [e] at this; exact this
        have take : (nd i m = 0 ∧ pop 12 i < pop 12 (bsF w m a b i) ∧ fsB w m a b i = true) → w_X6_fewestToEmpty_B25 post g (nI m) (nI a) (nI b) n (nI i) (nI i + 1) := by
          intro q
          rw [nI_1]
          have e : bsF w m a b (i + 1) = i := by rw [bsF, if_pos q]
          have := ih (i + 1) (by omega) (by omega)
          rw [e] at this; exact this
        rw [y_nd]
        have hnd : nd i m < 2 ^ 12 := y_nd_lt (Nat.lt_trans z hm)
        have p1 := pop_le 12 i
        have p2 := pop_le 12 (bsF w m a b i)
        refine pk_eq (nd i m) 0 (fun e0 => ?_) (fun e0 => ?_)
        · unfold w_X6_fewestToEmpty_B51
          refine s_bitCount (by omega) (s_bitCount (by omega) (pk_le (pop 12 (bsF w m a b i)) (pop 12 i) (fun q => ?_) (fun q => ?_)))
          · unfold w_X6_fewestToEmpty_B70
            exact y_1 (y_0 (keep (fun q2 => by omega)))
          · unfold w_X6_fewestToEmpty_B70
            refine y_1 (y_1 ?_)
            rw [y_nd]
            have ok2 : tnOk w (nd m i) := ⟨hok.1, hok.2.1, y_nd_lt hm⟩
            refine s_safe ok2.2.2 h (s_steps hok.1 h ha hb ?_)
            have hl : ∀ k, stF w (safeF w (nd m i)) b 12 (2 ^ a &&& safeF w (nd m i)) = some k → k < 2 ^ 31 := fun k hk => by have := stF_lt hk; omega
            refine ⟨fun e => keep (fun q2 => ?_), fun e => take ⟨e0, q, ?_⟩⟩
            · have := (stI_none hl).1.mp e
              have q3 := q2.2.2
              unfold fsB at q3
              rw [this] at q3; cases q3
            · unfold fsB
              cases hh : (stF w (safeF w (nd m i)) b 12 (2 ^ a &&& safeF w (nd m i))).isSome
              · exact absurd ((stI_none hl).1.mpr hh) e
              · rfl
        · unfold w_X6_fewestToEmpty_B51
          refine s_bitCount (by omega) (s_bitCount (by omega) (pk_le (pop 12 (bsF w m a b i)) (pop 12 i) (fun q => ?_) (fun q => ?_)))
          · unfold w_X6_fewestToEmpty_B70
            exact y_0 (keep (fun q2 => e0 q2.1))
          · unfold w_X6_fewestToEmpty_B70
            exact y_0 (keep (fun q2 => e0 q2.1))
  exact ⟨m + 1, key (m + 1) 0 (by omega) (by omega)⟩
theorem r_shunL {post : Int32 → Prop} {w : Nat → Nat} {g : Nat → Int32} {m a b : Nat} {p3 : Int32} (hok : tnOk w m) (h : tnW w g) (ha : a < 12) (hb : b < 12) (p : (oI (fdF w m a b 4096) < 0 → w_X9_shun_B127 post g (nI m) (nI a) (nI b) p3 (oI (fdF w m a b 4096))) ∧ (¬ oI (fdF w m a b 4096) < 0 → (p3 = (1 : Int32) → w_X9_shun_B127 post g (nI m) (nI a) (nI b) p3 (oI (fdF w m a b 4096))) ∧ (¬ p3 = (1 : Int32) → w_X9_bits (fun r134 => post r134) (oI (fdF w m a b 4096))))) : ∃ n, w_X9_shun_B35 post g (nI m) (nI a) (nI b) p3 n (-6) 0 := by
  have hm := hok.2.2
  have key : ∀ n i, 4096 - i < n → i ≤ 4096 → w_X9_shun_B35 post g (nI m) (nI a) (nI b) p3 n (oI (fdF w m a b i)) (nI i) := by
    intro n
    induction n with
    | zero => intro i z; omega
    | succ n ih =>
      intro i z1 z2
      unfold w_X9_shun_B35
      refine pk_le 4096 i (fun z => ?_) (fun z => ?_)
      · rw [show i = 4096 by omega]; exact p
      · have next : ∀ x, fdF w m a b (i + 1) = x → w_X9_shun_B35 post g (nI m) (nI a) (nI b) p3 n (oI x) (nI i + 1) := by
          intro x e
          rw [nI_1, ← e]
          exact ih (i + 1) (by omega) (by omega)
        have ok2 : tnOk w (nd m i) := ⟨hok.1, hok.2.1, y_nd_lt hm⟩
        have hl : ∀ k, stF w (safeF w (nd m i)) b 12 (2 ^ a &&& safeF w (nd m i)) = some k → k < 2 ^ 31 := fun k hk => by have := stF_lt hk; omega
        have hnd : nd i m < 2 ^ 12 := y_nd_lt (by omega)
        have try1 : ∀ x, fdF w m a b i = x → (fsB w m a b i = true → fdF w m a b (i + 1) = some i) → (fsB w m a b i = false → fdF w m a b (i + 1) = x) → w_X9_shun_B73 post g (nI m) (nI a) (nI b) p3 (fun x4 x5 => w_X9_shun_B35 post g (nI m) (nI a) (nI b) p3 n x4 x5) (oI x) (nI i) := by
          intro x ex ht hn
          unfold w_X9_shun_B73 w_X9_shun_B78
          refine y_1 ?_
          rw [y_nd]
          refine r_safe ok2 h (r_steps hok.1 h ha hb ?_)
          refine ⟨fun e => next _ (hn ?_), fun e => next (some i) (ht ?_)⟩
          · exact (stI_none hl).2.mp e
          · unfold fsB
            cases hh : (stF w (safeF w (nd m i)) b 12 (2 ^ a &&& safeF w (nd m i))).isSome
            · exact absurd ((stI_none hl).2.mpr hh) e
            · rfl
        have skip : ∀ x, fdF w m a b (i + 1) = x → w_X9_shun_B77 post g (nI m) (nI a) (nI b) p3 (fun x4 x5 => w_X9_shun_B35 post g (nI m) (nI a) (nI b) p3 n x4 x5) (oI x) (nI i) := by
          intro x ex
          unfold w_X9_shun_B77 w_X9_shun_B78
          exact y_0 (next x ex)
        rw [y_nd]
        have hlx : ∀ k, fdF w m a b i = some k → k < 2 ^ 31 := fun k hk => by have := fd_lt i k hk; omega
        have hstep : fdF w m a b (i + 1) = (match fdF w m a b i with
          | none => if nd i m = 0 ∧ fsB w m a b i = true then some i else none
          | some x => if nd i m = 0 ∧ pop 12 i < pop 12 x ∧ fsB w m a b i = true then some i else some x) := rfl
        cases hx : fdF w m a b i with
        | none =>
          rw [hx] at hstep
          replace hstep : fdF w m a b (i + 1) = if nd i m = 0 ∧ fsB w m a b i = true then some i else none := hstep
          refine pk_eq (nd i m) 0 (fun e0 => ⟨fun _ => ?_, fun q => absurd (show oI none < 0 by decide) q⟩) (fun e0 => ?_)
          · exact try1 none hx (fun q => by rw [hstep, if_pos ⟨e0, q⟩]) (fun q => by rw [hstep, if_neg (fun z => by rw [q] at z; cases z.2)])
          · exact skip none (by rw [hstep, if_neg (fun z => e0 z.1)])
        | some x =>
          have hxl := fd_lt i x hx
          rw [hx] at hstep
          replace hstep : fdF w m a b (i + 1) = if nd i m = 0 ∧ pop 12 i < pop 12 x ∧ fsB w m a b i = true then some i else some x := hstep
          have pl1 := pop_le 12 i
          have pl2 := pop_le 12 x
          refine pk_eq (nd i m) 0 (fun e0 => ⟨fun q => absurd q (nI_pos (by omega)), fun _ => ?_⟩) (fun e0 => ?_)
          · refine s_bits (by omega) (s_bits (by omega) (pk_le (pop 12 x) (pop 12 i) (fun q => ?_) (fun q => ?_)))
            · exact skip (some x) (by rw [hstep, if_neg (fun z => by omega)])
            · exact try1 (some x) hx (fun q2 => by rw [hstep, if_pos ⟨e0, q, q2⟩]) (fun q2 => by rw [hstep, if_neg (fun z => by rw [q2] at z; cases z.2.2)])
          · exact skip (some x) (by rw [hstep, if_neg (fun z => e0 z.1)])
  exact ⟨4097, key 4097 0 (by omega) (by omega)⟩
theorem e_shun {fw rw : Nat → Int32} {mk rmk p1 p2 p3 : Int32} (h : RT fw mk rw rmk) : w_X8_shun (fun r => w_X9_shun (fun r' => r = r') rw rmk p1 p2 p3) fw mk p1 p2 p3 := by
  obtain ⟨w, m, hok, hf, hr, rfl, rfl⟩ := h
  unfold w_X8_shun
  rcases y_rng0 p1 11 with ⟨a, ha, rfl⟩ | o1
  · refine s_isC (by omega) (y_1 ?_)
    rcases y_rng0 p2 11 with ⟨b, hb, rfl⟩ | o2
    · refine s_isC (by omega) (y_1 ?_)
      rcases y_rng0 p3 1 with ⟨k3, hk3, rfl⟩ | o3
      · refine s8_in 0 1 (Nat.zero_le _) hk3 (by decide) (y_1 ?_)
        unfold w_X6_fewestToEmpty
        have hm := hok.2.2
        have a12 : a < 12 := by omega
        have b12 : b < 12 := by omega
        have hl : ∀ k, stF w 4095 b 12 (2 ^ a &&& 4095) = some k → k < 2 ^ 31 := fun k hk => by have := stF_lt hk; omega
        have hfs : fsB w m a b m = (stF w 4095 b 12 (2 ^ a &&& 4095)).isSome := by unfold fsB; rw [nd_self, safe_0]
        have ref : ∀ post : Int32 → Prop, ((oI (fdF w m a b 4096) < 0 → w_X9_shun_B127 post rw (nI m) (nI a) (nI b) (nI k3) (oI (fdF w m a b 4096))) ∧ (¬ oI (fdF w m a b 4096) < 0 → (nI k3 = (1 : Int32) → w_X9_shun_B127 post rw (nI m) (nI a) (nI b) (nI k3) (oI (fdF w m a b 4096))) ∧ (¬ nI k3 = (1 : Int32) → w_X9_bits (fun r134 => post r134) (oI (fdF w m a b 4096))))) → w_X9_shun post rw (nI m) (nI a) (nI b) (nI k3) := by
          intro post hp
          unfold w_X9_shun
          exact s9_isC a12 (y_1 (s9_isC b12 (y_1 (s9_in 0 1 (Nat.zero_le _) hk3 (by decide) (y_1 (r_shunL hok hr a12 b12 hp))))))
        rw [show (4095 : Int32) = nI 4095 from rfl]
        refine s_steps hok.1 hf a12 b12 ⟨fun e => ?_, fun e => ?_⟩
        · refine ⟨fun _ => ref _ ?_, fun q => absurd rfl q⟩
          have e2 := (stI_none hl).1.mp e
          rw [fd_none (by rw [hfs, e2]; decide)]
          exact ⟨fun _ => rfl, fun q => absurd (show oI none < 0 by decide) q⟩
        · have e2 : fsB w m a b m = true := by
            rw [hfs]
            cases hh : (stF w 4095 b 12 (2 ^ a &&& 4095)).isSome
            · exact absurd ((stI_none hl).1.mpr hh) e
            · rfl
          have hbs := sub_le (bsF_sub w m a b m)
          have hfd : fdF w m a b 4096 = some (bsF w m a b m) := by
            have := fd_end hm e2 (4095 - m)
            rw [show m + 1 + (4095 - m) = 4096 by omega] at this
            exact this
          rw [hfd] at ref
          refine s_shunL hok hf a12 b12 ⟨fun q => ?_, fun _ => ?_⟩
          · have := congrArg Int32.toInt q
            rw [nI_toInt (by omega)] at this
            have e4 : (-6 : Int32).toInt = -6 := by decide
            omega
          · have np : ¬ oI (some (bsF w m a b m)) < 0 := nI_pos (by omega)
            refine pk_eq k3 0 (fun z => ?_) (fun z => ?_)
            · refine s_bitCount (by omega) (ref _ ⟨fun q => absurd q np, fun _ => ⟨fun q => ?_, fun _ => s_bits (by omega) rfl⟩⟩)
              rw [z] at q; exact absurd q (by decide)
            · refine ref _ ⟨fun q => absurd q np, fun _ => ⟨fun _ => rfl, fun q => ?_⟩⟩
              have : k3 = 1 := by omega
              rw [this] at q; exact absurd rfl q
      · refine s8_out o3 (y_0 ?_)
        unfold w_X9_shun
        exact s9_isC (by omega) (y_1 (s9_isC (by omega) (y_1 (s9_out o3 (y_0 rfl)))))
    · refine s_isCo o2 (y_0 ?_)
      unfold w_X9_shun
      exact s9_isC (by omega) (y_1 (s9_isCo o2 (y_0 rfl)))
  · refine s_isCo o1 (y_0 ?_)
    unfold w_X9_shun
    exact s9_isCo o1 (y_0 rfl)
