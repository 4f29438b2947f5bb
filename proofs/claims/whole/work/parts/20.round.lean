-- steps from cell to cell: round
def stS (w : Nat → Nat) (s S : Nat) : Nat := S ||| (nbF w S 12 &&& s)
def stF (w : Nat → Nat) (s to : Nat) : Nat → Nat → Option Nat
  | 0, _ => none
  | f + 1, S => if S.testBit to = true then some 0 else match stF w s to f (stS w s S) with
    | none => none
    | some k => some (k + 1)
def stI (i : Nat) : Option Nat → Int32
  | none => -6
  | some k => nI (i + k)
theorem stS_lt {w : Nat → Nat} {s S : Nat} (hw : ∀ c, c < 12 → w c < 2 ^ 12) (hS : S < 2 ^ 12) : stS w s S < 2 ^ 12 := y_or_lt hS (y_and_lt (nbF_lt hw 12 (Nat.le_refl _)))
theorem stF_fix {w : Nat → Nat} {s to S : Nat} (h : stS w s S = S) (hb : ¬ S.testBit to = true) : ∀ f, stF w s to f S = none := by
  intro f
  induction f with
  | zero => rfl
  | succ f ih => rw [stF, if_neg hb, h, ih]
theorem stF_no {w : Nat → Nat} {s to S f : Nat} (hb : ¬ S.testBit to = true) (i : Nat) : stI i (stF w s to (f + 1) S) = stI (i + 1) (stF w s to f (stS w s S)) := by
  rw [stF, if_neg hb]
  cases stF w s to f (stS w s S) with
  | none => rfl
  | some k => show nI (i + (k + 1)) = nI (i + 1 + k); congr 1; omega
theorem s_stepsB {post : Int32 → Prop} {w : Nat → Nat} {g : Nat → Int32} {s to a : Nat} (hw : ∀ c, c < 12 → w c < 2 ^ 12) (h : tnW w g) (ht : to < 12) : ∀ n f i S, f < n → i + f = 12 → S < 2 ^ 12 → post (stI i (stF w s to f S)) → w_X6_steps_B10 post g (nI a) (nI to) (nI s) n (nI S) (nI i) := by
  intro n
  induction n with
  | zero => intro f i S z; omega
  | succ n ih =>
    intro f i S z1 z2 hS p
    unfold w_X6_steps_B10
    refine pk_le 12 i (fun z => ?_) (fun z => ?_)
    · have ef : f = 0 := by omega
      subst ef
      exact p
    · obtain ⟨f, rfl⟩ : ∃ f', f = f' + 1 := ⟨f - 1, by omega⟩
      refine y_pb (by omega) (by omega) (fun hb => ?_) (fun hb => ?_)
      · rw [stF, if_pos hb] at p
        exact p
      · have hb' : ¬ S.testBit to = true := by rw [hb]; decide
        refine s_beside hS h ?_
        rw [y_and, y_or]
        have hl := stS_lt (s := s) hw hS
        show (nI (stS w s S) = nI S → post (-6)) ∧ (¬ nI (stS w s S) = nI S → _)
        refine pk_eq (stS w s S) S (fun e => ?_) (fun e => ?_)
        · rw [stF_fix e hb'] at p
          exact p
        · rw [stF_no hb'] at p
          rw [nI_1]
          exact ih f (i + 1) _ (by omega) (by omega) hl p
theorem s_steps {post : Int32 → Prop} {w : Nat → Nat} {g : Nat → Int32} {s to a : Nat} (hw : ∀ c, c < 12 → w c < 2 ^ 12) (h : tnW w g) (ha : a < 12) (ht : to < 12) (p : post (stI 0 (stF w s to 12 (2 ^ a &&& s)))) : w_X6_steps post g (nI a) (nI to) (nI s) := by
  unfold w_X6_steps
  intro y ey
  rw [y_sh1 a (by omega), y_and] at ey
  rw [ey]
  exact ⟨13, s_stepsB hw h ht 13 12 0 _ (by omega) (by omega) (y_and_lt (y_pow_lt ha)) p⟩
theorem r_stepB {post : Int32 → Prop} {w : Nat → Nat} {g : Nat → Int32} {s to a S : Nat} {k10 : Int32 → Int32 → Prop} {x5 : Int32} (h : tnW w g) (hS : S < 2 ^ 12) (p : k10 (nI (stS w s S)) (x5 + 1)) : ∃ n36, w_X9_stepsBy_B36 post g (nI a) (nI to) (nI s) k10 n36 (nI S) x5 (nI S) 0 := by
  have key : ∀ n k, 12 - k < n → k ≤ 12 → w_X9_stepsBy_B36 post g (nI a) (nI to) (nI s) k10 n (nI (S ||| (nbF w S k &&& s))) x5 (nI S) (nI k) := by
    intro n
    induction n with
    | zero => intro k z; omega
    | succ n ih =>
      intro k z1 z2
      unfold w_X9_stepsBy_B36
      refine pk_le 12 k (fun z => ?_) (fun z => ?_)
      · rw [show k = 12 by omega]; exact p
      · refine s9_has (by omega) (by omega) (y_01 (fun hb => ?_) (fun hb => ⟨vp_in_nI z (by decide), ?_⟩))
        · unfold w_X9_stepsBy_B68
          dsimp only
          have e : S ||| (nbF w S k &&& s) ||| 0 = S ||| (nbF w S (k + 1) &&& s) := by rw [nbF, if_neg hb, Nat.or_zero, Nat.or_zero]
          rw [show (0 : Int32) = nI 0 from rfl, y_or, nI_1, e]
          exact ih (k + 1) (by omega) (by omega)
        · unfold w_X9_stepsBy_B68
          dsimp only
          have e : S ||| (nbF w S k &&& s) ||| (w k &&& s) = S ||| (nbF w S (k + 1) &&& s) := by
            rw [nbF, if_pos hb]
            apply Nat.eq_of_testBit_eq
            intro i
            simp only [Nat.testBit_or, Nat.testBit_and]
            cases S.testBit i <;> cases (nbF w S k).testBit i <;> cases s.testBit i <;> cases (w k).testBit i <;> rfl
          rw [nI_clamp (by omega), h k z, y_and, y_or, nI_1, e]
          exact ih (k + 1) (by omega) (by omega)
  have k0 := key 13 0 (by omega) (by omega)
  rw [nbF, Nat.zero_and, Nat.or_zero] at k0
  exact ⟨13, k0⟩
theorem r_steps {post : Int32 → Prop} {w : Nat → Nat} {g : Nat → Int32} {s to a : Nat} (hw : ∀ c, c < 12 → w c < 2 ^ 12) (h : tnW w g) (ha : a < 12) (ht : to < 12) (p : post (stI 0 (stF w s to 12 (2 ^ a &&& s)))) : w_X9_stepsBy post g (nI a) (nI to) (nI s) := by
  have key : ∀ n f i S, f < n → i + f = 12 → S < 2 ^ 12 → post (stI i (stF w s to f S)) → w_X9_stepsBy_B10 post g (nI a) (nI to) (nI s) n (nI S) (nI i) := by
    intro n
    induction n with
    | zero => intro f i S z; omega
    | succ n ih =>
      intro f i S z1 z2 hS p
      unfold w_X9_stepsBy_B10
      refine pk_le 12 i (fun z => ?_) (fun z => ?_)
      · have ef : f = 0 := by omega
        subst ef
        exact p
      · obtain ⟨f, rfl⟩ : ∃ f', f = f' + 1 := ⟨f - 1, by omega⟩
        refine s9_has (by omega) (by omega) (y_01 (fun hb => ?_) (fun hb => ?_))
        · rw [stF_no hb] at p
          refine r_stepB h hS ?_
          rw [nI_1]
          exact ih f (i + 1) _ (by omega) (by omega) (stS_lt hw hS) p
        · rw [stF, if_pos hb] at p
          exact p
  unfold w_X9_stepsBy
  intro y ey
  rw [y_sh1 a (by omega), y_and, Nat.and_comm] at ey
  rw [ey]
  exact ⟨13, key 13 12 0 _ (by omega) (by omega) (y_and_lt (y_pow_lt ha)) p⟩
/-- the set after k steps -/
def stK (w : Nat → Nat) (s : Nat) : Nat → Nat → Nat
  | 0, S => S
  | k + 1, S => stK w s k (stS w s S)
theorem stF_iff (w : Nat → Nat) (s to : Nat) : ∀ (f S k : Nat), stF w s to f S = some k ↔ k < f ∧ (stK w s k S).testBit to = true ∧ ∀ j, j < k → ¬ (stK w s j S).testBit to = true := by
  intro f
  induction f with
  | zero => intro S k; rw [stF]; simp
  | succ f ih =>
    intro S k
    rw [stF]
    by_cases hb : S.testBit to = true
    · rw [if_pos hb]
      constructor
      · intro h
        cases h
        exact ⟨by omega, hb, fun j hj => by omega⟩
      · rintro ⟨h1, h2, h3⟩
        rcases Nat.eq_zero_or_pos k with e | e
        · rw [e]
        · exact absurd hb (h3 0 e)
    · rw [if_neg hb]
      have ih' := ih (stS w s S)
      constructor
      · intro h
        cases hh : stF w s to f (stS w s S) with
        | none => rw [hh] at h; cases h
        | some k' =>
          rw [hh] at h
          cases h
          obtain ⟨h1, h2, h3⟩ := (ih' k').mp hh
          refine ⟨by omega, h2, fun j hj => ?_⟩
          cases j with
          | zero => exact hb
          | succ j => exact h3 j (by omega)
      · rintro ⟨h1, h2, h3⟩
        cases k with
        | zero => exact absurd h2 hb
        | succ k =>
          rw [(ih' k).mpr ⟨by omega, h2, fun j hj => h3 (j + 1) (by omega)⟩]
theorem stS_bit (w : Nat → Nat) (s S i : Nat) : (stS w s S).testBit i = true ↔ S.testBit i = true ∨ (∃ c, c < 12 ∧ S.testBit c = true ∧ (w c).testBit i = true) ∧ s.testBit i = true := by
  unfold stS
  rw [Nat.testBit_or, Nat.testBit_and, Bool.or_eq_true, Bool.and_eq_true, nbF_bit]
/-- a set is reached from its cells -/
theorem stK_add (w : Nat → Nat) (s i : Nat) : ∀ (k S : Nat), (stK w s k S).testBit i = true ↔ ∃ c, S.testBit c = true ∧ (stK w s k (2 ^ c)).testBit i = true := by
  intro k
  induction k with
  | zero =>
    intro S
    show S.testBit i = true ↔ ∃ c, S.testBit c = true ∧ (2 ^ c).testBit i = true
    constructor
    · intro h; exact ⟨i, h, by rw [y_pow_bit]; simp⟩
    · rintro ⟨c, h1, h2⟩
      rw [y_pow_bit] at h2
      have : c = i := by simpa using h2
      subst this; exact h1
  | succ k ih =>
    intro S
    show (stK w s k (stS w s S)).testBit i = true ↔ ∃ c, S.testBit c = true ∧ (stK w s k (stS w s (2 ^ c))).testBit i = true
    rw [ih]
    constructor
    · rintro ⟨d, h1, h2⟩
      rcases (stS_bit w s S d).mp h1 with h | ⟨⟨c, hc, hc2, hc3⟩, h⟩
      · refine ⟨d, h, (ih _).mpr ⟨d, (stS_bit w s _ d).mpr (Or.inl (by rw [y_pow_bit]; simp)), h2⟩⟩
      · refine ⟨c, hc2, (ih _).mpr ⟨d, (stS_bit w s _ d).mpr (Or.inr ⟨⟨c, hc, by rw [y_pow_bit]; simp, hc3⟩, h⟩), h2⟩⟩
    · rintro ⟨c, h1, h2⟩
      obtain ⟨d, h3, h4⟩ := (ih _).mp h2
      refine ⟨d, (stS_bit w s S d).mpr ?_, h4⟩
      rcases (stS_bit w s _ d).mp h3 with h | ⟨⟨e, he, he2, he3⟩, h⟩
      · rw [y_pow_bit] at h
        have : c = d := by simpa using h
        subst this; exact Or.inl h1
      · rw [y_pow_bit] at he2
        have : c = e := by simpa using he2
        subst this; exact Or.inr ⟨⟨c, he, h1, he3⟩, h⟩
/-- the first cell on the way is there -/
theorem stF_next {w : Nat → Nat} {s to a n : Nat} (ha : a < 12) (hs : s < 2 ^ 12) (h : stF w s to 12 (2 ^ a &&& s) = some (n + 1)) : ∃ c, c < 12 ∧ (w a &&& s).testBit c = true ∧ stF w s to 12 (2 ^ c &&& s) = some n := by
  obtain ⟨h1, h2, h3⟩ := (stF_iff w s to 12 _ _).mp h
  have has : s.testBit a = true := by
    obtain ⟨c, hc, -⟩ := (stK_add w s to (n + 1) _).mp h2
    rw [Nat.testBit_and, Bool.and_eq_true, y_pow_bit] at hc
    have : a = c := by simpa using hc.1
    subst this; exact hc.2
  have ea : ∀ c, s.testBit c = true → 2 ^ c &&& s = 2 ^ c := by
    intro c hc
    apply Nat.eq_of_testBit_eq
    intro i
    rw [Nat.testBit_and, y_pow_bit]
    by_cases e : c = i
    · subst e; rw [hc]; simp
    · simp [e]
  rw [ea a has] at h2 h3
  obtain ⟨c, hc, hc2⟩ := (stK_add w s to n _).mp (show (stK w s n (stS w s (2 ^ a))).testBit to = true from h2)
  rcases (stS_bit w s _ c).mp hc with q | ⟨⟨d, hd, hd2, hd3⟩, q⟩
  · rw [y_pow_bit] at q
    have : a = c := by simpa using q
    subst this
    exact absurd hc2 (h3 n (by omega))
  · rw [y_pow_bit] at hd2
    have : a = d := by simpa using hd2
    subst this
    have c12 : c < 12 := by
      rcases Nat.lt_or_ge c 12 with z | z
      · exact z
      · rw [y_bit_hi hs z] at q; cases q
    refine ⟨c, c12, by rw [Nat.testBit_and, hd3, q]; rfl, ?_⟩
    rw [ea c q]
    refine (stF_iff w s to 12 _ _).mpr ⟨by omega, hc2, fun j hj hjb => ?_⟩
    refine h3 (j + 1) (by omega) ?_
    show (stK w s j (stS w s (2 ^ a))).testBit to = true
    exact (stK_add w s to j _).mpr ⟨c, hc, hjb⟩
theorem stF_lt {w : Nat → Nat} {s to f S k : Nat} (h : stF w s to f S = some k) : k < f := ((stF_iff w s to f S k).mp h).1
theorem stI_eq {o : Option Nat} {n : Nat} (h : ∀ k, o = some k → k < 12) (hn : n < 12) : stI 0 o = nI n ↔ o = some n := by
  cases o with
  | none =>
    constructor
    · intro e
      have := congrArg Int32.toInt e
      rw [nI_toInt (by omega)] at this
      have e4 : (stI 0 none).toInt = -6 := by decide
      omega
    · intro e; cases e
  | some k =>
    have := h k rfl
    show nI (0 + k) = nI n ↔ _
    rw [nI_eq (by omega) (by omega)]
    constructor
    · intro e; congr 1; omega
    · intro e; cases e; omega
/-- the cell itself: where the search stands at c, none before being right -/
def okCell (w : Nat → Nat) (s to a n c : Nat) : Prop := (w a &&& s).testBit c = true ∧ stF w s to 12 (2 ^ c &&& s) = some n
theorem ok_beside {w : Nat → Nat} {s to n c : Nat} (h : stF w s to 12 (2 ^ c &&& s) = some n) : s.testBit c = true := by
  obtain ⟨h1, h2, h3⟩ := (stF_iff w s to 12 _ _).mp h
  obtain ⟨d, hd, -⟩ := (stK_add w s to n _).mp h2
  rw [Nat.testBit_and, Bool.and_eq_true, y_pow_bit] at hd
  have : c = d := by simpa using hd.1
  subst this; exact hd.2
theorem s_waysFrom {post : Int32 → Prop} {w : Nat → Nat} {g : Nat → Int32} {a : Nat} (h : tnW w g) (ha : a < 12) (p : post (nI (w a))) : w_X6_waysFrom post g (nI a) := by
  unfold w_X6_waysFrom
  refine s_isC ha (y_1 ⟨vp_in_nI ha (by decide), ?_⟩)
  rw [nI_clamp (by omega), h a ha]; exact p
theorem y_pre (n : Nat) : nI (n + 1) - (1 : Int32) = nI n := nI_pred n
theorem s_firstL {post : Int32 → Prop} {w : Nat → Nat} {g : Nat → Int32} {s to a n : Nat} (hw : ∀ c, c < 12 → w c < 2 ^ 12) (h : tnW w g) (ha : a < 12) (ht : to < 12) (hn : n < 12) (c : Nat) (hc : c < 12) (hok : okCell w s to a n c) (hlt : ∀ j, j < c → ¬ okCell w s to a n j) (p : post (nI c)) : ∃ m, w_X6_firstCell_B20 post g (nI a) (nI to) (nI s) m (nI (n + 1)) (nI 0) := by
  have key : ∀ m j, c - j < m → j ≤ c → w_X6_firstCell_B20 post g (nI a) (nI to) (nI s) m (nI (n + 1)) (nI j) := by
    intro m
    induction m with
    | zero => intro j z; omega
    | succ m ih =>
      intro j z1 z2
      unfold w_X6_firstCell_B20
      refine pk_le 12 j (fun z => absurd z (by omega)) (fun z => ?_)
      refine s_waysFrom h ha ?_
      have hwa := hw a ha
      have next : j ≠ c → w_X6_firstCell_B20 post g (nI a) (nI to) (nI s) m (nI (n + 1)) (nI j + 1) := by
        intro hj; rw [nI_1]; exact ih (j + 1) (by omega) (by omega)
      refine y_pb (by omega) (by omega) (fun hb => ?_) (fun hb => ?_)
      · unfold w_X6_firstCell_B46
        refine y_1 (s_steps hw h z ht ?_)
        rw [y_pre]
        have hl : ∀ k, stF w s to 12 (2 ^ j &&& s) = some k → k < 12 := fun k hk => stF_lt hk
        refine ⟨fun e => ?_, fun e => ?_⟩
        · have e2 := (stI_eq hl hn).mp e
          have : j = c := by
            rcases Nat.lt_or_ge j c with q | q
            · exact absurd ⟨by rw [Nat.testBit_and, hb, ok_beside e2]; rfl, e2⟩ (hlt j q)
            · omega
          rw [this]; exact p
        · refine next (fun q => e ?_)
          subst q
          exact (stI_eq hl hn).mpr hok.2
      · unfold w_X6_firstCell_B46
        refine y_0 (next (fun q => ?_))
        subst q
        have := hok.1
        rw [Nat.testBit_and, hb] at this; cases this
  exact ⟨c + 1, key (c + 1) 0 (by omega) (by omega)⟩
theorem r_firstL {post : Int32 → Prop} {w : Nat → Nat} {g : Nat → Int32} {s to a n : Nat} {mk p3 : Int32} (hw : ∀ c, c < 12 → w c < 2 ^ 12) (h : tnW w g) (ha : a < 12) (ht : to < 12) (hn : n < 12) (c : Nat) (hc : c < 12) (hok : okCell w s to a n c) (hlt : ∀ j, j < c → ¬ okCell w s to a n j) (p : post (nI c)) : ∃ m, w_X9_round_B72 post g mk (nI a) (nI to) p3 m (nI s) (nI (n + 1)) (nI 0) := by
  have key : ∀ m j, c - j < m → j ≤ c → w_X9_round_B72 post g mk (nI a) (nI to) p3 m (nI s) (nI (n + 1)) (nI j) := by
    intro m
    induction m with
    | zero => intro j z; omega
    | succ m ih =>
      intro j z1 z2
      unfold w_X9_round_B72
      refine ⟨vp_in_nI ha (by decide), ?_⟩
      have hwa : w a &&& s < 2 ^ 12 := y_and_lt (hw a ha)
      have next : j ≠ c → w_X9_round_B72 post g mk (nI a) (nI to) p3 m (nI s) (nI (n + 1)) (nI j + 1) := by
        intro hj; rw [nI_1]; exact ih (j + 1) (by omega) (by omega)
      rw [nI_clamp (by omega), h a ha, y_and]
      refine s9_has (by omega) (by omega) (y_01 (fun hb => ?_) (fun hb => ?_))
      · exact next (fun q => hb (by rw [q]; exact hok.1))
      · refine r_steps hw h (by omega) ht ?_
        rw [y_pre]
        have hl : ∀ k, stF w s to 12 (2 ^ j &&& s) = some k → k < 12 := fun k hk => stF_lt hk
        refine ⟨fun e => ?_, fun e => ?_⟩
        · have e2 := (stI_eq hl hn).mp e
          have : j = c := by
            rcases Nat.lt_or_ge j c with q | q
            · exact absurd ⟨hb, e2⟩ (hlt j q)
            · omega
          rw [this]; exact p
        · refine next (fun q => e ?_)
          subst q
          exact (stI_eq hl hn).mpr hok.2
  exact ⟨c + 1, key (c + 1) 0 (by omega) (by omega)⟩
theorem e_round {fw rw : Nat → Int32} {mk rmk p1 p2 p3 : Int32} (h : RT fw mk rw rmk) : w_X8_round (fun r => w_X9_round (fun r' => r = r') rw rmk p1 p2 p3) fw mk p1 p2 p3 := by
  obtain ⟨w, m, hok, hf, hr, rfl, rfl⟩ := h
  unfold w_X8_round
  rcases y_rng0 p1 11 with ⟨a, ha, rfl⟩ | o1
  · refine s_isC (by omega) (y_1 ?_)
    rcases y_rng0 p2 11 with ⟨b, hb, rfl⟩ | o2
    · refine s_isC (by omega) (y_1 ?_)
      rcases y_rng0 p3 1 with ⟨k3, hk3, rfl⟩ | o3
      · refine s8_in 0 1 (Nat.zero_le _) hk3 (by decide) (y_1 (s_safe hok.2.2 hf ?_))
        have ref : ∀ post : Int32 → Prop, ((nI k3 = 0 → w_X9_round_B57 post rw (nI m) (nI a) (nI b) (nI k3) (stI 0 (stF w (safeF w m) b 12 (2 ^ a &&& safeF w m)))) ∧ (¬ nI k3 = 0 → (0 < stI 0 (stF w (safeF w m) b 12 (2 ^ a &&& safeF w m)) → ∃ n72 : Nat, w_X9_round_B72 post rw (nI m) (nI a) (nI b) (nI k3) n72 (nI (safeF w m)) (stI 0 (stF w (safeF w m) b 12 (2 ^ a &&& safeF w m))) (0 : Int32)) ∧ (¬ 0 < stI 0 (stF w (safeF w m) b 12 (2 ^ a &&& safeF w m)) → w_X9_round_B57 post rw (nI m) (nI a) (nI b) (nI k3) (stI 0 (stF w (safeF w m) b 12 (2 ^ a &&& safeF w m)))))) → w_X9_round post rw (nI m) (nI a) (nI b) (nI k3) := by
          intro post hp
          unfold w_X9_round
          refine s9_isC (by omega) (y_1 (s9_isC (by omega) (y_1 (s9_in 0 1 (Nat.zero_le _) hk3 (by decide) (y_1 (r_safe hok hr (r_steps hok.1 hr (by omega) (by omega) hp)))))))
        refine ⟨fun z => ?_, fun z => ?_⟩
        · refine s_steps hok.1 hf (by omega) (by omega) (ref _ ⟨fun _ => ⟨fun _ => rfl, fun q => absurd z q⟩, fun q => absurd z q⟩)
        · unfold w_X6_firstCell
          refine s_steps hok.1 hf (by omega) (by omega) ?_
          have neg : ¬ 0 < stI 0 (stF w (safeF w m) b 12 (2 ^ a &&& safeF w m)) → (¬ nI k3 = 0) → w_X9_round (fun r' => -6 = r') rw (nI m) (nI a) (nI b) (nI k3) := fun q z => ref _ ⟨fun q => absurd q z, fun _ => ⟨fun q2 => absurd q2 q, fun _ => ⟨fun q => absurd q z, fun _ => rfl⟩⟩⟩
          cases hst : stF w (safeF w m) b 12 (2 ^ a &&& safeF w m) with
          | none =>
            rw [hst] at neg
            exact ⟨fun q => absurd q (by decide), fun q => neg q z⟩
          | some n0 =>
            cases n0 with
            | zero =>
              rw [hst] at neg
              exact ⟨fun q => absurd q (by decide), fun q => neg q z⟩
            | succ n =>
              have hn12 := stF_lt hst
              obtain ⟨c0, hc0, hc1, hc2⟩ := stF_next (by omega) (safe_lt w m) hst
              obtain ⟨c, hc, hmin⟩ := pk_least (fun c => c < 12 ∧ okCell w (safeF w m) b a n c) ⟨c0, hc0, hc1, hc2⟩
              have hlt : ∀ j, j < c → ¬ okCell w (safeF w m) b a n j := fun j hj q => hmin j hj ⟨by have := hc.1; omega, q⟩
              have e1 : stI 0 (some (n + 1)) = nI (n + 1) := by show nI (0 + (n + 1)) = _; rw [Nat.zero_add]
              rw [hst, e1] at ref
              rw [e1]
              refine ⟨fun _ => ?_, fun q => absurd (nI_lt (a := 0) (by omega) (by omega)) q⟩
              refine s_firstL hok.1 hf (by omega) (by omega) (by omega) c hc.1 hc.2 hlt ?_
              refine ref _ ⟨fun q => absurd q z, fun _ => ⟨fun _ => ?_, fun q => absurd (nI_lt (a := 0) (by omega) (by omega)) q⟩⟩
              exact r_firstL hok.1 hr (by omega) (by omega) (by omega) c hc.1 hc.2 hlt rfl
      · refine s8_out o3 (y_0 ?_)
        unfold w_X9_round
        exact s9_isC (by omega) (y_1 (s9_isC (by omega) (y_1 (s9_out o3 (y_0 rfl)))))
    · refine s_isCo o2 (y_0 ?_)
      unfold w_X9_round
      exact s9_isC (by omega) (y_1 (s9_isCo o2 (y_0 rfl)))
  · refine s_isCo o1 (y_0 ?_)
    unfold w_X9_round
    exact s9_isCo o1 (y_0 rfl)
