-- the town: way, round
def tnW (w : Nat → Nat) (f : Nat → Int32) : Prop := ∀ c, c < 12 → f c = nI (w c)
def tnOk (w : Nat → Nat) (m : Nat) : Prop := (∀ c, c < 12 → w c < 2 ^ 12) ∧ (∀ c d, c < 12 → d < 12 → (w c).testBit d = (w d).testBit c) ∧ m < 2 ^ 12
def RT (fw : Nat → Int32) (mk : Int32) (rw : Nat → Int32) (rmk : Int32) : Prop := ∃ (w : Nat → Nat) (m : Nat), tnOk w m ∧ tnW w fw ∧ tnW w rw ∧ mk = nI m ∧ rmk = nI m
def wyS (w : Nat → Nat) : Nat → Nat
  | 0 => 0
  | n + 1 => wyS w n + pop 12 (w n)
theorem s_countWays {post : Int32 → Prop} {w : Nat → Nat} {f : Nat → Int32} (hw : ∀ c, c < 12 → w c < 2 ^ 12) (h : tnW w f) (p : post (nI (wyS w 12) / 2)) : w_X6_countWays post f := by
  have key : ∀ n k, 12 - k < n → k ≤ 12 → w_X6_countWays_B4 post f n (nI (wyS w k)) (nI k) := by
    intro n
    induction n with
    | zero => intro k z; omega
    | succ n ih =>
      intro k z1 z2
      unfold w_X6_countWays_B4
      refine pk_le 12 k (fun z => ?_) (fun z => ⟨vp_in_nI z (by decide), ?_⟩)
      · rw [show k = 12 by omega]; exact p
      · rw [nI_clamp (by omega), h k z]
        have := hw k z
        refine s_bitCount (by omega) ?_
        dsimp only
        rw [nI_add, nI_1]
        exact ih (k + 1) (by omega) (by omega)
  exact ⟨13, key 13 0 (by omega) (by omega)⟩
theorem r_countWays {post : Int32 → (Nat → Int32) → Prop} {w : Nat → Nat} {f : Nat → Int32} {p1 p2 p3 : Int32} (hw : ∀ c, c < 12 → w c < 2 ^ 12) (h : tnW w f) (p : post (nI (wyS w 12) / 2) f) : ∃ n, w_X9_way_B95 post p1 p2 p3 n f 0 0 := by
  have key : ∀ n k, 12 - k < n → k ≤ 12 → w_X9_way_B95 post p1 p2 p3 n f (nI (wyS w k)) (nI k) := by
    intro n
    induction n with
    | zero => intro k z; omega
    | succ n ih =>
      intro k z1 z2
      unfold w_X9_way_B95
      refine pk_le 12 k (fun z => ?_) (fun z => ⟨vp_in_nI z (by decide), ?_⟩)
      · rw [show k = 12 by omega]; exact p
      · rw [nI_clamp (by omega), h k z]
        have := hw k z
        refine s_bits (by omega) ?_
        dsimp only
        rw [nI_add, nI_1]
        exact ih (k + 1) (by omega) (by omega)
  exact ⟨13, key 13 0 (by omega) (by omega)⟩
/-- two cells led together, or apart -/
def ldW (w : Nat → Nat) (a b x y : Nat) : Nat → Nat := nup (nup w a x) b y
theorem ldW_at {w : Nat → Nat} {a b x y c : Nat} (hab : a ≠ b) : ldW w a b x y c = if c = b then y else if c = a then x else w c := by
  unfold ldW
  by_cases e : c = b
  · rw [if_pos e, e, nup_s]
  · rw [if_neg e, nup_n e]
    by_cases e2 : c = a
    · rw [if_pos e2, e2, nup_s]
    · rw [if_neg e2, nup_n e2]
theorem ldW_tn {w : Nat → Nat} {f : Nat → Int32} {a b x y : Nat} (h : tnW w f) : tnW (ldW w a b x y) (upd (upd f a (nI x)) b (nI y)) := by
  intro c hc
  unfold ldW
  by_cases e : c = b
  · rw [e, nup_s, upd_s]
  · rw [nup_n e, upd_n e]
    by_cases e2 : c = a
    · rw [e2, nup_s, upd_s]
    · rw [nup_n e2, upd_n e2]; exact h c hc
theorem ldW_ok {w : Nat → Nat} {m a b x y : Nat} {v : Bool} (h : tnOk w m) (ha : a < 12) (hb : b < 12) (hab : a ≠ b) (hx : x < 2 ^ 12) (hy : y < 2 ^ 12) (ex : ∀ d, x.testBit d = if d = b then v else (w a).testBit d) (ey : ∀ d, y.testBit d = if d = a then v else (w b).testBit d) : tnOk (ldW w a b x y) m := by
  obtain ⟨h1, h2, h3⟩ := h
  refine ⟨fun c hc => ?_, fun c d hc hd => ?_, h3⟩
  · rw [ldW_at hab]
    split
    · exact hy
    · split
      · exact hx
      · exact h1 c hc
  · rw [ldW_at hab, ldW_at hab]
    by_cases c1 : c = b
    · subst c1
      rw [if_pos rfl, ey]
      by_cases d1 : d = c
      · subst d1
        rw [if_pos rfl, ey]
      · rw [if_neg d1]
        by_cases d2 : d = a
        · subst d2
          rw [if_pos rfl, if_pos rfl, ex, if_pos rfl]
        · rw [if_neg d2, if_neg d2, h2 c d hc hd]
    · rw [if_neg c1]
      by_cases c2 : c = a
      · subst c2
        rw [if_pos rfl, ex]
        by_cases d1 : d = b
        · subst d1
          rw [if_pos rfl, if_pos rfl, ey, if_pos rfl]
        · rw [if_neg d1, if_neg d1]
          by_cases d2 : d = c
          · subst d2
            rw [if_pos rfl, ex, if_neg d1]
          · rw [if_neg d2, h2 c d hc hd]
      · rw [if_neg c2]
        by_cases d1 : d = b
        · subst d1
          rw [if_pos rfl, ey, if_neg c2, h2 c d hc hd]
        · rw [if_neg d1]
          by_cases d2 : d = a
          · subst d2
            rw [if_pos rfl, ex, if_neg c1, h2 c d hc hd]
          · rw [if_neg d2, h2 c d hc hd]
theorem or_pow_bit (n b d : Nat) : (n ||| 2 ^ b).testBit d = if d = b then true else n.testBit d := by
  rw [Nat.testBit_or, y_pow_bit]
  by_cases e : d = b
  · rw [if_pos e, e]; simp
  · rw [if_neg e]
    have : ¬ b = d := fun z => e z.symm
    simp [this]
theorem nd_pow_bit (n b d : Nat) : (nd n (2 ^ b)).testBit d = if d = b then false else n.testBit d := by
  rw [nd_bit, y_pow_bit]
  by_cases e : d = b
  · rw [if_pos e, e]; simp
  · rw [if_neg e]
    have : ¬ b = d := fun z => e z.symm
    simp [this]
theorem e_way {fw rw : Nat → Int32} {mk rmk p1 p2 p3 : Int32} (h : RT fw mk rw rmk) : w_X8_way (fun r fw' => w_X9_way (fun r' rw' => r = r' ∧ RT fw' mk rw' rmk) rw p1 p2 p3) fw p1 p2 p3 := by
  have h0 := h
  obtain ⟨w, m, hok, hf, hr, rfl, rfl⟩ := h
  unfold w_X8_way
  rcases y_rng0 p1 11 with ⟨a, ha, rfl⟩ | o1
  · refine s_isC (by omega) (y_1 ?_)
    rcases y_rng0 p2 11 with ⟨b, hb, rfl⟩ | o2
    · refine s_isC (by omega) (y_1 (pk_eq a b (fun z => ?_) (fun hab => ?_)))
      · unfold w_X9_way
        refine s9_isC (by omega) (y_1 (s9_isC (by omega) (y_1 (pk_eq a b (fun _ => ⟨rfl, h0⟩) (fun q => absurd z q)))))
      · unfold w_X6_lead
        refine s_isC (by omega) (y_1 (s_isC (by omega) (y_1 ?_)))
        have wa := hok.1 a (by omega)
        have wb := hok.1 b (by omega)
        have pa : 2 ^ a < 2 ^ 12 := y_pow_lt (by omega)
        have pb : 2 ^ b < 2 ^ 12 := y_pow_lt (by omega)
        have ca : (nI a).toNatClampNeg = a := nI_clamp (by omega)
        have cb : (nI b).toNatClampNeg = b := nI_clamp (by omega)
        have ia : vp_in (nI a) 12 := vp_in_nI (by omega) (by decide)
        have ib : vp_in (nI b) 12 := vp_in_nI (by omega) (by decide)
        have ref : ∀ post : Int32 → (Nat → Int32) → Prop, (∀ g, tnW (ldW w a b (if p3 = 0 then nd (w a) (2 ^ b) else w a ||| 2 ^ b) (if p3 = 0 then nd (w b) (2 ^ a) else w b ||| 2 ^ a)) g → (∃ n95, w_X9_way_B95 post (nI a) (nI b) p3 n95 g 0 0)) → w_X9_way post rw (nI a) (nI b) p3 := by
          intro post hp
          unfold w_X9_way
          refine s9_isC (by omega) (y_1 (s9_isC (by omega) (y_1 ⟨fun z => absurd ((nI_eq (by omega) (by omega)).mp z) hab, fun _ => ⟨ia, ia, ib, ib, ia, ?_⟩⟩)))
          rw [ca, cb, y_sh1 a (by omega), y_sh1 b (by omega), hr a (by omega), y_nd, upd_n (Ne.symm hab), hr b (by omega), y_nd, upd_n hab, upd_s]
          unfold w_X9_way_B67 w_X9_way_B87
          have fin : ∀ x y : Nat, nd (w a) (2 ^ b) ||| x = (if p3 = 0 then nd (w a) (2 ^ b) else w a ||| 2 ^ b) → nd (w b) (2 ^ a) ||| y = (if p3 = 0 then nd (w b) (2 ^ a) else w b ||| 2 ^ a) → tnW (ldW w a b (if p3 = 0 then nd (w a) (2 ^ b) else w a ||| 2 ^ b) (if p3 = 0 then nd (w b) (2 ^ a) else w b ||| 2 ^ a)) (upd (upd (upd (upd rw a (nI (nd (w a) (2 ^ b)))) b (nI (nd (w b) (2 ^ a)))) a (nI (nd (w a) (2 ^ b)) ||| nI x)) b (nI (nd (w b) (2 ^ a)) ||| nI y)) := by
            intro x y ex ey c hc
            rw [ldW_at hab, y_or, y_or, ex, ey]
            by_cases e : c = b
            · rw [if_pos e, e, upd_s]
            · rw [if_neg e, upd_n e]
              by_cases e2 : c = a
              · rw [if_pos e2, e2, upd_s]
              · rw [if_neg e2, upd_n e2, upd_n e, upd_n e2]; exact hr c hc
          rw [ca, cb]
          have e2 : ∀ z, upd (upd (upd rw a (nI (nd (w a) (2 ^ b)))) b (nI (nd (w b) (2 ^ a)))) a z b = nI (nd (w b) (2 ^ a)) := by
            intro z; rw [upd_n (Ne.symm hab), upd_s]
          refine ⟨fun z => ⟨ia, ib, fun _ => ⟨ib, ?_⟩, fun q => absurd z q⟩, fun z => ⟨ia, ib, fun q => absurd q z, fun _ => ⟨ib, ?_⟩⟩⟩
          · rw [e2]
            exact hp _ (fin 0 0 (by rw [if_pos z, Nat.or_zero]) (by rw [if_pos z, Nat.or_zero]))
          · rw [e2, y_sh1 a (by omega)]
            exact hp _ (fin (2 ^ b) (2 ^ a) (by rw [if_neg z, nd_or]) (by rw [if_neg z, nd_or]))
        rw [ca, hf a (by omega), y_sh1 b (by omega)]
        unfold w_X6_lead_B49
        rw [ca, cb, y_sh1 a (by omega)]
        refine ⟨fun z => ⟨ia, ia, fun _ => ⟨ib, ib, ?_⟩, fun q => absurd z q⟩, fun z => ⟨ia, ia, fun q => absurd q z, fun _ => ⟨ib, ib, ?_⟩⟩⟩
        · rw [upd_n (Ne.symm hab), hf b (by omega), y_nd, y_nd]
          have ok2 : tnOk (ldW w a b (nd (w a) (2 ^ b)) (nd (w b) (2 ^ a))) m := ldW_ok (v := false) hok (by omega) (by omega) hab (y_nd_lt wa) (y_nd_lt wb) (nd_pow_bit _ _) (nd_pow_bit _ _)
          refine s_countWays ok2.1 (ldW_tn hf) (ref _ (fun g hg => ?_))
          rw [if_pos z, if_pos z] at hg
          exact r_countWays ok2.1 hg ⟨rfl, _, m, ok2, ldW_tn hf, hg, rfl, rfl⟩
        · rw [upd_n (Ne.symm hab), hf b (by omega), y_or, y_or]
          have ok2 : tnOk (ldW w a b (w a ||| 2 ^ b) (w b ||| 2 ^ a)) m := ldW_ok (v := true) hok (by omega) (by omega) hab (y_or_lt wa pb) (y_or_lt wb pa) (or_pow_bit _ _) (or_pow_bit _ _)
          refine s_countWays ok2.1 (ldW_tn hf) (ref _ (fun g hg => ?_))
          rw [if_neg z, if_neg z] at hg
          exact r_countWays ok2.1 hg ⟨rfl, _, m, ok2, ldW_tn hf, hg, rfl, rfl⟩
    · refine s_isCo o2 (y_0 ?_)
      unfold w_X9_way
      exact s9_isC (by omega) (y_1 (s9_isCo o2 (y_0 ⟨rfl, h0⟩)))
  · refine s_isCo o1 (y_0 ?_)
    unfold w_X9_way
    exact s9_isCo o1 (y_0 ⟨rfl, h0⟩)
/-- the cells beside some of a set -/
def nbF (w : Nat → Nat) (S : Nat) : Nat → Nat
  | 0 => 0
  | k + 1 => nbF w S k ||| (if S.testBit k = true then w k else 0)
theorem nbF_bit (w : Nat → Nat) (S i : Nat) : ∀ k, (nbF w S k).testBit i = true ↔ ∃ c, c < k ∧ S.testBit c = true ∧ (w c).testBit i = true := by
  intro k
  induction k with
  | zero => rw [nbF]; simp
  | succ k ih =>
    rw [nbF, Nat.testBit_or, Bool.or_eq_true, ih]
    constructor
    · rintro (⟨c, h1, h2⟩ | h)
      · exact ⟨c, by omega, h2⟩
      · by_cases e : S.testBit k = true
        · rw [if_pos e] at h; exact ⟨k, by omega, e, h⟩
        · rw [if_neg e, Nat.zero_testBit] at h; cases h
    · rintro ⟨c, h1, h2, h3⟩
      by_cases e : c = k
      · subst e; right; rw [if_pos h2]; exact h3
      · left; exact ⟨c, by omega, h2, h3⟩
theorem nbF_lt {w : Nat → Nat} {S : Nat} (hw : ∀ c, c < 12 → w c < 2 ^ 12) : ∀ k, k ≤ 12 → nbF w S k < 2 ^ 12 := by
  intro k
  induction k with
  | zero => intro _; exact Nat.two_pow_pos 12
  | succ k ih =>
    intro hk
    rw [nbF]
    refine y_or_lt (ih (by omega)) ?_
    split
    · exact hw k (by omega)
    · exact Nat.two_pow_pos 12
theorem s_beside {post : Int32 → Prop} {w : Nat → Nat} {f : Nat → Int32} {S : Nat} (hS : S < 2 ^ 12) (h : tnW w f) (p : post (nI (nbF w S 12))) : w_X6_besideAny post f (nI S) := by
  have key : ∀ n k, 12 - k < n → k ≤ 12 → w_X6_besideAny_B4 post f (nI S) n (nI (nbF w S k)) (nI k) := by
    intro n
    induction n with
    | zero => intro k z; omega
    | succ n ih =>
      intro k z1 z2
      unfold w_X6_besideAny_B4
      refine pk_le 12 k (fun z => ?_) (fun z => ?_)
      · rw [show k = 12 by omega]; exact p
      · refine y_pb (by omega) (by omega) (fun hb => ⟨vp_in_nI z (by decide), ?_⟩) (fun hb => ?_)
        · intro y ey
          rw [nI_clamp (by omega), h k z, y_or] at ey
          rw [ey, nI_1]
          have e : nbF w S k ||| w k = nbF w S (k + 1) := by rw [nbF, if_pos hb]
          rw [e]
          exact ih (k + 1) (by omega) (by omega)
        · dsimp only
          rw [nI_1]
          have e : nbF w S k = nbF w S (k + 1) := by rw [nbF, if_neg (by rw [hb]; decide), Nat.or_zero]
          rw [e]
          exact ih (k + 1) (by omega) (by omega)
  exact ⟨13, key 13 0 (by omega) (by omega)⟩
def frF (w : Nat → Nat) (m : Nat) : Nat → Nat
  | 0 => 0
  | k + 1 => frF w m k ||| (if m.testBit k = true ∨ w k &&& m ≠ 0 then 0 else 2 ^ k)
theorem frF_bit (w : Nat → Nat) (m i : Nat) : ∀ k, (frF w m k).testBit i = true ↔ i < k ∧ m.testBit i = false ∧ w i &&& m = 0 := by
  intro k
  induction k with
  | zero => rw [frF]; simp
  | succ k ih =>
    rw [frF, Nat.testBit_or, Bool.or_eq_true, ih]
    constructor
    · rintro (⟨h1, h2⟩ | h)
      · exact ⟨by omega, h2⟩
      · by_cases e : m.testBit k = true ∨ w k &&& m ≠ 0
        · rw [if_pos e, Nat.zero_testBit] at h; cases h
        · rw [if_neg e, y_pow_bit] at h
          have ek : k = i := by simpa using h
          subst ek
          refine ⟨by omega, ?_, ?_⟩
          · cases hh : m.testBit k
            · rfl
            · exact absurd (Or.inl hh) e
          · exact Decidable.byContradiction fun q => e (Or.inr q)
    · rintro ⟨h1, h2, h3⟩
      by_cases ek : i = k
      · subst ek
        right
        rw [if_neg (by rw [h2, h3]; simp), y_pow_bit]; simp
      · left; exact ⟨by omega, h2, h3⟩
theorem and_zero_bit {a b : Nat} : a &&& b = 0 ↔ ∀ i, a.testBit i = true → b.testBit i = false := by
  constructor
  · intro h i hi
    have := congrArg (fun z => z.testBit i) h
    simp only [Nat.testBit_and, Nat.zero_testBit, hi, Bool.true_and] at this
    exact this
  · intro h
    apply Nat.eq_of_testBit_eq
    intro i
    rw [Nat.testBit_and, Nat.zero_testBit]
    cases ha : a.testBit i
    · rfl
    · rw [h i ha]; rfl
def safeF (w : Nat → Nat) (m : Nat) : Nat := nd 4095 (m ||| nbF w m 12)
theorem b4095 (i : Nat) : (4095 : Nat).testBit i = decide (i < 12) := Nat.testBit_two_pow_sub_one 12 i
theorem safe_fr {w : Nat → Nat} {m : Nat} (h : tnOk w m) : frF w m 12 = safeF w m := by
  obtain ⟨h1, h2, h3⟩ := h
  apply Nat.eq_of_testBit_eq
  intro i
  rw [Bool.eq_iff_iff, frF_bit]
  unfold safeF
  rw [nd_bit, b4095, Nat.testBit_or]
  have hn := nbF_bit w m i 12
  by_cases hi : i < 12
  · cases hm : m.testBit i
    · simp only [hi, true_and, decide_true, Bool.true_and, Bool.false_or, Bool.not_eq_true', and_zero_bit]
      constructor
      · intro q
        cases hz : (nbF w m 12).testBit i
        · rfl
        · obtain ⟨c, hc, hc2, hc3⟩ := hn.mp hz
          rw [h2 c i hc hi] at hc3
          rw [q c hc3] at hc2; cases hc2
      · intro q j hj
        have hj12 : j < 12 := by
          rcases Nat.lt_or_ge j 12 with z | z
          · exact z
          · rw [y_bit_hi (h1 i hi) z] at hj; cases hj
        cases hmj : m.testBit j
        · rfl
        · have := hn.mpr ⟨j, hj12, hmj, by rw [h2 j i hj12 hi]; exact hj⟩
          rw [q] at this; cases this
    · simp
  · simp [hi]
theorem safe_lt (w : Nat → Nat) (m : Nat) : safeF w m < 2 ^ 12 := y_nd_lt (by decide)
theorem s_safe {post : Int32 → Prop} {w : Nat → Nat} {f : Nat → Int32} {m : Nat} (hS : m < 2 ^ 12) (h : tnW w f) (p : post (nI (safeF w m))) : w_X6_safeCells post f (nI m) := by
  unfold w_X6_safeCells
  refine s_beside hS h ?_
  rw [y_or, show (4095 : Int32) = nI 4095 from rfl, y_nd]
  exact p
theorem r_safe {post : Int32 → Prop} {w : Nat → Nat} {f : Nat → Int32} {m : Nat} (hok : tnOk w m) (h : tnW w f) (p : post (nI (safeF w m))) : w_X9_freeCells post f (nI m) := by
  have h3 := hok.2.2
  have key : ∀ n k, 12 - k < n → k ≤ 12 → w_X9_freeCells_B4 post f (nI m) n (nI (frF w m k)) (nI k) := by
    intro n
    induction n with
    | zero => intro k z; omega
    | succ n ih =>
      intro k z1 z2
      unfold w_X9_freeCells_B4
      refine pk_le 12 k (fun z => ?_) (fun z => ?_)
      · rw [show k = 12 by omega, safe_fr hok]; exact p
      · have hwk := hok.1 k z
        have hand : w k &&& m < 2 ^ 12 := y_and_lt hwk
        have h0 : ∀ q : m.testBit k = true ∨ w k &&& m ≠ 0, w_X9_freeCells_B30 post f (nI m) (fun x2 x3 => w_X9_freeCells_B4 post f (nI m) n x2 x3) (nI k) (nI (frF w m k)) := by
          intro q
          unfold w_X9_freeCells_B30 w_X9_freeCells_B37
          dsimp only
          rw [show (0 : Int32) = nI 0 from rfl, y_or, nI_1]
          have e : frF w m k ||| 0 = frF w m (k + 1) := by rw [frF, if_pos q]
          rw [e]
          exact ih (k + 1) (by omega) (by omega)
        refine s9_has (by omega) (by omega) (y_01 (fun hb => ⟨vp_in_nI z (by decide), ?_⟩) (fun hb => h0 (Or.inl hb)))
        rw [nI_clamp (by omega), h k z, y_and]
        refine pk_eq (w k &&& m) 0 (fun e0 => ?_) (fun e0 => h0 (Or.inr e0))
        unfold w_X9_freeCells_B37
        dsimp only
        rw [y_sh1 k (by omega), y_or, nI_1]
        have e : frF w m k ||| 2 ^ k = frF w m (k + 1) := by
          rw [frF, if_neg (fun q => q.elim hb (fun q => q e0))]
        rw [e]
        exact ih (k + 1) (by omega) (by omega)
  exact ⟨13, key 13 0 (by omega) (by omega)⟩
