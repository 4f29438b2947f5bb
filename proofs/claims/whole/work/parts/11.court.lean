-- the court: what both sides' cells hold, and what the small methods come to
theorem s8_in {post : Int32 → Prop} {k : Nat} (a b : Nat) (h1 : a ≤ k) (h2 : k ≤ b) (hb : b < 2 ^ 31) (p : post 1) : w_X8_within post (nI k) (nI a) (nI b) := by
  unfold w_X8_within
  exact pk_lt k a (fun h => absurd h (by omega)) (fun _ => pk_lt b k (fun h => absurd h (by omega)) (fun _ => p))
theorem s8_out {post : Int32 → Prop} {x lo hi : Int32} (h : x < lo ∨ hi < x) (p : post 0) : w_X8_within post x lo hi := by
  unfold w_X8_within w_X8_within_B14
  refine ⟨fun _ => p, fun h1 => ⟨fun _ => p, fun h2 => ?_⟩⟩
  rcases h with h | h
  · exact absurd h h1
  · exact absurd h h2
theorem s9_in {post : Int32 → Prop} {k : Nat} (a b : Nat) (h1 : a ≤ k) (h2 : k ≤ b) (hb : b < 2 ^ 31) (p : post 1) : w_X9_in post (nI k) (nI a) (nI b) := by
  unfold w_X9_in
  exact pk_lt k a (fun h => absurd h (by omega)) (fun _ => pk_lt b k (fun h => absurd h (by omega)) (fun _ => p))
theorem s9_out {post : Int32 → Prop} {x lo hi : Int32} (h : x < lo ∨ hi < x) (p : post 0) : w_X9_in post x lo hi := by
  unfold w_X9_in w_X9_in_B14
  refine ⟨fun _ => p, fun h1 => ⟨fun _ => p, fun h2 => ?_⟩⟩
  rcases h with h | h
  · exact absurd h h1
  · exact absurd h h2
theorem y_ge {a : Nat} {x : Int32} (ha : a + 1 < 2 ^ 31) (h : nI a < x) : nI (a + 1) ≤ x := by
  rw [Int32.lt_iff_toInt_lt, nI_toInt (by omega)] at h
  rw [Int32.le_iff_toInt_le, nI_toInt (by omega)]
  omega
theorem s_isW {post : Int32 → Prop} {k : Nat} (h : k < 8) (p : post 1) : w_X8_isWitness post (nI k) := by
  unfold w_X8_isWitness
  exact pk_lt k 0 (fun z => absurd z (by omega)) (fun _ => pk_le 8 k (fun z => absurd z (by omega)) (fun _ => p))
theorem s_isWo {post : Int32 → Prop} {x : Int32} (h : x < nI 0 ∨ nI 7 < x) (p : post 0) : w_X8_isWitness post x := by
  unfold w_X8_isWitness w_X8_isWitness_B14
  refine ⟨fun _ => p, fun h1 => ⟨fun _ => p, fun h2 => ?_⟩⟩
  rcases h with h | h
  · exact absurd h h1
  · exact absurd (y_ge (by decide) h) h2
theorem s_isP {post : Int32 → Prop} {k : Nat} (h : k ≤ 15) (p : post 1) : w_X8_isPlace post (nI k) := by
  unfold w_X8_isPlace
  exact pk_lt k 0 (fun z => absurd z (by omega)) (fun _ => pk_le 16 k (fun z => absurd z (by omega)) (fun _ => p))
theorem s_isPo {post : Int32 → Prop} {x : Int32} (h : x < nI 0 ∨ nI 15 < x) (p : post 0) : w_X8_isPlace post x := by
  unfold w_X8_isPlace w_X8_isPlace_B14
  refine ⟨fun _ => p, fun h1 => ⟨fun _ => p, fun h2 => ?_⟩⟩
  rcases h with h | h
  · exact absurd h h1
  · exact absurd (y_ge (by decide) h) h2
theorem s_isC {post : Int32 → Prop} {k : Nat} (h : k < 12) (p : post 1) : w_X8_isCell post (nI k) := by
  unfold w_X8_isCell
  exact pk_lt k 0 (fun z => absurd z (by omega)) (fun _ => pk_le 12 k (fun z => absurd z (by omega)) (fun _ => p))
theorem s_isCo {post : Int32 → Prop} {x : Int32} (h : x < nI 0 ∨ nI 11 < x) (p : post 0) : w_X8_isCell post x := by
  unfold w_X8_isCell w_X8_isCell_B14
  refine ⟨fun _ => p, fun h1 => ⟨fun _ => p, fun h2 => ?_⟩⟩
  rcases h with h | h
  · exact absurd h h1
  · exact absurd (y_ge (by decide) h) h2
theorem s9_isC {post : Int32 → Prop} {k : Nat} (h : k < 12) (p : post 1) : w_X9_isCell post (nI k) := by
  unfold w_X9_isCell
  exact s9_in 0 11 (Nat.zero_le _) (by omega) (by decide) p
theorem s9_isCo {post : Int32 → Prop} {x : Int32} (h : x < nI 0 ∨ nI 11 < x) (p : post 0) : w_X9_isCell post x := by
  unfold w_X9_isCell
  exact s9_out h p
theorem s9_has {post : Int32 → Prop} {n k : Nat} (hn : n < 2 ^ 31) (hk : k < 31) (p : post (if n.testBit k = true then 1 else 0)) : w_X9_has post (nI n) (nI k) := by
  unfold w_X9_has
  refine y_pb hn hk (fun h => ?_) (fun h => ?_)
  · rw [if_pos h] at p; exact p
  · rw [if_neg (by rw [h]; decide)] at p; exact p
theorem s_has {post : Int32 → Prop} {n k : Nat} (hn : n < 2 ^ 31) (hk : k < 8) (p : post (if n.testBit k = true then 1 else 0)) : w_X1_has post (nI n) (nI k) := by
  unfold w_X1_has
  refine s_isW hk (y_1 ?_)
  refine y_pb hn (by omega) (fun h => ?_) (fun h => ?_)
  · rw [if_pos h] at p; exact p
  · rw [if_neg (by rw [h]; decide)] at p; exact p
theorem s_haso {post : Int32 → Prop} {pr x : Int32} (h : x < nI 0 ∨ nI 7 < x) (p : post 0) : w_X1_has post pr x := by
  unfold w_X1_has w_X1_has_B23
  exact s_isWo h (y_0 p)
-- the court's value
abbrev Ct : Type := (Nat → Nat) × Nat × Nat × Nat × Nat
abbrev cC (c : Ct) : Nat → Nat := c.1
abbrev cP (c : Ct) : Nat := c.2.1
abbrev cL (c : Ct) : Nat := c.2.2.1
abbrev cH (c : Ct) : Nat := c.2.2.2.1
abbrev cT (c : Ct) : Nat := c.2.2.2.2
def okC (c : Ct) : Prop := (∀ k, k < 8 → cC c k ≤ 99) ∧ cP c < 256 ∧ cL c < 256 ∧ cH c ≤ 15 ∧ cT c ≤ 99
def clC (c : Ct) (cr : Nat → Int32) (pr ly hi ho : Int32) : Prop := pr = nI (cP c) ∧ ly = nI (cL c) ∧ hi = nI (cH c) ∧ ho = nI (cT c) ∧ (∀ k, k < 8 → (cP c).testBit k = true → cr k = nI (cC c k)) ∧ (∀ k, k < 8 → ∃ n, n ≤ 99 ∧ cr k = nI n)
def clM (c : Ct) (nw : Nat → Int32) : Prop := (∀ k, k < 8 → nw k = nI (cC c k)) ∧ nw 8 = nI (cP c) ∧ nw 9 = nI (cL c) ∧ nw 10 = nI (cH c) ∧ nw 11 = nI (cT c)
def plC (P : Nat → Nat) (pl : Nat → Int32) : Prop := ∀ k, k < 8 → pl k = nI (P k) ∧ P k ≤ 15
def dist (P : Nat → Nat) (c : Ct) (k : Nat) : Nat := (P k - cH c) + (cH c - P k)
def lossG (po sp d : Nat) (l : Bool) : Nat := if 3 < d then 0 else po * (4 - d) + (if l then sp else 0)
def loss (P : Nat → Nat) (po sp : Nat) (c : Ct) (k : Nat) : Nat := lossG po sp (dist P c k) ((cL c).testBit k)
def off : Nat → Ct → Nat
  | 0, _ => 0
  | n + 1, c => if (cP c).testBit n = true ∧ cC c n = 0 then off n c ||| 2 ^ n else off n c
theorem off_lt (n : Nat) (c : Ct) : off n c < 2 ^ n := by
  induction n with
  | zero => show 0 < 1; decide
  | succ n ih =>
    rw [off]
    have h1 : off n c < 2 ^ (n + 1) := Nat.lt_of_lt_of_le ih (Nat.pow_le_pow_right (by decide) (Nat.le_succ n))
    split
    · exact y_or_lt h1 (y_pow_lt (Nat.lt_succ_self n))
    · exact h1
theorem lossG_le {po sp d : Nat} {l : Bool} (h1 : po ≤ 9) (h2 : sp ≤ 9) : lossG po sp d l ≤ 45 := by
  unfold lossG
  have h3 : po * (4 - d) ≤ 9 * 4 := Nat.mul_le_mul h1 (by omega)
  split
  · omega
  · split <;> omega
theorem y_abs {a b : Nat} (ha : a < 2 ^ 30) (hb : b < 2 ^ 30) : (if 0 ≤ (nI a - nI b) then (nI a - nI b) else 0 - (nI a - nI b)) = nI ((a - b) + (b - a)) := by
  rcases Nat.lt_or_ge a b with h | h
  · have h1 := pk_sneg hb h
    rw [if_neg (by rw [Int32.not_le]; exact h1), Int32.zero_sub, Int32.neg_sub, pk_sub (by omega)]
    congr 1
    omega
  · rw [pk_sub h, if_pos (nI_pos' (by omega))]
    congr 1
    omega
theorem y_max0 {a b : Nat} (ha : a < 2 ^ 30) (hb : b < 2 ^ 30) : (if (0 : Int32) < (nI a - nI b) then (nI a - nI b) else (0 : Int32)) = nI (a - b) := by
  rcases Nat.lt_or_ge a b with h | h
  · have h1 := pk_sneg hb h
    rw [if_neg (fun h2 => by
      rw [Int32.lt_iff_toInt_lt] at h1 h2
      omega), show a - b = 0 by omega]
    rfl
  · rw [pk_sub h]
    by_cases h2 : a - b = 0
    · rw [h2]; rfl
    · rw [if_pos]
      exact nI_lt (a := 0) (by omega) (by omega)
theorem s_place {post : Int32 → Prop} {P : Nat → Nat} {pl : Nat → Int32} {k : Nat} (hk : k < 8) (hp : plC P pl) (p : post (nI (P k))) : w_X1_placeOf post pl (nI k) := by
  unfold w_X1_placeOf
  refine s_isW hk (y_1 ⟨vp_in_nI hk (by decide), ?_⟩)
  rw [nI_clamp (by omega), (hp k hk).1]
  exact p
theorem s_placesOff {post : Int32 → Prop} {P : Nat → Nat} {c : Ct} {pl : Nat → Int32} {k : Nat} (hk : k < 8) (hp : plC P pl) (hc : okC c) (p : post (nI (dist P c k))) : w_X1_placesOff post pl (nI (cH c)) (nI k) := by
  unfold w_X1_placesOff
  refine s_isW hk (y_1 ⟨vp_in_nI hk (by decide), ?_⟩)
  have h1 := (hp k hk).2
  have h2 := hc.2.2.2.1
  rw [nI_clamp (by omega), (hp k hk).1, y_abs (by omega) (by omega)]
  exact p
theorem s_liar {post : Int32 → Prop} {m k : Nat} (hm : m < 2 ^ 31) (hk : k < 8) (p : post (if m.testBit k = true then 1 else 0)) : w_X1_isLiar post (nI m) (nI k) := by
  unfold w_X1_isLiar w_X1_isLiar_B23
  refine s_isW hk (y_1 ?_)
  refine y_pb hm (by omega) (fun h => ?_) (fun h => ?_)
  · rw [if_pos h] at p; exact p
  · rw [if_neg (by rw [h]; decide)] at p; exact p
theorem s_lossAt {post : Int32 → Prop} {d po sp : Nat} {b : Bool} (hd : d ≤ 30) (hp : po ≤ 9) (hs : sp ≤ 9) (p : post (nI (lossG po sp d b))) : w_X8_lossAt post (nI d) (if b = true then 1 else 0) (nI po) (nI sp) := by
  unfold w_X8_lossAt
  unfold lossG at p
  refine pk_le d 3 (fun h => ?_) (fun h => ?_)
  · rw [if_neg (by omega)] at p
    have e : nI po * ((4 : Int32) - nI d) = nI (po * (4 - d)) := by
      rw [show (4 : Int32) = nI 4 from rfl, pk_sub (by omega), pk_mul]
    rw [e]
    refine y_01 (fun h2 => ?_) (fun h2 => ?_)
    · rw [if_neg h2] at p
      rw [show (0 : Int32) = nI 0 from rfl, nI_add]; exact p
    · rw [if_pos h2] at p
      rw [nI_add]; exact p
  · rw [if_pos h] at p; exact p
theorem s_loss {post : Int32 → Prop} {P : Nat → Nat} {c : Ct} {pl : Nat → Int32} {k po sp : Nat} (hk : k < 8) (hp : plC P pl) (hc : okC c) (h1 : po ≤ 9) (h2 : sp ≤ 9) (p : post (nI (loss P po sp c k))) : w_X1_lossInAnHour post pl (nI (cL c)) (nI (cH c)) (nI po) (nI sp) (nI k) := by
  unfold w_X1_lossInAnHour
  refine s_placesOff hk hp hc ?_
  have := hc.2.2.1
  refine s_liar (by omega) hk ?_
  refine s_lossAt ?_ h1 h2 p
  have := (hp k hk).2
  have := hc.2.2.2.1
  unfold dist
  omega
theorem s_spoil {post : (Nat → Int32) → Prop} {cr : Nat → Int32} {k a b : Nat} (hk : k < 8) (ha : a ≤ 99) (hb : b < 2 ^ 20) (he : cr k = nI a) (p : post (upd cr k (nI (a - b)))) : w_X1_spoil post cr (nI k) (nI b) := by
  unfold w_X1_spoil
  refine s_isW hk (y_1 ⟨vp_in_nI hk (by decide), vp_in_nI hk (by decide), ?_⟩)
  rw [nI_clamp (by omega), he, y_max0 (by omega) (by omega)]
  exact p
theorem s_offOnes {post : Int32 → Prop} {c : Ct} {cr : Nat → Int32} {pr ly hi ho : Int32} (hc : okC c) (h : clC c cr pr ly hi ho) (p : post (nI (off 8 c))) : w_X1_offOnes post cr pr := by
  obtain ⟨rfl, -, -, -, h5, -⟩ := h
  have hpl := hc.2.1
  have key : ∀ n k, 8 - k < n → k ≤ 8 → w_X1_offOnes_B4 post cr (nI (cP c)) n (nI (off k c)) (nI k) := by
    intro n
    induction n with
    | zero => intro k h1; omega
    | succ n ih =>
      intro k h1 h2
      unfold w_X1_offOnes_B4
      refine pk_le 8 k (fun h => ?_) (fun h => ?_)
      · rw [show k = 8 by omega]; exact p
      · refine s_has (by omega) h (y_01 (fun hb => ?_) (fun hb => ?_))
        · rw [nI_1]
          have e : off k c = off (k + 1) c := by rw [off, if_neg (fun z => hb z.1)]
          show w_X1_offOnes_B4 post cr (nI (cP c)) n (nI (off k c)) (nI (k + 1))
          rw [e]; exact ih (k + 1) (by omega) (by omega)
        · refine ⟨vp_in_nI h (by decide), ?_⟩
          rw [nI_clamp (by omega), h5 k h hb]
          have := hc.1 k h
          refine pk_eq (cC c k) 0 (fun h0 => ?_) (fun h0 => ?_)
          · intro y ey
            rw [ey, y_sh1 k (by omega), y_or, nI_1]
            have e : off k c ||| 2 ^ k = off (k + 1) c := by rw [off, if_pos ⟨hb, h0⟩]
            show w_X1_offOnes_B4 post cr (nI (cP c)) n (nI (off k c ||| 2 ^ k)) (nI (k + 1))
            rw [e]; exact ih (k + 1) (by omega) (by omega)
          · rw [nI_1]
            have e : off k c = off (k + 1) c := by rw [off, if_neg (fun z => h0 z.2)]
            show w_X1_offOnes_B4 post cr (nI (cP c)) n (nI (off k c)) (nI (k + 1))
            rw [e]; exact ih (k + 1) (by omega) (by omega)
  exact ⟨9, key 9 0 (by omega) (by omega)⟩
def hourC (P : Nat → Nat) (po sp : Nat) (c : Ct) : Ct := (fun k => if (cP c).testBit k = true then cC c k - loss P po sp c k else cC c k, cP c, cL c, cH c, cT c + 1)
theorem upd_s (f : Nat → Int32) (k : Nat) (x : Int32) : upd f k x k = x := pk_us
theorem upd_n {f : Nat → Int32} {k j : Nat} {x : Int32} (h : j ≠ k) : upd f k x j = f j := pk_un h
theorem s_passHour {post : (Nat → Int32) → Int32 → Prop} {P : Nat → Nat} {c : Ct} {pl cr : Nat → Int32} {pr ly hi ho : Int32} {po sp : Nat} (hp : plC P pl) (hc : okC c) (h : clC c cr pr ly hi ho) (h1 : po ≤ 9) (h2 : sp ≤ 9) (p : ∀ cr', clC (hourC P po sp c) cr' pr ly hi (nI (cT c + 1)) → post cr' (nI (cT c + 1))) : w_X1_passHour post pl cr ly hi (nI po) (nI sp) ho := by
  obtain ⟨rfl, rfl, rfl, rfl, h5, h6⟩ := h
  have key : ∀ n k (cr' : Nat → Int32), 8 - k < n → k ≤ 8 → (∀ j, j < 8 → (cP c).testBit j = true → cr' j = nI (if j < k then cC c j - loss P po sp c j else cC c j)) → (∀ j, j < 8 → ∃ m, m ≤ 99 ∧ cr' j = nI m) → w_X1_passHour_B2 post pl (nI (cL c)) (nI (cH c)) (nI po) (nI sp) n cr' (nI (cT c)) (nI k) := by
    intro n
    induction n with
    | zero => intro k cr' h1; omega
    | succ n ih =>
      intro k cr' g1 g2 g3 g4
      unfold w_X1_passHour_B2
      refine pk_le 8 k (fun h => ?_) (fun h => ?_)
      · rw [nI_1]
        refine p cr' ⟨rfl, rfl, rfl, rfl, fun j hj hb => ?_, g4⟩
        rw [g3 j hj hb, if_pos (by omega)]
        show nI _ = nI (if (cP c).testBit j = true then cC c j - loss P po sp c j else cC c j)
        have hb' : (cP c).testBit j = true := hb
        rw [if_pos hb']
      · refine s_loss h hp hc h1 h2 ?_
        obtain ⟨m, hm, em⟩ := g4 k h
        have hle : loss P po sp c k ≤ 45 := lossG_le h1 h2
        refine s_spoil h hm (by omega) em ?_
        rw [nI_1]
        refine ih (k + 1) _ (by omega) (by omega) (fun j hj hb => ?_) (fun j hj => ?_)
        · by_cases hjk : j = k
          · subst hjk
            rw [upd_s, if_pos (by omega)]
            have e1 := g3 j hj hb
            rw [if_neg (by omega), em] at e1
            have := hc.1 j hj
            have e2 : m = cC c j := (nI_eq (by omega) (by omega)).mp e1
            rw [e2]
          · rw [upd_n hjk, g3 j hj hb]
            congr 1
            by_cases hlt : j < k
            · rw [if_pos hlt, if_pos (by omega)]
            · rw [if_neg hlt, if_neg (by omega)]
        · by_cases hjk : j = k
          · subst hjk
            exact ⟨_, by omega, upd_s _ _ _⟩
          · rw [upd_n hjk]; exact g4 j hj
  exact ⟨9, key 9 0 cr (by omega) (by omega) (fun j hj hb => by rw [if_neg (by omega)]; exact h5 j hj hb) h6⟩
