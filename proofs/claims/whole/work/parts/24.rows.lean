-- rows of saucers: apart, row
def chS (a : Nat) : Nat → Nat
  | 0 => 1
  | i + 1 => chS a i * (a + (i + 1)) / (i + 1)
def cnt (m j : Nat) : Nat := if 2 * j ≤ m + 1 then chS (m + 1 - 2 * j) j else 0
theorem chS_lt {a i : Nat} (h : a + 2 * i ≤ 41) : chS a i < 2 ^ 31 := by
  have key : ∀ a, a < 42 → ∀ i, i < 21 → a + 2 * i ≤ 41 → chS a i < 2 ^ 31 := by decide +kernel
  exact key a (by omega) i (by omega) h
/-- a step of a column lies in the range -/
theorem chS_mul {a i j : Nat} (h : a + 2 * j ≤ 41) (hi : i < j) : chS a i < 2 ^ 40 ∧ chS a (i + 1) < 2 ^ 40 := by
  have key : ∀ a, a < 42 → ∀ i, i < 21 → a + 2 * (i + 1) ≤ 41 → chS a i < 2 ^ 40 ∧ chS a (i + 1) < 2 ^ 40 := by decide +kernel
  exact key a (by omega) i (by omega) (by omega)
theorem cnt_rec1 : ∀ m, m < 41 → ∀ j, j < 41 → 2 ≤ m → 1 ≤ j → cnt m j = cnt (m - 1) j + cnt (m - 2) (j - 1) := by decide +kernel
theorem cnt_rec5 : ∀ m, m < 26 → ∀ j, j < 41 → cnt m j < 1000007 := by decide +kernel
theorem cnt_rec (m : Nat) (hm : m < 41) (j : Nat) (hj : j < 41) : (2 ≤ m → 1 ≤ j → cnt m j = cnt (m - 1) j + cnt (m - 2) (j - 1)) ∧ cnt m 0 = 1 ∧ (m = 0 → 1 ≤ j → cnt m j = 0) ∧ (m = 1 → j ≠ 0 → cnt m j = if j = 1 then 1 else 0) ∧ (m < 26 → cnt m j < 1000007) := by
  refine ⟨cnt_rec1 m hm j hj, ?_, fun e h => ?_, fun e h => ?_, fun h => cnt_rec5 m h j hj⟩
  · unfold cnt
    rw [if_pos (by omega)]
    rfl
  · unfold cnt
    rw [if_neg (by omega)]
  · subst e
    by_cases q : j = 1
    · subst q; rfl
    · unfold cnt
      rw [if_neg (by omega), if_neg q]
theorem lN_mulN (a b : Nat) : lN a * lN b = lN (a * b) := (Int64.ofNat_mul a b).symm
theorem y_rowI : ∀ s, s < 41 → ∀ o, o < 42 → (nI o ≤ (nI s - nI o) + 1 ↔ 2 * o ≤ s + 1) ∧ (2 * o ≤ s + 1 → ((nI s - nI o) + 1) - nI o = nI (s + 1 - 2 * o)) := by decide +kernel
theorem s_choose {post : Int32 → Prop} {a j : Nat} {p0 : Int32} (h : a + 2 * j ≤ 41) (e : p0 - nI j = nI a) (p : post (nI (chS a j))) : ∃ n, w_X8_choose_B16 post p0 (nI j) n 1 1 := by
  have key : ∀ n i, j - i < n → i ≤ j → w_X8_choose_B16 post p0 (nI j) n (lN (chS a i)) (nI (i + 1)) := by
    intro n
    induction n with
    | zero => intro i z; omega
    | succ n ih =>
      intro i z1 z2
      unfold w_X8_choose_B16
      refine pk_lt j (i + 1) (fun z => ?_) (fun z => ?_)
      · rw [show i = j by omega, lN_i]; exact p
      · obtain ⟨c1, c2⟩ := chS_mul (a := a) (i := i) h (by omega)
        have hm : chS a i * (a + (i + 1)) < 2 ^ 63 := Nat.lt_of_le_of_lt (Nat.mul_le_mul (Nat.le_of_lt c1) (show a + (i + 1) ≤ 63 by omega)) (by decide)
        rw [e, nI_add, nI_l (by omega), nI_l (by omega), lN_mulN, pk_lDiv hm (by omega) (by omega)]
        refine ⟨fun q => ?_, fun y ey => ?_⟩
        · have : i + 1 = 0 := (lN_eq (by omega) (by omega)).mp (show lN (i + 1) = lN 0 from q)
          omega
        · rw [ey, nI_1]
          exact ih (i + 1) (by omega) (by omega)
  exact ⟨j + 1, key (j + 1) 0 (by omega) (by omega)⟩
theorem s_countRows {post : Int32 → Prop} {m j : Nat} (hm : m < 41) (hj : j < 42) (p : post (nI (cnt m j))) : w_X8_countRows post (nI m) (nI j) := by
  unfold w_X8_countRows w_X8_choose
  obtain ⟨e1, e2⟩ := y_rowI m hm j hj
  refine ⟨fun q => absurd q (nI_pos (by omega)), fun _ => ⟨fun q => ?_, fun q => ?_⟩⟩
  · have h := e1.mp q
    unfold cnt at p
    rw [if_pos h] at p
    exact s_choose (a := m + 1 - 2 * j) (by omega) (e2 h) p
  · have h : ¬ 2 * j ≤ m + 1 := fun z => q (e1.mpr z)
    unfold cnt at p
    rw [if_neg h] at p; exact p
theorem cnt_lt {m j : Nat} (hm : m < 41) : cnt m j < 2 ^ 31 := by
  unfold cnt
  split
  · exact chS_lt (by omega)
  · decide
/-- the rows laid so far -/
def lyR (f : Nat → Int32) (m j : Nat) : Prop := ∀ m' j', m' < 41 → j' < 41 → (m' < m ∨ m' = m ∧ j' < j) → f (41 * m' + j') = nI (cnt m' j' % 1000007)
theorem y_ix {m j : Nat} : (41 : Int32) * nI m + nI j = nI (41 * m + j) := by rw [show (41 : Int32) = nI 41 from rfl, pk_mul, nI_add]
theorem r_lay {post : (Nat → Int32) → Prop} {f : Nat → Int32} {n : Nat} (hn : n < 41) (p : ∀ f', lyR f' (n + 1) 0 → post f') : w_X9_layRows post f (nI n) := by
  have inner : ∀ m, m ≤ n → ∀ (k2 : (Nat → Int32) → Int32 → Prop), (∀ f', lyR f' (m + 1) 0 → k2 f' (nI (m + 1))) → ∀ N j f, 41 - j < N → j ≤ 41 → lyR f m j → w_X9_layRows_B9 post (nI n) k2 N f (nI m) (nI j) := by
    intro m hm k2 hk N
    induction N with
    | zero => intro j f z; omega
    | succ N ih =>
      intro j f z1 z2 h
      unfold w_X9_layRows_B9
      refine pk_le 41 j (fun z => ?_) (fun z => ?_)
      · rw [nI_1]
        refine hk f (fun m' j' a1 a2 a3 => h m' j' a1 a2 ?_)
        omega
      · have put : ∀ v : Nat, v < 2 ^ 31 → v % 1000007 = cnt m j % 1000007 → w_X9_layRows_B83 post (nI n) k2 (fun f_rows x2 x3 => w_X9_layRows_B9 post (nI n) k2 N f_rows x2 x3) f (nI m) (nI j) (nI v) := by
          intro v hv ev
          unfold w_X9_layRows_B83
          rw [y_ix, show nI v - nI v / (1000007 : Int32) * (1000007 : Int32) = nI (v % 1000007) from pk_rem hv (by decide) (by decide), nI_1, ev]
          refine ⟨vp_in_nI (by omega) (by decide), ih (j + 1) _ (by omega) (by omega) (fun m' j' a1 a2 a3 => ?_)⟩
          rw [nI_clamp (by omega)]
          by_cases ei : 41 * m' + j' = 41 * m + j
          · have em : m' = m := by omega
            have ej : j' = j := by omega
            rw [em, ej, upd_s]
          · rw [upd_n ei]
            exact h m' j' a1 a2 (by omega)
        obtain ⟨c1, c2, c3, c4, c5⟩ := cnt_rec m (by omega) j z
        have b24 : ∀ s0 : Nat, (m = 0 ∨ j = 0 → s0 = cnt m j) → s0 < 2 → w_X9_layRows_B24 post (nI n) k2 (fun f_rows x2 x3 => w_X9_layRows_B9 post (nI n) k2 N f_rows x2 x3) f (nI m) (nI j) (nI s0) := by
          intro s0 e0 hs0
          unfold w_X9_layRows_B24 w_X9_layRows_B81
          refine pk_le m 0 (fun z0 => put s0 (by omega) (by rw [e0 (Or.inl (by omega))])) (fun z0 => pk_le j 0 (fun z1 => put s0 (by omega) (by rw [e0 (Or.inr (by omega))])) (fun z1 => pk_eq m 1 (fun z2 => ?_) (fun z2 => ?_)))
          · refine pk_eq j 1 (fun z3 => put 1 (by decide) ?_) (fun z3 => put 0 (by decide) ?_)
            · rw [c4 z2 (by omega), if_pos z3]
            · rw [c4 z2 (by omega), if_neg z3]
          · have em1 : nI m - (1 : Int32) = nI (m - 1) := pk_sub (a := m) (b := 1) z0
            have em2 : nI m - (2 : Int32) = nI (m - 2) := pk_sub (a := m) (b := 2) (by omega)
            have ej1 : nI (41 * (m - 2) + j) - (1 : Int32) = nI (41 * (m - 2) + (j - 1)) := by
              rw [show 41 * (m - 2) + (j - 1) = 41 * (m - 2) + j - 1 by omega]
              exact pk_sub (a := 41 * (m - 2) + j) (b := 1) (by omega)
            rw [em1, em2, y_ix, y_ix, ej1]
            refine ⟨vp_in_nI (by omega) (by decide), vp_in_nI (by omega) (by decide), ?_⟩
            rw [nI_clamp (by omega), nI_clamp (by omega), h (m - 1) j (by omega) z (by omega), h (m - 2) (j - 1) (by omega) (by omega) (by omega), nI_add]
            refine put _ (by omega) ?_
            rw [c1 (by omega) z1]
            omega
        refine pk_eq j 0 (fun e => b24 1 (fun _ => ?_) (by decide)) (fun e => b24 0 (fun q => ?_) (by decide))
        · rw [e, c2]
        · rcases q with q | q
          · exact (c3 q (by omega)).symm
          · exact absurd q e
  have outer : ∀ N m f, n + 1 - m < N → m ≤ n + 1 → lyR f m 0 → w_X9_layRows_B2 post (nI n) N f (nI m) := by
    intro N
    induction N with
    | zero => intro m f z; omega
    | succ N ih =>
      intro m f z1 z2 h
      unfold w_X9_layRows_B2
      refine pk_lt n m (fun z => ?_) (fun z => ?_)
      · have e : m = n + 1 := by omega
        subst e
        exact p f h
      · exact ⟨42, inner m z _ (fun f' h' => ih (m + 1) f' (by omega) (by omega) h') 42 0 f (by omega) (by omega) h⟩
  unfold w_X9_layRows
  exact ⟨n + 2, outer (n + 2) 0 f (by omega) (by omega) (fun m' j' a1 a2 a3 => by omega)⟩
theorem e_apart {rr : Nat → Int32} {p1 p2 : Int32} : w_X8_apart (fun r => w_X9_apart (fun r' _ => r = r') rr p1 p2) p1 p2 := by
  unfold w_X8_apart
  rcases y_rng0 p1 40 with ⟨n, hn, rfl⟩ | o1
  · refine s8_in 0 40 (Nat.zero_le _) hn (by decide) (y_1 ?_)
    rcases y_rng0 p2 n (by omega) with ⟨j, hj, rfl⟩ | o2
    · refine s8_in 0 n (Nat.zero_le _) hj (by omega) (y_1 (s_countRows (by omega) (by omega) ?_))
      have hc := cnt_lt (m := n) (j := j) (by omega)
      have e : nI (cnt n j) - nI (cnt n j) / (1000007 : Int32) * (1000007 : Int32) = nI (cnt n j % 1000007) := pk_rem hc (by decide) (by decide)
      rw [e]
      unfold w_X9_apart
      refine s9_in 0 40 (Nat.zero_le _) hn (by decide) (y_1 (s9_in 0 n (Nat.zero_le _) hj (by omega) (y_1 (r_lay (by omega) (fun f' h' => ?_)))))
      rw [y_ix]
      refine ⟨vp_in_nI (by omega) (by decide), ?_⟩
      rw [nI_clamp (by omega), h' n j (by omega) (by omega) (by omega)]
    · refine s8_out o2 (y_0 ?_)
      unfold w_X9_apart
      exact s9_in 0 40 (Nat.zero_le _) hn (by decide) (y_1 (s9_out o2 (y_0 rfl)))
  · refine s8_out o1 (y_0 ?_)
    unfold w_X9_apart
    exact s9_out o1 (y_0 rfl)
/-- the row itself, its saucers from the last -/
def nr : Nat → Nat → Nat → Nat → Nat
  | 0, _, _, acc => acc
  | s + 1, o, l, acc => if l < cnt s o then nr s o l acc else nr s (o - 1) (l - cnt s o) (acc ||| 2 ^ s)
/-- what holds as they go -/
theorem nr_no {s o l : Nat} (hs : s < 26) (ho : o < 41) (hl : l < cnt (s + 1) o) (h : l < cnt s o) : l < cnt s o := h
theorem nr_yes {s o l : Nat} (hs : s < 26) (ho : o < 41) (hl : l < cnt (s + 1) o) (h : ¬ l < cnt s o) : 1 ≤ o ∧ ((s = 0 ∧ o = 1 ∧ l = 0) ∨ (1 ≤ s ∧ l - cnt s o < cnt (s - 1) (o - 1))) := by
  have ho1 : 1 ≤ o := by
    rcases Nat.eq_zero_or_pos o with z | z
    · subst z
      have a := (cnt_rec (s + 1) (by omega) 0 (by omega)).2.1
      have b := (cnt_rec s (by omega) 0 (by omega)).2.1
      omega
    · exact z
  refine ⟨ho1, ?_⟩
  obtain ⟨c1, c2, c3, c4, c5⟩ := cnt_rec (s + 1) (by omega) o ho
  rcases Nat.eq_zero_or_pos s with z | z
  · subst z
    left
    have := c4 rfl (by omega)
    rw [this] at hl
    by_cases e : o = 1
    · rw [if_pos e] at hl; exact ⟨rfl, e, by omega⟩
    · rw [if_neg e] at hl; omega
  · right
    refine ⟨z, ?_⟩
    have := c1 (by omega) ho1
    rw [show s + 1 - 1 = s by omega, show s + 1 - 2 = s - 1 by omega] at this
    omega
/-- the saucer beside one that is OFF is not -/
theorem nr_skip {s o l acc : Nat} (h : l < cnt s o) : nr (s + 1) o l acc = nr s o l acc := by rw [nr, if_pos h]
theorem y_m1 : ∀ s, s < 42 → nI s + (-1 : Int32) = nI s - 1 := by decide +kernel
theorem s_nth {post : Int32 → Prop} {p0 p1 p2 : Int32} : ∀ m, m < 26 → ∀ N o l acc, m < N → o < 41 → (m = 0 ∨ l < cnt m o ∨ (l < cnt (m - 1) o)) → l < 2 ^ 31 → post (nI (nr m o l acc)) → w_X8_nthRow_B13 post p0 p1 p2 N (nI acc) (nI o) (nI l) (nI m - 1) := by
  intro m
  induction m with
  | zero =>
    intro _ N o l acc hN ho hl hl2 p
    obtain ⟨N, rfl⟩ : ∃ N', N = N' + 1 := ⟨N - 1, by omega⟩
    unfold w_X8_nthRow_B13
    exact ⟨fun _ => p, fun q => absurd (by decide) q⟩
  | succ s ih =>
    intro hm N o l acc hN ho hl hl2 p
    obtain ⟨N, rfl⟩ : ∃ N', N = N' + 1 := ⟨N - 1, by omega⟩
    unfold w_X8_nthRow_B13
    rw [y_pre]
    refine ⟨fun q => absurd q (nI_pos (by omega)), fun _ => s_countRows (by omega) (by omega) ?_⟩
    have hc := cnt_lt (m := s) (j := o) (by omega)
    refine pk_lt l (cnt s o) (fun z => ?_) (fun z => ?_)
    · rw [nr_skip z] at p
      rw [y_m1 s (by omega)]
      exact ih (by omega) N o l acc (by omega) ho (Or.inr (Or.inl z)) hl2 p
    · intro y ey
      rw [y_sh1 s (by omega), y_or] at ey
      rw [ey, pk_sub z, y_m1 s (by omega)]
      rw [nr, if_neg (by omega)] at p
      have hl' : l < cnt (s + 1) o := by
        rcases hl with q | q | q
        · omega
        · exact q
        · rw [show s + 1 - 1 = s by omega] at q; omega
      obtain ⟨o1, h2⟩ := nr_yes (by omega) ho hl' (by omega)
      obtain ⟨o', rfl⟩ : ∃ o', o = o' + 1 := ⟨o - 1, by omega⟩
      rw [pk_m1]
      refine ih (by omega) N o' _ _ (by omega) (by omega) ?_ (by omega) p
      rcases h2 with ⟨q, -, -⟩ | ⟨q1, q2⟩
      · exact Or.inl q
      · exact Or.inr (Or.inr q2)
theorem r_nth {post : Int32 → (Nat → Int32) → Prop} {p1 p2 p3 : Int32} {f : Nat → Int32} {n : Nat} (hn : n < 26) (h : lyR f (n + 1) 0) : ∀ N m o l acc, m < N → m ≤ n → o < 41 → (m = 0 ∨ l < cnt m o) → l < 2 ^ 31 → post (nI (nr m o l acc)) f → w_X9_row_B67 post p1 p2 p3 N f (nI acc) (nI l) (nI o) (nI m) := by
  intro N
  induction N with
  | zero => intro m o l acc z; omega
  | succ N ih =>
    intro m o l acc hN hm ho hl hl2 p
    unfold w_X9_row_B67
    refine pk_le m 0 (fun z => ?_) (fun z => ?_)
    · have e : m = 0 := by omega
      subst e
      exact p
    · obtain ⟨s, rfl⟩ : ∃ s, m = s + 1 := ⟨m - 1, by omega⟩
      rw [y_pre, y_ix]
      refine ⟨vp_in_nI (by omega) (by decide), ?_⟩
      have hc := (cnt_rec s (by omega) o ho).2.2.2.2 (by omega)
      intro y ey
      rw [nI_clamp (by omega), h s o (by omega) ho (by omega), Nat.mod_eq_of_lt hc] at ey
      subst ey
      rw [pk_m1]
      refine pk_lt l (cnt s o) (fun z => ?_) (fun z => ?_)
      · rw [nr_skip z] at p
        exact ih s o l acc (by omega) (by omega) ho (Or.inr z) hl2 p
      · intro y ey
        rw [y_sh1 s (by omega), y_or] at ey
        rw [ey, pk_sub z]
        rw [nr, if_neg (by omega)] at p
        have hl' : l < cnt (s + 1) o := by
          rcases hl with q | q
          · omega
          · exact q
        obtain ⟨o1, h2⟩ := nr_yes (s := s) (by omega) ho hl' (by omega)
        obtain ⟨o', rfl⟩ : ∃ o', o = o' + 1 := ⟨o - 1, by omega⟩
        rw [pk_m1]
        rcases h2 with ⟨q, -, -⟩ | ⟨q1, q2⟩
        · subst q
          obtain ⟨N, rfl⟩ : ∃ N', N = N' + 1 := ⟨N - 1, by omega⟩
          unfold w_X9_row_B67
          exact ⟨fun _ => p, fun q => absurd (by decide) q⟩
        · obtain ⟨s, rfl⟩ : ∃ s', s = s' + 1 := ⟨s - 1, by omega⟩
          rw [pk_m1]
          rw [show s + 1 - 1 = s by omega, show o' + 1 - 1 = o' by omega] at q2
          rw [show o' + 1 - 1 = o' by omega, nr_skip q2] at p
          exact ih s o' _ _ (by omega) (by omega) (by omega) (Or.inr q2) (by omega) p
theorem e_row {rr : Nat → Int32} {p1 p2 p3 : Int32} : w_X8_row (fun r => w_X9_row (fun r' _ => r = r') rr p1 p2 p3) p1 p2 p3 := by
  unfold w_X8_row
  rcases y_rng0 p1 25 with ⟨n, hn, rfl⟩ | o1
  · refine s8_in 0 25 (Nat.zero_le _) hn (by decide) (y_1 ?_)
    rcases y_rng0 p2 n (by omega) with ⟨j, hj, rfl⟩ | o2
    · refine s8_in 0 n (Nat.zero_le _) hj (by omega) (y_1 ?_)
      rcases y_rng0 p3 99999 with ⟨i, hi, rfl⟩ | o3
      · refine s8_in 0 99999 (Nat.zero_le _) hi (by decide) (y_1 (s_countRows (by omega) (by omega) ?_))
        have hc := (cnt_rec n (by omega) j (by omega)).2.2.2.2 (by omega)
        have ref : ∀ v, (cnt n j ≤ i → v = -6) → (i < cnt n j → v = nI (nr n j i 0)) → w_X9_row (fun r' _ => v = r') rr (nI n) (nI j) (nI i) := by
          intro v v0 v1
          unfold w_X9_row
          refine s9_in 0 25 (Nat.zero_le _) hn (by decide) (y_1 (s9_in 0 n (Nat.zero_le _) hj (by omega) (y_1 (s9_in 0 99999 (Nat.zero_le _) hi (by decide) (y_1 (r_lay (by omega) (fun f' h' => ?_)))))))
          rw [y_ix]
          refine ⟨vp_in_nI (by omega) (by decide), ?_⟩
          rw [nI_clamp (by omega), h' n j (by omega) (by omega) (by omega), Nat.mod_eq_of_lt hc]
          refine pk_lt i (cnt n j) (fun z => ⟨n + 1, ?_⟩) (fun z => v0 z)
          exact r_nth (by omega) h' (n + 1) n j i 0 (by omega) (Nat.le_refl _) (by omega) (Or.inr z) (by omega) (v1 z)
        refine pk_le (cnt n j) i (fun z => ref _ (fun _ => rfl) (fun q => by omega)) (fun z => ?_)
        unfold w_X8_nthRow
        exact ⟨n + 1, s_nth n (by omega) (n + 1) j i 0 (by omega) (by omega) (Or.inr (Or.inl z)) (by omega) (ref _ (fun q => by omega) (fun _ => rfl))⟩
      · refine s8_out o3 (y_0 ?_)
        unfold w_X9_row
        exact s9_in 0 25 (Nat.zero_le _) hn (by decide) (y_1 (s9_in 0 n (Nat.zero_le _) hj (by omega) (y_1 (s9_out o3 (y_0 rfl)))))
    · refine s8_out o2 (y_0 ?_)
      unfold w_X9_row
      exact s9_in 0 25 (Nat.zero_le _) hn (by decide) (y_1 (s9_out o2 (y_0 rfl)))
  · refine s8_out o1 (y_0 ?_)
    unfold w_X9_row
    exact s9_out o1 (y_0 rfl)
