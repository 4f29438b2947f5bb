-- the pair of calls: trials
def cand (F : Nat → Nat) (b s : Nat) : Nat := 1 + max (F s) (F (b - s))
def mnT (F : Nat → Nat) (b c : Nat) : Nat → Nat
  | 0 => c
  | i + 1 => min (mnT F b c i) (cand F b (i + 1))
def fsT (F : Nat → Nat) (b c : Nat) : Nat → Nat
  | 0 => 0
  | i + 1 => if cand F b (i + 1) < mnT F b c i then i + 1 else fsT F b c i
def tbl (k : Nat) : Nat → Nat → Nat
  | 0 => fun _ => 0
  | b + 1 => nup (tbl k b) (b + 1) (mnT (tbl k b) (b + 1) (if b = 0 then 0 else 99) (min k b))
theorem mn_le (F : Nat → Nat) (b c : Nat) : ∀ i s, 1 ≤ s → s ≤ i → mnT F b c i ≤ cand F b s := by
  intro i
  induction i with
  | zero => intro s h1 h2; omega
  | succ i ih =>
    intro s h1 h2
    rw [mnT]
    rcases Nat.lt_or_ge i s with z | z
    · rw [show s = i + 1 by omega]; exact Nat.min_le_right _ _
    · exact Nat.le_trans (Nat.min_le_left _ _) (ih s h1 z)
theorem mn_cap {F : Nat → Nat} {b c c' : Nat} (h : cand F b 1 ≤ c) (h' : cand F b 1 ≤ c') : ∀ i, 1 ≤ i → mnT F b c i = mnT F b c' i := by
  intro i
  induction i with
  | zero => intro z; omega
  | succ i ih =>
    intro _
    rw [mnT, mnT]
    rcases Nat.eq_zero_or_pos i with z | z
    · subst z
      show min c (cand F b 1) = min c' (cand F b 1)
      omega
    · rw [ih z]
theorem mn_lec (F : Nat → Nat) (b c : Nat) : ∀ i, mnT F b c i ≤ c := by
  intro i
  induction i with
  | zero => exact Nat.le_refl _
  | succ i ih => rw [mnT]; exact Nat.le_trans (Nat.min_le_left _ _) ih
theorem fs_prop {F : Nat → Nat} {b c : Nat} (h : cand F b 1 < c) : ∀ i, 1 ≤ i → 1 ≤ fsT F b c i ∧ fsT F b c i ≤ i ∧ cand F b (fsT F b c i) = mnT F b c i ∧ ∀ s, 1 ≤ s → s < fsT F b c i → cand F b s ≠ mnT F b c i := by
  intro i
  induction i with
  | zero => intro z; omega
  | succ i ih =>
    intro _
    rw [fsT, mnT]
    have hm : ∀ s, 1 ≤ s → s ≤ i → mnT F b c i ≤ cand F b s := fun s h1 h2 => mn_le F b c i s h1 h2
    by_cases q : cand F b (i + 1) < mnT F b c i
    · rw [if_pos q]
      refine ⟨by omega, by omega, by omega, fun s h1 h2 e => ?_⟩
      have := hm s h1 (by omega)
      omega
    · rw [if_neg q]
      rcases Nat.eq_zero_or_pos i with z | z
      · subst z; exact absurd h q
      · obtain ⟨g1, g2, g3, g4⟩ := ih z
        have e : min (mnT F b c i) (cand F b (i + 1)) = mnT F b c i := by omega
        rw [e]
        exact ⟨g1, by omega, g3, g4⟩
theorem tbl_le {k : Nat} (hk : 1 ≤ k) : ∀ b j, 1 ≤ j → j ≤ b → tbl k b j ≤ j - 1 := by
  intro b
  induction b with
  | zero => intro j h1 h2; omega
  | succ b ih =>
    intro j h1 h2
    rw [tbl]
    by_cases e : j = b + 1
    · subst e
      rw [nup_s]
      rcases Nat.eq_zero_or_pos b with z | z
      · subst z; rw [show min k 0 = 0 by omega, mnT, if_pos rfl]; omega
      · have := mn_le (tbl k b) (b + 1) (if b = 0 then 0 else 99) (min k b) 1 (Nat.le_refl _) (by omega)
        have h3 : cand (tbl k b) (b + 1) 1 ≤ b := by
          unfold cand
          have a1 := ih 1 (Nat.le_refl _) z
          have a2 := ih b z (Nat.le_refl _)
          rw [show b + 1 - 1 = b by omega]
          omega
        omega
    · rw [nup_n e]; exact ih j h1 (by omega)
theorem tbl_up (k b j : Nat) (h : j ≠ b + 1) : tbl k (b + 1) j = tbl k b j := by rw [tbl, nup_n h]
def tbF (F : Nat → Nat) (b : Nat) (f : Nat → Int32) : Prop := ∀ j, 1 ≤ j → j ≤ b → f j = nI (F j)
theorem y_maxI {a b : Nat} (ha : a < 2 ^ 31) (hb : b < 2 ^ 31) : (if nI a < nI b then nI b else nI a) = nI (max a b) := by
  by_cases h : a < b
  · rw [if_pos (nI_lt h hb), Nat.max_eq_right (by omega)]
  · rw [if_neg (nI_nlt (by omega) ha), Nat.max_eq_left (by omega)]
theorem y_minI {a b : Nat} (ha : a < 2 ^ 31) (hb : b < 2 ^ 31) : (if nI b < nI a then nI b else nI a) = nI (min a b) := by
  by_cases h : b < a
  · rw [if_pos (nI_lt h ha), Nat.min_eq_right (by omega)]
  · rw [if_neg (nI_nlt (by omega) hb), Nat.min_eq_left (by omega)]
theorem s_fewest {post : Int32 → Prop} {F : Nat → Nat} {f : Nat → Int32} {b j : Nat} (h : tbF F b f) (h1 : 1 ≤ j) (h2 : j ≤ b) (hb : b ≤ 99) (p : post (nI (F j))) : w_X0_fewestFor post f (nI j) := by
  unfold w_X0_fewestFor
  refine s8_in 1 99 h1 (by omega) (by decide) (y_1 ⟨vp_in_nI (by omega) (by decide), ?_⟩)
  rw [nI_clamp (by omega), h j h1 h2]; exact p
theorem s_with {post : Int32 → Prop} {k : Nat} {f : Nat → Int32} {b c s : Nat} (hk : 1 ≤ k) (h : tbF (tbl k b) b f) (hb : b ≤ 99) (h1 : 1 ≤ s) (h2 : s < c) (h3 : c ≤ b + 1) (p : post (nI (cand (tbl k b) c s))) : w_X0_withFirst post f (nI c) (nI s) := by
  unfold w_X0_withFirst
  refine s_fewest h h1 (by omega) hb ?_
  rw [pk_sub (by omega)]
  refine s_fewest h (by omega) (by omega) hb ?_
  have a1 := tbl_le hk b s h1 (by omega)
  have a2 := tbl_le hk b (c - s) (by omega) (by omega)
  rw [y_maxI (by omega) (by omega), show (1 : Int32) = nI 1 from rfl, nI_add]
  exact p
theorem cand_le {k b c s : Nat} (hk : 1 ≤ k) (h1 : 1 ≤ s) (h2 : s < c) (h3 : c ≤ b + 1) : cand (tbl k b) c s ≤ b + 1 := by
  have a1 := tbl_le hk b s h1 (by omega)
  have a2 := tbl_le hk b (c - s) (by omega) (by omega)
  unfold cand
  omega
/-- one more bowl -/
theorem s_weighB {post : (Nat → Int32) → Prop} {k n b : Nat} {f : Nat → Int32} {k9 : (Nat → Int32) → Int32 → Prop} (hk : 1 ≤ k) (hk2 : k ≤ 20) (h : tbF (tbl k b) b f) (h1 : 1 ≤ b) (hb : b < 99) (p : ∀ f', tbF (tbl k (b + 1)) (b + 1) f' → k9 f' (nI (b + 2))) : ∃ N, w_X0_weigh_B27 post (nI n) (nI k) k9 N f (nI (b + 1)) (99 : Int32) (1 : Int32) := by
  have key : ∀ N i, min k b - i < N → i ≤ min k b → w_X0_weigh_B27 post (nI n) (nI k) k9 N f (nI (b + 1)) (nI (mnT (tbl k b) (b + 1) 99 i)) (nI (i + 1)) := by
    intro N
    induction N with
    | zero => intro i z; omega
    | succ N ih =>
      intro i z1 z2
      have fin : i = min k b → w_X0_weigh_B59 post (nI n) (nI k) k9 f (nI (b + 1)) (nI (mnT (tbl k b) (b + 1) 99 i)) := by
        intro e
        unfold w_X0_weigh_B59
        refine ⟨vp_in_nI (by omega) (by decide), ?_⟩
        rw [nI_clamp (by omega), nI_1]
        refine p _ (fun j g1 g2 => ?_)
        rw [tbl, if_neg (by omega), ← e]
        by_cases ej : j = b + 1
        · subst ej; rw [upd_s, nup_s]
        · rw [upd_n ej, nup_n ej]; exact h j g1 (by omega)
      unfold w_X0_weigh_B27
      have hmn := mn_lec (tbl k b) (b + 1) 99 i
      refine pk_lt k (i + 1) (fun z => fin (by omega)) (fun z => pk_le (b + 1) (i + 1) (fun z2 => fin (by omega)) (fun z2 => ?_))
      refine s_with hk h (by omega) (by omega) z2 (Nat.le_refl _) ?_
      have hc := cand_le (k := k) (b := b) (c := b + 1) (s := i + 1) hk (by omega) z2 (Nat.le_refl _)
      intro y ey
      rw [y_minI (by omega) (by omega)] at ey
      rw [ey, nI_1]
      exact ih (i + 1) (by omega) (by omega)
  exact ⟨min k b + 1, key _ 0 (by omega) (by omega)⟩
theorem s_weigh {post : (Nat → Int32) → Prop} {k n : Nat} {f : Nat → Int32} (hk : 1 ≤ k) (hk2 : k ≤ 20) (h1 : 1 ≤ n) (hn : n ≤ 99) (p : ∀ f', tbF (tbl k n) n f' → post f') : w_X0_weigh post f (nI n) (nI k) := by
  have key : ∀ N b f, n - b < N → 1 ≤ b → b ≤ n → tbF (tbl k b) b f → w_X0_weigh_B9 post (nI n) (nI k) N f (nI (b + 1)) := by
    intro N
    induction N with
    | zero => intro b f z; omega
    | succ N ih =>
      intro b f z1 z2 z3 h
      unfold w_X0_weigh_B9
      refine pk_lt n (b + 1) (fun z => ?_) (fun z => pk_lt 99 (b + 1) (fun z => absurd z (by omega)) (fun _ => ?_))
      · have e : b = n := by omega
        subst e
        exact p f h
      · refine s_weighB hk hk2 h z2 (by omega) (fun f' h' => ?_)
        exact ih (b + 1) f' (by omega) (by omega) (by omega) h'
  unfold w_X0_weigh
  refine ⟨n + 1, key (n + 1) 1 _ (by omega) (by omega) h1 (fun j g1 g2 => ?_)⟩
  have e : j = 1 := by omega
  subst e
  rw [show (1 : Int32).toNatClampNeg = 1 from by decide, upd_s]
  rw [tbl, nup_s, show min k 0 = 0 by omega, mnT, if_pos rfl]
  rfl
def oF (x : Nat) : Int32 := if x = 0 then -6 else nI x
theorem s_least {post : Int32 → Prop} {k n : Nat} {f : Nat → Int32} (hk : 1 ≤ k) (hk2 : k ≤ 20) (h1 : 1 ≤ n) (hn : n ≤ 99) (h : tbF (tbl k n) n f) (x : Nat) (hx : if n = 1 then x = 0 else 1 ≤ x ∧ x ≤ min k (n - 1) ∧ cand (tbl k n) n x = tbl k n n ∧ ∀ s, 1 ≤ s → s < x → cand (tbl k n) n s ≠ tbl k n n) (p : post (oF x)) : w_X0_leastFirst post f (nI n) (nI k) := by
  have ht := tbl_le hk n n h1 (Nat.le_refl _)
  by_cases en : n = 1
  · rw [if_pos en] at hx
    subst hx
    subst en
    unfold w_X0_leastFirst
    refine ⟨1, ?_⟩
    unfold w_X0_leastFirst_B2
    exact ⟨fun _ => p, fun _ => ⟨fun _ => p, fun q => absurd (Int32.le_refl _) q⟩⟩
  · rw [if_neg en] at hx
    obtain ⟨x1, x2, x3, x4⟩ := hx
    have key : ∀ N s, x - s < N → 1 ≤ s → s ≤ x → w_X0_leastFirst_B2 post f (nI n) (nI k) N (nI s) := by
      intro N
      induction N with
      | zero => intro s z; omega
      | succ N ih =>
        intro s z1 z2 z3
        unfold w_X0_leastFirst_B2
        refine pk_lt k s (fun z => absurd z (by omega)) (fun _ => pk_le n s (fun z => absurd z (by omega)) (fun z => ?_))
        refine s_with hk h hn z2 z (by omega) (s_fewest h h1 (Nat.le_refl _) hn ?_)
        have hc := cand_le (k := k) (b := n) (c := n) (s := s) hk z2 z (by omega)
        refine pk_eq (cand (tbl k n) n s) (tbl k n n) (fun e => ?_) (fun e => ?_)
        · have : s = x := by
            rcases Nat.lt_or_ge s x with q | q
            · exact absurd e (x4 s z2 q)
            · omega
          rw [this]
          unfold oF at p
          rw [if_neg (by omega)] at p; exact p
        · rw [nI_1]
          have : s ≠ x := fun q => e (by rw [q]; exact x3)
          exact ih (s + 1) (by omega) (by omega) (by omega)
    exact ⟨x + 1, key (x + 1) 1 (by omega) (by omega) (by omega)⟩
theorem r_bowlB {post : Int32 → (Nat → Int32) → Prop} {k n b c : Nat} {f : Nat → Int32} {p3 : Int32} {k39 : (Nat → Int32) → Int32 → Int32 → Prop} (hk : 1 ≤ k) (hk2 : k ≤ 20) (h : tbF (tbl k b) b f) (hb : b < 99) (hcap : c ≤ 1000000) (p : k39 (upd f (b + 1) (nI (mnT (tbl k b) (b + 1) c (min k b)))) (oF (fsT (tbl k b) (b + 1) c (min k b))) (nI (b + 2))) : w_X9_trials_B57 post (nI n) (nI k) p3 k39 f (nI (b + 1)) (nI c) := by
  have key : ∀ N i, min k b - i < N → i ≤ min k b → w_X9_trials_B66 post (nI n) (nI k) p3 k39 N f (oF (fsT (tbl k b) (b + 1) c i)) (nI (b + 1)) (nI (mnT (tbl k b) (b + 1) c i)) (nI (i + 1)) := by
    intro N
    induction N with
    | zero => intro i z; omega
    | succ N ih =>
      intro i z1 z2
      have hmn := mn_lec (tbl k b) (b + 1) c i
      have fin : i = min k b → w_X9_trials_B161 post (nI n) (nI k) p3 k39 f (oF (fsT (tbl k b) (b + 1) c i)) (nI (b + 1)) (nI (mnT (tbl k b) (b + 1) c i)) := by
        intro e
        unfold w_X9_trials_B161
        refine ⟨vp_in_nI (by omega) (by decide), ?_⟩
        rw [nI_clamp (by omega), nI_1, e]
        exact p
      unfold w_X9_trials_B66
      refine pk_lt k (i + 1) (fun z => fin (by omega)) (fun z => pk_le (b + 1) (i + 1) (fun z2 => fin (by omega)) (fun z2 => ?_))
      rw [pk_sub (by omega), nI_clamp (by omega), nI_clamp (by omega), h (i + 1) (by omega) (by omega), h (b + 1 - (i + 1)) (by omega) (by omega)]
      have a1 := tbl_le hk b (i + 1) (by omega) (by omega)
      have a2 := tbl_le hk b (b + 1 - (i + 1)) (by omega) (by omega)
      have hc := cand_le (k := k) (b := b) (c := b + 1) (s := i + 1) hk (by omega) z2 (Nat.le_refl _)
      have go : ∀ v : Nat, max (tbl k b (i + 1)) (tbl k b (b + 1 - (i + 1))) = v → w_X9_trials_B120 post (nI n) (nI k) p3 k39 (fun f_enough x4 x5 x6 x7 => w_X9_trials_B66 post (nI n) (nI k) p3 k39 N f_enough x4 x5 x6 x7) f (oF (fsT (tbl k b) (b + 1) c i)) (nI (b + 1)) (nI (mnT (tbl k b) (b + 1) c i)) (nI (i + 1)) (1 : Int32) (nI v) := by
        intro v ev
        unfold w_X9_trials_B120
        have e1 : (1 : Int32) + nI v = nI (cand (tbl k b) (b + 1) (i + 1)) := by
          rw [show (1 : Int32) = nI 1 from rfl, nI_add]
          unfold cand
          rw [ev]
        rw [e1]
        have nx := ih (i + 1) (by omega) (by omega)
        rw [fsT, mnT] at nx
        unfold w_X9_trials_B137 w_X9_trials_B153
        dsimp only
        rw [nI_1]
        refine pk_le (mnT (tbl k b) (b + 1) c i) (cand (tbl k b) (b + 1) (i + 1)) (fun q => ⟨fun _ => ?_, fun q2 => absurd (nI_le q (by omega)) q2⟩) (fun q => ⟨fun q2 => absurd q2 (nI_ge q (by omega)), fun _ => ?_⟩)
        · rw [if_neg (by omega), Nat.min_eq_left q] at nx
          exact nx
        · rw [if_pos q, Nat.min_eq_right (by omega)] at nx
          have e2 : oF (i + 1) = nI (i + 1) := if_neg (by omega)
          rw [e2] at nx
          exact nx
      refine ⟨vp_in_nI (by omega) (by decide), vp_in_nI (by omega) (by decide), ?_⟩
      refine pk_le (tbl k b (i + 1)) (tbl k b (b + 1 - (i + 1))) (fun q => ⟨vp_in_nI (by omega) (by decide), go _ (Nat.max_eq_right q)⟩) (fun q => ⟨vp_in_nI (by omega) (by decide), go _ (Nat.max_eq_left (by omega))⟩)
  unfold w_X9_trials_B57
  exact ⟨min k b + 1, key _ 0 (by omega) (by omega)⟩
theorem fsT_0 (F : Nat → Nat) (b : Nat) : ∀ i, fsT F b 0 i = 0 := by
  intro i
  induction i with
  | zero => rfl
  | succ i ih =>
    have := mn_lec F b 0 i
    rw [fsT, if_neg (by omega), ih]
theorem mnT_0 (F : Nat → Nat) (b : Nat) : ∀ i, mnT F b 0 i = 0 := fun i => Nat.le_zero.mp (mn_lec F b 0 i)
/-- the first bowls taken by the reference at the last -/
def frT (k n : Nat) : Nat := fsT (tbl k (n - 1)) n (if n = 1 then 0 else 1000000) (min k (n - 1))
theorem r_trialsL {post : Int32 → (Nat → Int32) → Prop} {k n : Nat} {f : Nat → Int32} {p3 : Int32} (hk : 1 ≤ k) (hk2 : k ≤ 20) (h1 : 1 ≤ n) (hn : n ≤ 99) (p : ∀ f', tbF (tbl k n) n f' → (p3 = 0 → vp_in (nI n) 100 ∧ post (f' (nI n).toNatClampNeg) f') ∧ (¬ p3 = 0 → post (oF (frT k n)) f')) : ∃ N, w_X9_trials_B39 post (nI n) (nI k) p3 N f (-6) 1 := by
  have key : ∀ N b f x4, n - b < N → b ≤ n → (b = n → x4 = oF (frT k n)) → tbF (tbl k b) b f → w_X9_trials_B39 post (nI n) (nI k) p3 N f x4 (nI (b + 1)) := by
    intro N
    induction N with
    | zero => intro b f x4 z; omega
    | succ N ih =>
      intro b f x4 z1 z2 hx h
      unfold w_X9_trials_B39
      refine pk_lt n (b + 1) (fun z => ?_) (fun z => ?_)
      · have e : b = n := by omega
        rw [hx e]
        subst e
        exact p f h
      · have go : ∀ c, c = (if b + 1 = 1 then 0 else 1000000) → w_X9_trials_B57 post (nI n) (nI k) p3 (fun f_enough x4 x5 => w_X9_trials_B39 post (nI n) (nI k) p3 N f_enough x4 x5) f (nI (b + 1)) (nI c) := by
          intro c ec
          refine r_bowlB hk hk2 h (by omega) (by rw [ec]; split <;> omega) ?_
          refine ih (b + 1) _ _ (by omega) (by omega) (fun e => ?_) (fun j g1 g2 => ?_)
          · unfold frT
            rw [← e, ← ec]; rfl
          · rw [tbl]
            by_cases ej : j = b + 1
            · subst ej
              rw [upd_s, nup_s]
              rcases Nat.eq_zero_or_pos b with z | z
              · subst z
                rw [if_pos rfl] at ec
                rw [ec, if_pos rfl]
              · rw [if_neg (by omega)] at ec
                rw [if_neg (by omega), ec]
                have hc := cand_le (k := k) (b := b) (c := b + 1) (s := 1) hk (Nat.le_refl _) (by omega) (Nat.le_refl _)
                rw [mn_cap (c := 1000000) (c' := 99) (by omega) (by omega) _ (by omega)]
            · rw [upd_n ej, nup_n ej]; exact h j g1 (by omega)
        exact pk_eq (b + 1) 1 (fun e => go 0 (by rw [if_pos e])) (fun e => go 1000000 (by rw [if_neg e]))
  exact ⟨n + 1, key (n + 1) 0 f (-6) (by omega) (by omega) (fun e => by omega) (fun j g1 g2 => by omega)⟩
theorem frT_prop {k n : Nat} (hk : 1 ≤ k) (h1 : 1 ≤ n) (hn : n ≤ 99) : if n = 1 then frT k n = 0 else 1 ≤ frT k n ∧ frT k n ≤ min k (n - 1) ∧ cand (tbl k n) n (frT k n) = tbl k n n ∧ ∀ s, 1 ≤ s → s < frT k n → cand (tbl k n) n s ≠ tbl k n n := by
  by_cases en : n = 1
  · rw [if_pos en]
    subst en
    unfold frT
    rw [if_pos rfl]
    exact fsT_0 _ _ _
  · rw [if_neg en]
    obtain ⟨b, rfl⟩ : ∃ b, n = b + 1 := ⟨n - 1, by omega⟩
    have hc := cand_le (k := k) (b := b) (c := b + 1) (s := 1) hk (Nat.le_refl _) (by omega) (Nat.le_refl _)
    unfold frT
    rw [if_neg en, show b + 1 - 1 = b by omega]
    obtain ⟨g1, g2, g3, g4⟩ := fs_prop (F := tbl k b) (b := b + 1) (c := 1000000) (by omega) (min k b) (by omega)
    have ce : ∀ s, 1 ≤ s → s ≤ b → cand (tbl k (b + 1)) (b + 1) s = cand (tbl k b) (b + 1) s := by
      intro s q1 q2
      unfold cand
      rw [tbl_up k b s (by omega), tbl_up k b (b + 1 - s) (by omega)]
    have et : tbl k (b + 1) (b + 1) = mnT (tbl k b) (b + 1) 1000000 (min k b) := by
      rw [tbl, nup_s, if_neg (by omega), mn_cap (c := 99) (c' := 1000000) (by omega) (by omega) _ (by omega)]
    rw [et]
    refine ⟨g1, g2, ?_, fun s q1 q2 => ?_⟩
    · rw [ce _ g1 (by omega)]; exact g3
    · rw [ce s q1 (by omega)]; exact g4 s q1 q2
theorem e_trials {fe ee : Nat → Int32} {p1 p2 p3 : Int32} : w_X8_trials (fun r _ => w_X9_trials (fun r' _ => r = r') ee p1 p2 p3) fe p1 p2 p3 := by
  unfold w_X8_trials
  rcases y_rng p1 1 99 with ⟨n, hn, hn2, rfl⟩ | o1
  · refine s8_in 1 99 hn hn2 (by decide) (y_1 ?_)
    rcases y_rng p2 1 20 with ⟨k, hk, hk2, rfl⟩ | o2
    · refine s8_in 1 20 hk hk2 (by decide) (y_1 ?_)
      rcases y_rng0 p3 1 with ⟨k3, hk3, rfl⟩ | o3
      · refine s8_in 0 1 (Nat.zero_le _) hk3 (by decide) (y_1 (s_weigh hk hk2 hn hn2 (fun f' hf' => ?_)))
        have ref : ∀ v, (nI k3 = 0 → v = nI (tbl k n n)) → (¬ nI k3 = 0 → v = oF (frT k n)) → w_X9_trials (fun r' _ => v = r') ee (nI n) (nI k) (nI k3) := by
          intro v v0 v1
          unfold w_X9_trials
          refine s9_in 1 99 hn hn2 (by decide) (y_1 (s9_in 1 20 hk hk2 (by decide) (y_1 (s9_in 0 1 (Nat.zero_le _) hk3 (by decide) (y_1 (r_trialsL hk hk2 hn hn2 (fun g hg => ⟨fun z => ⟨vp_in_nI (by omega) (by decide), ?_⟩, fun z => v1 z⟩)))))))
          rw [nI_clamp (by omega), hg n hn (Nat.le_refl _)]
          exact v0 z
        refine ⟨fun z => s_fewest hf' hn (Nat.le_refl _) hn2 (ref _ (fun _ => rfl) (fun q => absurd z q)), fun z => ?_⟩
        exact s_least hk hk2 hn hn2 hf' (frT k n) (frT_prop hk hn hn2) (ref _ (fun q => absurd q z) (fun _ => rfl))
      · refine s8_out o3 (y_0 ?_)
        unfold w_X9_trials
        exact s9_in 1 99 hn hn2 (by decide) (y_1 (s9_in 1 20 hk hk2 (by decide) (y_1 (s9_out o3 (y_0 rfl)))))
    · refine s8_out o2 (y_0 ?_)
      unfold w_X9_trials
      exact s9_in 1 99 hn hn2 (by decide) (y_1 (s9_out o2 (y_0 rfl)))
  · refine s8_out o1 (y_0 ?_)
    unfold w_X9_trials
    exact s9_out o1 (y_0 rfl)
