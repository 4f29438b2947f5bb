-- the pair of calls: ask
def tlI (e : Nat → Nat) (D L : Nat) : Nat → Nat → Nat
  | 0, _ => 0
  | i + 1, v => tlI e D L i v + (if lossN (e i) D L = v then 1 else 0)
def mxI (e : Nat → Nat) (D L : Nat) : Nat → Nat
  | 0 => 0
  | i + 1 => max (mxI e D L i) (tlI e D L (i + 1) (lossN (e i) D L))
theorem tl_le (e : Nat → Nat) (D L : Nat) : ∀ i v, tlI e D L i v ≤ i := by
  intro i
  induction i with
  | zero => intro v; exact Nat.le_refl _
  | succ i ih => intro v; have := ih v; rw [tlI]; split <;> omega
theorem mx_le (e : Nat → Nat) (D L : Nat) : ∀ i, mxI e D L i ≤ i := by
  intro i
  induction i with
  | zero => exact Nat.le_refl _
  | succ i ih => have := tl_le e D L (i + 1) (lossN (e i) D L); rw [mxI]; omega
theorem mx_pos (e : Nat → Nat) (D L : Nat) : ∀ i, 1 ≤ i → 1 ≤ mxI e D L i := by
  intro i hi
  obtain ⟨i, rfl⟩ : ∃ j, i = j + 1 := ⟨i - 1, by omega⟩
  rw [mxI, tlI, if_pos rfl]
  omega
theorem y_max2 {a b : Nat} (ha : a < 2 ^ 31) (hb : b < 2 ^ 31) : (if nI a < nI b then nI b else nI a) = nI (max a b) := y_maxI ha hb
theorem s_fill {post : (Nat → Int32) → Prop} {t : Nat → Int32} (p : ∀ t', (∀ v, v < 46 → t' v = nI 0) → post t') : w_J7_fill_53178 post t 0 := by
  have key : ∀ N k t, 46 - k < N → k ≤ 46 → (∀ v, v < k → t v = nI 0) → w_J7_fill_53178_B5 post 0 N t (nI k) 46 := by
    intro N
    induction N with
    | zero => intro k t z; omega
    | succ N ih =>
      intro k t z1 z2 h
      unfold w_J7_fill_53178_B5
      refine pk_le 46 k (fun z => p t (fun v hv => h v (by omega))) (fun z => ⟨vp_in_nI z (by decide), ?_⟩)
      rw [nI_clamp (by omega), nI_1]
      refine ih (k + 1) _ (by omega) (by omega) (fun v hv => ?_)
      by_cases q : v = k
      · rw [q, upd_s]; rfl
      · rw [upd_n q]; exact h v (by omega)
  exact ⟨47, key 47 0 t (by omega) (by omega) (fun v hv => by omega)⟩
theorem s_left {post : Int32 → (Nat → Int32) → Prop} {fi t : Nat → Int32} {e : Nat → Nat} {C D L : Nat} (hC : C ≤ 100) (he : ∀ i, i < C → fi i = nI (e i) ∧ e i < 100) (hD : D ≤ 3) (hL : L ≤ 1) (p : ∀ t', post (nI (mxI e D L C)) t') : w_X2_leftAtMost post fi t (nI C) (nI (10 * D + L)) := by
  unfold w_X2_leftAtMost
  refine s_fill (fun t0 h0 => ?_)
  have key : ∀ N i t, C - i < N → i ≤ C → (∀ v, v < 46 → t v = nI (tlI e D L i v)) → w_X2_leftAtMost_B12 post fi (nI C) (nI (10 * D + L)) N t (nI (mxI e D L i)) (nI i) := by
    intro N
    induction N with
    | zero => intro i t z; omega
    | succ N ih =>
      intro i t z1 z2 h
      unfold w_X2_leftAtMost_B12
      refine pk_le C i (fun z => ?_) (fun z => pk_le 100 i (fun q => absurd q (by omega)) (fun q => ⟨vp_in_nI q (by decide), ?_⟩))
      · rw [show i = C by omega]; exact p t
      · obtain ⟨e1, e2⟩ := he i z
        rw [nI_clamp (by omega), e1]
        refine s_lossIf e2 hD hL ?_
        have hl := lossN_le (D := D) e2 hL
        have hv := vp_in_nI (n := lossN (e i) D L) (N := 46) (by omega) (by decide)
        refine s8_in 0 45 (Nat.zero_le _) hl (by decide) (y_1 ⟨hv, hv, hv, ?_⟩)
        intro y ey
        have a1 := tl_le e D L i (lossN (e i) D L)
        have a2 := mx_le e D L i
        have a3 : tlI e D L i (lossN (e i) D L) + 1 = tlI e D L (i + 1) (lossN (e i) D L) := by rw [tlI, if_pos rfl]
        rw [nI_clamp (by omega), upd_s, h _ (by omega), nI_1, y_max2 (by omega) (by omega), a3] at ey
        rw [ey, nI_clamp (by omega), h _ (by omega), nI_1, nI_1, a3]
        refine ih (i + 1) _ (by omega) (by omega) (fun v hv => ?_)
        by_cases q : v = lossN (e i) D L
        · rw [q, upd_s]
        · rw [upd_n q, h v hv, tlI, if_neg (fun z => q z.symm), Nat.add_zero]
  exact ⟨C + 1, key (C + 1) 0 t0 (by omega) (by omega) (fun v hv => h0 v hv)⟩
/-- the best of the first saucers -/
def Mq (e : Nat → Nat) (C q : Nat) : Nat := mxI e (q / 2) (q % 2) C
def bq (e : Nat → Nat) (C : Nat) : Nat → Nat
  | 0 => 0
  | q + 1 => if Mq e C q < Mq e C (bq e C q) then q else bq e C q
def qc (q : Nat) : Nat := 10 * (q / 2) + q % 2
theorem bq_le (e : Nat → Nat) (C : Nat) : ∀ q, bq e C q ≤ q := by
  intro q
  induction q with
  | zero => exact Nat.le_refl _
  | succ q ih => rw [bq]; split <;> omega
theorem bq_lt (e : Nat → Nat) (C : Nat) : ∀ q, q ≤ 8 → bq e C q < 8 := by
  intro q
  induction q with
  | zero => intro _; rw [bq]; omega
  | succ q ih => intro h; have := ih (by omega); rw [bq]; split <;> omega
theorem Mq_le (e : Nat → Nat) (C q : Nat) : Mq e C q ≤ C := mx_le e _ _ C
theorem s_leftQ {post : Int32 → (Nat → Int32) → Prop} {fi t : Nat → Int32} {e : Nat → Nat} {C q : Nat} (hC : C ≤ 100) (he : ∀ i, i < C → fi i = nI (e i) ∧ e i < 100) (hq : q < 8) (p : ∀ t', post (nI (Mq e C q)) t') : w_X2_leftAtMost post fi t (nI C) (nI (qc q)) := s_left hC he (by omega) (by omega) p
theorem s_best {post : Int32 → (Nat → Int32) → Prop} {fi t : Nat → Int32} {e : Nat → Nat} {C : Nat} (hC : C ≤ 100) (he : ∀ i, i < C → fi i = nI (e i) ∧ e i < 100) (p : ∀ t', post (nI (qc (bq e C 8))) t') : w_X2_bestSaucer post fi t (nI C) := by
  have inner : ∀ d, d < 4 → ∀ k4 : (Nat → Int32) → Int32 → Int32 → Prop, (∀ t', k4 t' (nI (qc (bq e C (2 * d + 2)))) (nI (d + 1))) → ∀ N l t, 2 - l < N → l ≤ 2 → w_X2_bestSaucer_B14 post fi (nI C) k4 N t (nI (qc (bq e C (2 * d + l)))) (nI d) (nI (10 * d + l)) := by
    intro d hd k4 hk N
    induction N with
    | zero => intro l t z; omega
    | succ N ih =>
      intro l t z1 z2
      unfold w_X2_bestSaucer_B14
      have e1 : (10 : Int32) * nI d + (1 : Int32) = nI (10 * d + 1) := by rw [show (10 : Int32) = nI 10 from rfl, show (1 : Int32) = nI 1 from rfl, pk_mul, nI_add]
      rw [e1]
      refine pk_lt (10 * d + 1) (10 * d + l) (fun z => ?_) (fun z => ?_)
      · have el : l = 2 := by omega
        subst el
        rw [nI_1]; exact hk t
      · have eq1 : 10 * d + l = qc (2 * d + l) := by unfold qc; omega
        have nx : ∀ t', w_X2_bestSaucer_B14 post fi (nI C) k4 N t' (nI (qc (bq e C (2 * d + (l + 1))))) (nI d) (nI (10 * d + (l + 1))) := fun t' => ih (l + 1) t' (by omega) (by omega)
        have hb := bq_lt e C (2 * d + l) (by omega)
        have m1 := Mq_le e C (2 * d + l)
        have m2 := Mq_le e C (bq e C (2 * d + l))
        have ebq : bq e C (2 * d + (l + 1)) = if Mq e C (2 * d + l) < Mq e C (bq e C (2 * d + l)) then 2 * d + l else bq e C (2 * d + l) := rfl
        rw [ebq] at nx
        rw [nI_1]
        have L1 : ∀ post : Int32 → (Nat → Int32) → Prop, (∀ t', post (nI (Mq e C (2 * d + l))) t') → w_X2_leftAtMost post fi t (nI C) (nI (10 * d + l)) := by
          intro post hp
          rw [eq1]
          exact s_leftQ hC he (by omega) hp
        refine L1 _ (fun t1 => s_leftQ hC he hb (fun t2 => ?_))
        refine pk_le (Mq e C (bq e C (2 * d + l))) (Mq e C (2 * d + l)) (fun q => ?_) (fun q => ?_)
        · rw [if_neg (by omega)] at nx; exact nx t2
        · rw [if_pos q, ← eq1] at nx; exact nx t2
  have outer : ∀ N d t, 4 - d < N → d ≤ 4 → w_X2_bestSaucer_B4 post fi (nI C) N t (nI (qc (bq e C (2 * d)))) (nI d) := by
    intro N
    induction N with
    | zero => intro d t z; omega
    | succ N ih =>
      intro d t z1 z2
      unfold w_X2_bestSaucer_B4
      refine pk_lt 3 d (fun z => ?_) (fun z => ?_)
      · have ed : d = 4 := by omega
        subst ed
        exact p t
      · have e0 : (10 : Int32) * nI d = nI (10 * d) := by rw [show (10 : Int32) = nI 10 from rfl, pk_mul]
        rw [e0]
        exact ⟨3, inner d (by omega) _ (fun t' => ih (d + 1) t' (by omega) (by omega)) 3 0 t (by omega) (by omega)⟩
  have k0 := outer 5 0 t (by omega) (by omega)
  rw [show bq e C (2 * 0) = 0 from by rw [Nat.mul_zero, bq], show qc 0 = 0 from by decide] at k0
  exact ⟨5, k0⟩
/-- the reference's found and least after q saucers -/
def fdQ (e : Nat → Nat) (C q : Nat) : Int32 := if q = 0 ∨ C = 0 then -6 else nI (qc (bq e C q))
def lsQ (e : Nat → Nat) (C q : Nat) : Nat := if q = 0 ∨ C = 0 then 1000000 else Mq e C (bq e C q)
theorem r_askQ {post : Int32 → (Nat → Int32) → Prop} {n : Nat} {D L V : Nat → Nat} {st : Nat → Int32} {p1 : Int32} {e : Nat → Nat} {C : Nat} (h1 : sgOk n D L V) (h2 : sgM n D L V st) (hC : fcN (fitB n D L V) 100 = C) (he : ∀ g, g < 100 → fitB n D L V g = true → e (fcN (fitB n D L V) g) = g) {k21 : (Nat → Int32) → Int32 → Int32 → Int32 → Prop} {k30 : (Nat → Int32) → Int32 → Int32 → Int32 → Int32 → Prop} {d l : Nat} (hd : d < 4) (hl : l < 2) (p : ∀ c', k30 c' (fdQ e C (2 * d + l + 1)) (nI (lsQ e C (2 * d + l + 1))) (nI d) (nI (l + 1))) (c : Nat → Int32) : ∃ N, w_X9_ask_B42 post (nI n) st p1 k21 k30 N c (fdQ e C (2 * d + l)) (nI (lsQ e C (2 * d + l))) (nI d) (nI l) 0 0 := by
  have hC100 : C ≤ 100 := by rw [← hC]; exact fc_le _ _
  have mq : Mq e C (2 * d + l) = mxI e d l C := by unfold Mq; rw [show (2 * d + l) / 2 = d by omega, show (2 * d + l) % 2 = l by omega]
  have tail : ∀ c', (mxI e d l C ≤ 0 ∨ lsQ e C (2 * d + l) ≤ mxI e d l C → w_X9_ask_B151 post (nI n) st p1 k21 k30 c' (fdQ e C (2 * d + l)) (nI (lsQ e C (2 * d + l))) (nI d) (nI l) (nI (mxI e d l C))) ∧ (0 < mxI e d l C ∧ mxI e d l C < lsQ e C (2 * d + l) → w_X9_ask_B152 post (nI n) st p1 k21 k30 c' (fdQ e C (2 * d + l)) (nI (lsQ e C (2 * d + l))) (nI d) (nI l) (nI (mxI e d l C)) 1) := by
    intro c'
    have ebq : bq e C (2 * d + l + 1) = if Mq e C (2 * d + l) < Mq e C (bq e C (2 * d + l)) then 2 * d + l else bq e C (2 * d + l) := rfl
    have hp := p c'
    constructor
    · intro q
      unfold w_X9_ask_B151 w_X9_ask_B152 w_X9_ask_B171 w_X9_ask_B183
      refine y_0 (y_0 ?_)
      rw [nI_1]
      have ef : fdQ e C (2 * d + l + 1) = fdQ e C (2 * d + l) ∧ lsQ e C (2 * d + l + 1) = lsQ e C (2 * d + l) := by
        unfold fdQ lsQ
        unfold lsQ at q
        by_cases c0 : C = 0
        · rw [if_pos (Or.inr c0), if_pos (Or.inr c0), if_pos (Or.inr c0), if_pos (Or.inr c0)]
          exact ⟨rfl, rfl⟩
        · have hpos := mx_pos e d l C (by omega)
          have hle := mx_le e d l C
          rcases Nat.eq_zero_or_pos (2 * d + l) with z | z
          · rw [if_pos (Or.inl z)] at q; omega
          · rw [if_neg (by omega)] at q
            rw [if_neg (by omega), if_neg (by omega), if_neg (by omega), if_neg (by omega), ebq, if_neg (by rw [mq]; omega)]
            exact ⟨rfl, rfl⟩
      rw [ef.1, ef.2] at hp
      exact hp
    · intro q
      unfold w_X9_ask_B152 w_X9_ask_B171 w_X9_ask_B183
      refine y_1 (y_1 ?_)
      have c0 : C ≠ 0 := by
        intro z
        have := mx_le e d l C
        omega
      have ei : (10 : Int32) * nI d + nI l = nI (10 * d + l) := by rw [show (10 : Int32) = nI 10 from rfl, pk_mul, nI_add]
      rw [ei, nI_1]
      have eb : bq e C (2 * d + l + 1) = 2 * d + l := by
        rw [ebq]
        rcases Nat.eq_zero_or_pos (2 * d + l) with z | z
        · have b0 : bq e C (2 * d + l) = 2 * d + l := by rw [z]; rfl
          split
          · rfl
          · exact b0
        · unfold lsQ at q
          rw [if_neg (by omega)] at q
          rw [if_pos (by rw [mq]; exact q.2)]
      have ef : fdQ e C (2 * d + l + 1) = nI (10 * d + l) ∧ lsQ e C (2 * d + l + 1) = mxI e d l C := by
        unfold fdQ lsQ
        rw [if_neg (by omega), if_neg (by omega), eb, mq]
        refine ⟨?_, rfl⟩
        unfold qc
        rw [show (2 * d + l) / 2 = d by omega, show (2 * d + l) % 2 = l by omega]
      rw [ef.1, ef.2] at hp
      exact hp
  have hls : lsQ e C (2 * d + l) < 2 ^ 31 := by
    unfold lsQ
    split
    · decide
    · have := Mq_le e C (bq e C (2 * d + l)); omega
  have codes : ∀ N k c, 100 - k < N → k ≤ 100 → (∀ v, v < 46 → c v = nI (tlI e d l (fcN (fitB n D L V) k) v)) → w_X9_ask_B66 post (nI n) st p1 k21 k30 N c (fdQ e C (2 * d + l)) (nI (lsQ e C (2 * d + l))) (nI d) (nI l) (nI (mxI e d l (fcN (fitB n D L V) k))) (nI k) := by
    intro N
    induction N with
    | zero => intro k c z; omega
    | succ N ih =>
      intro k c z1 z2 h
      unfold w_X9_ask_B66
      refine pk_le 100 k (fun z => ?_) (fun z => ?_)
      · have ek : k = 100 := by omega
        subst ek
        rw [hC]
        have hm := mx_le e d l C
        refine pk_le (mxI e d l C) 0 (fun q => (tail c).1 (Or.inl q)) (fun q => pk_le (lsQ e C (2 * d + l)) (mxI e d l C) (fun q2 => (tail c).1 (Or.inr q2)) (fun q2 => (tail c).2 ⟨q, q2⟩))
      · have hk := fc_le (fitB n D L V) k
        refine r_isFit h1 h2 z (y_01 (fun q => ?_) (fun q => ?_))
        · have ek : fcN (fitB n D L V) (k + 1) = fcN (fitB n D L V) k := by rw [fcN, if_neg q]; rfl
          have nx := ih (k + 1) c (by omega) (by omega)
          rw [ek] at nx
          dsimp only
          rw [nI_1]
          exact nx h
        · have ek : fcN (fitB n D L V) (k + 1) = fcN (fitB n D L V) k + 1 := by rw [fcN, if_pos q]
          have nx := fun c => ih (k + 1) c (by omega) (by omega)
          rw [ek] at nx
          have hll := lossN_le (g := k) (D := d) (L := l) z (by omega)
          have ee := he k z q
          generalize fcN (fitB n D L V) k = i at *
          have a1 := tl_le e d l i (lossN k d l)
          have a2 := mx_le e d l i
          have a3 : tlI e d l i (lossN k d l) + 1 = tlI e d l (i + 1) (lossN k d l) := by rw [tlI, ee, if_pos rfl]
          have em : mxI e d l (i + 1) = max (mxI e d l i) (tlI e d l (i + 1) (lossN k d l)) := by rw [mxI, ee]
          rw [em] at nx
          have hv := vp_in_nI (n := lossN k d l) (N := 100) (by omega) (by decide)
          refine r_lossOf z (by omega) ⟨hv, hv, hv, ?_⟩
          rw [nI_clamp (by omega), upd_s, h _ (by omega), nI_1, a3]
          have hc' : ∀ v, v < 46 → upd c (lossN k d l) (nI (tlI e d l (i + 1) (lossN k d l))) v = nI (tlI e d l (i + 1) v) := by
            intro v hv
            by_cases q : v = lossN k d l
            · rw [q, upd_s]
            · rw [upd_n q, h v hv, tlI, ee, if_neg (fun z => q z.symm), Nat.add_zero]
          unfold w_X9_ask_B128
          dsimp only
          rw [nI_1]
          refine pk_le (tlI e d l (i + 1) (lossN k d l)) (mxI e d l i) (fun q => ?_) (fun q => ⟨hv, ?_⟩)
          · have := nx _ hc'
            rw [Nat.max_eq_left q] at this; exact this
          · have := nx _ hc'
            rw [Nat.max_eq_right (by omega)] at this; exact this
  have reset : ∀ N k c, 100 - k < N → k ≤ 100 → (∀ v, v < k → c v = nI 0) → w_X9_ask_B42 post (nI n) st p1 k21 k30 N c (fdQ e C (2 * d + l)) (nI (lsQ e C (2 * d + l))) (nI d) (nI l) 0 (nI k) := by
    intro N
    induction N with
    | zero => intro k c z; omega
    | succ N ih =>
      intro k c z1 z2 h
      unfold w_X9_ask_B42
      refine pk_le 100 k (fun z => ⟨101, codes 101 0 c (by omega) (by omega) (fun v hv => h v (by omega))⟩) (fun z => ⟨vp_in_nI z (by decide), ?_⟩)
      rw [nI_clamp (by omega), nI_1]
      refine ih (k + 1) _ (by omega) (by omega) (fun v hv => ?_)
      by_cases q : v = k
      · rw [q, upd_s]; rfl
      · rw [upd_n q]; exact h v (by omega)
  exact ⟨101, reset 101 0 c (by omega) (by omega) (fun v hv => by omega)⟩
theorem r_ask {post : Int32 → (Nat → Int32) → Prop} {n : Nat} {D L V : Nat → Nat} {st c0 : Nat → Int32} {p1 : Int32} {e : Nat → Nat} {C : Nat} (h1 : sgOk n D L V) (h2 : sgM n D L V st) (hC : fcN (fitB n D L V) 100 = C) (he : ∀ g, g < 100 → fitB n D L V g = true → e (fcN (fitB n D L V) g) = g) (p : ∀ c', (fdQ e C 8 < 0 → post (fdQ e C 8) c') ∧ (¬ fdQ e C 8 < 0 → (p1 = 0 → post (fdQ e C 8) c') ∧ (¬ p1 = 0 → post (nI (lsQ e C 8)) c'))) : ∃ N, w_X9_ask_B21 post (nI n) st p1 N c0 (-6) 1000000 0 := by
  have lies : ∀ d, d < 4 → ∀ k21 : (Nat → Int32) → Int32 → Int32 → Int32 → Prop, (∀ c', k21 c' (fdQ e C (2 * d + 2)) (nI (lsQ e C (2 * d + 2))) (nI (d + 1))) → ∀ N l c, 2 - l < N → l ≤ 2 → w_X9_ask_B30 post (nI n) st p1 k21 N c (fdQ e C (2 * d + l)) (nI (lsQ e C (2 * d + l))) (nI d) (nI l) := by
    intro d hd k21 hk N
    induction N with
    | zero => intro l c z; omega
    | succ N ih =>
      intro l c z1 z2
      unfold w_X9_ask_B30
      refine pk_le 2 l (fun z => ?_) (fun z => ?_)
      · have el : l = 2 := by omega
        subst el
        rw [nI_1]; exact hk c
      · exact r_askQ h1 h2 hC he hd z (fun c' => ih (l + 1) c' (by omega) (by omega)) c
  have outer : ∀ N d c, 4 - d < N → d ≤ 4 → w_X9_ask_B21 post (nI n) st p1 N c (fdQ e C (2 * d)) (nI (lsQ e C (2 * d))) (nI d) := by
    intro N
    induction N with
    | zero => intro d c z; omega
    | succ N ih =>
      intro d c z1 z2
      unfold w_X9_ask_B21 w_X9_ask_B204
      refine pk_le 4 d (fun z => ?_) (fun z => ?_)
      · have ed : d = 4 := by omega
        subst ed
        exact p c
      · exact ⟨3, lies d z _ (fun c' => ih (d + 1) c' (by omega) (by omega)) 3 0 c (by omega) (by omega)⟩
  exact ⟨5, outer 5 0 c0 (by omega) (by omega)⟩
theorem e_ask {sa lo st fi ta co : Nat → Int32} {cn rn fc0 p1 : Int32} (h : RS sa lo cn rn st) : w_X8_ask (fun r _ _ _ => w_X9_ask (fun r' _ => r = r') rn st co p1) sa lo cn fi ta fc0 p1 := by
  obtain ⟨n, D, L, V, h1, h2, h3, rfl, rfl⟩ := h
  unfold w_X8_ask
  rcases y_rng0 p1 1 with ⟨k, hk, rfl⟩ | o1
  · refine s8_in 0 1 (Nat.zero_le _) hk (by decide) (y_1 (s_gather h1 h2 (fun fi' hfi => ?_)))
    generalize hCe : fcN (fitB n D L V) 100 = C at *
    have hC100 : C ≤ 100 := by rw [← hCe]; exact fc_le _ _
    have he : ∀ i, i < C → fi' i = nI ((fi' i).toNatClampNeg) ∧ (fi' i).toNatClampNeg < 100 := by
      intro i hi
      rw [← hCe] at hi
      obtain ⟨g, hg, hf, hgk⟩ := fc_ex 100 i hi
      have e9 : fi' i = nI g := by rw [← hgk]; exact hfi g hg hf
      rw [e9, nI_clamp (by omega)]
      exact ⟨rfl, hg⟩
    have he2 : ∀ g, g < 100 → fitB n D L V g = true → (fun i => (fi' i).toNatClampNeg) (fcN (fitB n D L V) g) = g := by
      intro g hg hf
      show (fi' (fcN (fitB n D L V) g)).toNatClampNeg = g
      rw [hfi g hg hf, nI_clamp (by omega)]
    have ref : ∀ v, (∀ _ : Nat → Int32, (fdQ (fun i => (fi' i).toNatClampNeg) C 8 < 0 → v = fdQ (fun i => (fi' i).toNatClampNeg) C 8) ∧ (¬ fdQ (fun i => (fi' i).toNatClampNeg) C 8 < 0 → (nI k = 0 → v = fdQ (fun i => (fi' i).toNatClampNeg) C 8) ∧ (¬ nI k = 0 → v = nI (lsQ (fun i => (fi' i).toNatClampNeg) C 8)))) → w_X9_ask (fun r' _ => v = r') (nI n) st co (nI k) := by
      intro v hv
      unfold w_X9_ask
      refine s9_in 0 1 (Nat.zero_le _) hk (by decide) (y_1 (r_ask h1 h3 hCe he2 (fun c' => hv co)))
    generalize hE : (fun i => (fi' i).toNatClampNeg) = E at *
    have heE : ∀ i, i < C → fi' i = nI (E i) ∧ E i < 100 := by
      intro i hi
      rw [← hE]; exact he i hi
    refine pk_eq C 0 (fun z => ?_) (fun z => ?_)
    · have ef : fdQ E C 8 = -6 := by unfold fdQ; rw [if_pos (Or.inr z)]
      rw [ef] at ref
      exact ref _ (fun _ => ⟨fun _ => rfl, fun q => absurd (by decide) q⟩)
    · have hb := bq_lt E C 8 (Nat.le_refl _)
      have ef : fdQ E C 8 = nI (qc (bq E C 8)) := by unfold fdQ; rw [if_neg (by omega)]
      have el : lsQ E C 8 = Mq E C (bq E C 8) := by unfold lsQ; rw [if_neg (by omega)]
      rw [ef, el] at ref
      have np : ¬ nI (qc (bq E C 8)) < 0 := nI_pos (by unfold qc; omega)
      refine s_best hC100 heE (fun t' => ⟨fun q => ?_, fun q => ?_⟩)
      · exact ref _ (fun _ => ⟨fun z => absurd z np, fun _ => ⟨fun _ => rfl, fun z => absurd q z⟩⟩)
      · exact s_leftQ hC100 heE hb (fun t2 => ref _ (fun _ => ⟨fun z => absurd z np, fun _ => ⟨fun z => absurd z q, fun _ => rfl⟩⟩))
  · refine s8_out o1 (y_0 ?_)
    unfold w_X9_ask
    exact s9_out o1 (y_0 rfl)
