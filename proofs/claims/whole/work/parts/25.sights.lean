-- sights: seen, forget, so, ask
def lossN (g D L : Nat) : Nat := g / 10 * (4 - D) + g % 10 * L
theorem lossN_le {g D L : Nat} (hg : g < 100) (hL : L ≤ 1) : lossN g D L ≤ 45 := by
  unfold lossN
  have h1 : g / 10 * (4 - D) ≤ 9 * 4 := Nat.mul_le_mul (by omega) (by omega)
  have h2 : g % 10 * L ≤ 9 * 1 := Nat.mul_le_mul (by omega) hL
  omega
theorem lossN_G {g D L : Nat} (hD : D ≤ 3) (hL : L ≤ 1) : lossG (g / 10) (g % 10) D (decide (L = 1)) = lossN g D L := by
  unfold lossG lossN
  rw [if_neg (by omega)]
  rcases Nat.eq_zero_or_pos L with e | e
  · subst e; rfl
  · have : L = 1 := by omega
    subst this
    simp
theorem y_div10 {q : Nat} (hq : q < 2 ^ 31) : nI q / (10 : Int32) = nI (q / 10) := pk_div hq (by decide) (by decide)
theorem y_rem10 {q : Nat} (hq : q < 2 ^ 31) : nI q - nI q / (10 : Int32) * (10 : Int32) = nI (q % 10) := pk_rem hq (by decide) (by decide)
theorem s_lossIf {post : Int32 → Prop} {g D L : Nat} (hg : g < 100) (hD : D ≤ 3) (hL : L ≤ 1) (p : post (nI (lossN g D L))) : w_X5_lossIf post (nI g) (nI (10 * D + L)) := by
  unfold w_X5_lossIf w_X5_lossIf_B17
  rw [y_rem10 (by omega), y_div10 (by omega), y_rem10 (by omega), y_div10 (by omega), show (10 * D + L) % 10 = L by omega, show (10 * D + L) / 10 = D by omega]
  rw [← lossN_G hD hL] at p
  refine pk_eq L 1 (fun e => ?_) (fun e => ?_)
  · have := s_lossAt (post := post) (d := D) (po := g / 10) (sp := g % 10) (b := decide (L = 1)) (by omega) (by omega) (by omega) p
    rw [if_pos (by simpa using e)] at this
    exact this
  · have := s_lossAt (post := post) (d := D) (po := g / 10) (sp := g % 10) (b := decide (L = 1)) (by omega) (by omega) (by omega) p
    rw [if_neg (by simpa using e)] at this
    exact this
theorem r_lossOf {post : Int32 → Prop} {g D L : Nat} (hg : g < 100) (hD : D ≤ 3) (p : post (nI (lossN g D L))) : w_X9_lossOf post (nI g) (nI D) (nI L) := by
  unfold w_X9_lossOf
  have e4 : (4 : Int32) - nI D = nI (4 - D) := pk_sub (a := 4) (b := D) (by omega)
  rw [y_rem10 (by omega), y_div10 (by omega), e4, pk_mul, pk_mul, nI_add]
  exact p
def sgOk (n : Nat) (D L V : Nat → Nat) : Prop := n ≤ 8 ∧ ∀ i, i < n → D i ≤ 3 ∧ L i ≤ 1 ∧ V i ≤ 99
def sgC (n : Nat) (D L V : Nat → Nat) (sa lo : Nat → Int32) : Prop := ∀ i, i < n → sa i = nI (10 * D i + L i) ∧ lo i = nI (V i)
def sgM (n : Nat) (D L V : Nat → Nat) (st : Nat → Int32) : Prop := ∀ i, i < n → st (3 * i) = nI (D i) ∧ st (3 * i + 1) = nI (L i) ∧ st (3 * i + 2) = nI (V i)
def RS (sa lo : Nat → Int32) (cn rn : Int32) (st : Nat → Int32) : Prop := ∃ (n : Nat) (D L V : Nat → Nat), sgOk n D L V ∧ sgC n D L V sa lo ∧ sgM n D L V st ∧ cn = nI n ∧ rn = nI n
theorem e_forget {sa lo st : Nat → Int32} {cn rn : Int32} (h : RS sa lo cn rn st) : w_X8_forget (fun r cn' => w_X9_forget (fun r' rn' => r = r' ∧ RS sa lo cn' rn' st) rn) cn := by
  obtain ⟨n, D, L, V, h1, h2, h3, rfl, rfl⟩ := h
  exact ⟨rfl, 0, D, L, V, ⟨by omega, fun i hi => by omega⟩, fun i hi => by omega, fun i hi => by omega, rfl, rfl⟩
theorem y_ix3 (i : Nat) : (3 : Int32) * nI i = nI (3 * i) := by rw [show (3 : Int32) = nI 3 from rfl, pk_mul]
theorem e_seen {sa lo st : Nat → Int32} {cn rn p1 p2 p3 : Int32} (h : RS sa lo cn rn st) : w_X8_seen (fun r sa' lo' cn' => w_X9_seen (fun r' rn' st' => r = r' ∧ RS sa' lo' cn' rn' st') rn st p1 p2 p3) sa lo cn p1 p2 p3 := by
  have h0 := h
  obtain ⟨n, D, L, V, h1, h2, h3, rfl, rfl⟩ := h
  have hn8 := h1.1
  unfold w_X8_seen
  rcases y_rng0 p1 3 with ⟨d, hd, rfl⟩ | o1
  · refine s8_in 0 3 (Nat.zero_le _) hd (by decide) (y_1 ?_)
    rcases y_rng0 p3 99 with ⟨v, hv, rfl⟩ | o3
    · refine s8_in 0 99 (Nat.zero_le _) hv (by decide) (y_1 ?_)
      have ref0 : ∀ post : Int32 → Int32 → (Nat → Int32) → Prop, ((nI n = (8 : Int32) → post (-4 : Int32) (nI n) st) ∧ (¬ nI n = (8 : Int32) → vp_in ((3 : Int32) * nI n) 24 ∧ (p2 = 0 → w_X9_seen_B67 post (nI d) p2 (nI v) (nI n) (upd st ((3 : Int32) * nI n).toNatClampNeg (nI d)) (((3 : Int32) * nI n) + (1 : Int32)) (0 : Int32)) ∧ (¬ p2 = 0 → w_X9_seen_B67 post (nI d) p2 (nI v) (nI n) (upd st ((3 : Int32) * nI n).toNatClampNeg (nI d)) (((3 : Int32) * nI n) + (1 : Int32)) (1 : Int32)))) → w_X9_seen post (nI n) st (nI d) p2 (nI v) := by
        intro post hp
        unfold w_X9_seen
        exact s9_in 0 3 (Nat.zero_le _) hd (by decide) (y_1 (s9_in 0 99 (Nat.zero_le _) hv (by decide) (y_1 hp)))
      refine pk_lt n 8 (fun hn => ?_) (fun hn => ?_)
      · have main : ∀ l : Nat, l ≤ 1 → (p2 = 0 → l = 0) → (¬ p2 = 0 → l = 1) → w_X5_keep (fun u57_0 u57_1 u57_2 => w_X9_seen (fun r' rn' st' => u57_2 = r' ∧ RS u57_0 u57_1 u57_2 rn' st') (nI n) st (nI d) p2 (nI v)) sa lo (nI n) (((10 : Int32) * nI d) + nI l) (nI v) := by
          intro l hl hl0 hl1
          unfold w_X5_keep
          refine s8_in 0 7 (Nat.zero_le _) (by omega) (by decide) (y_1 ⟨vp_in_nI hn (by decide), vp_in_nI hn (by decide), ?_⟩)
          have ec : (10 : Int32) * nI d + nI l = nI (10 * d + l) := by rw [show (10 : Int32) = nI 10 from rfl, pk_mul, nI_add]
          rw [ec, nI_clamp (by omega), nI_1]
          have fin : ∀ s : Nat → Int32, (∀ i, i < 3 * n → s i = st i) → s (3 * n) = nI d → s (3 * n + 1) = nI l → s (3 * n + 2) = nI v → RS (upd sa n (nI (10 * d + l))) (upd lo n (nI v)) (nI (n + 1)) (nI (n + 1)) s := by
            intro s q0 q1 q2 q3
            refine ⟨n + 1, nup D n d, nup L n l, nup V n v, ⟨by omega, fun i hi => ?_⟩, fun i hi => ?_, fun i hi => ?_, rfl, rfl⟩
            · by_cases e : i = n
              · subst e; rw [nup_s, nup_s, nup_s]; exact ⟨hd, hl, hv⟩
              · rw [nup_n e, nup_n e, nup_n e]; exact h1.2 i (by omega)
            · by_cases e : i = n
              · subst e; rw [upd_s, upd_s, nup_s, nup_s, nup_s]; exact ⟨rfl, rfl⟩
              · rw [upd_n e, upd_n e, nup_n e, nup_n e, nup_n e]; exact h2 i (by omega)
            · by_cases e : i = n
              · subst e; rw [nup_s, nup_s, nup_s]; exact ⟨q1, q2, q3⟩
              · rw [nup_n e, nup_n e, nup_n e, q0 _ (by omega), q0 _ (by omega), q0 _ (by omega)]; exact h3 i (by omega)
          refine ref0 _ ⟨fun q => ?_, fun _ => ?_⟩
          · have : n = 8 := (nI_eq (by omega) (by decide)).mp q
            omega
          · rw [y_ix3, nI_1, nI_clamp (by omega)]
            have b67 : w_X9_seen_B67 (fun r' rn' st' => nI (n + 1) = r' ∧ RS (upd sa n (nI (10 * d + l))) (upd lo n (nI v)) (nI (n + 1)) rn' st') (nI d) p2 (nI v) (nI n) (upd st (3 * n) (nI d)) (nI (3 * n + 1)) (nI l) := by
              unfold w_X9_seen_B67
              have e2 : (3 : Int32) * nI n + (2 : Int32) = nI (3 * n + 2) := by rw [y_ix3, show (2 : Int32) = nI 2 from rfl, nI_add]
              rw [e2, nI_1, nI_clamp (by omega), nI_clamp (by omega)]
              refine ⟨vp_in_nI (by omega) (by decide), vp_in_nI (by omega) (by decide), rfl, fin _ (fun i hi => ?_) ?_ ?_ ?_⟩
              · rw [upd_n (by omega), upd_n (by omega), upd_n (by omega)]
              · rw [upd_n (by omega), upd_n (by omega), upd_s]
              · rw [upd_n (by omega), upd_s]
              · rw [upd_s]
            refine ⟨vp_in_nI (by omega) (by decide), fun z => ?_, fun z => ?_⟩
            · rw [hl0 z] at b67 ⊢; exact b67
            · rw [hl1 z] at b67 ⊢; exact b67
        unfold w_X8_asNumber
        exact ⟨fun z => main 0 (by omega) (fun _ => rfl) (fun q => absurd z q), fun z => main 1 (by omega) (fun q => absurd q z) (fun _ => rfl)⟩
      · have e : n = 8 := by omega
        refine ref0 _ ⟨fun _ => ⟨rfl, h0⟩, fun q => absurd (by rw [e]; rfl) q⟩
    · refine s8_out o3 (y_0 ?_)
      unfold w_X9_seen
      exact s9_in 0 3 (Nat.zero_le _) hd (by decide) (y_1 (s9_out o3 (y_0 ⟨rfl, h0⟩)))
  · refine s8_out o1 (y_0 ?_)
    unfold w_X9_seen
    exact s9_out o1 (y_0 ⟨rfl, h0⟩)
/-- a guess fits all sights -/
def fitB (n : Nat) (D L V : Nat → Nat) (g : Nat) : Bool := decide (∀ i, i < n → lossN g (D i) (L i) = V i)
theorem fitB_iff {n : Nat} {D L V : Nat → Nat} {g : Nat} : fitB n D L V g = true ↔ ∀ i, i < n → lossN g (D i) (L i) = V i := by unfold fitB; simp
theorem s_allow {post : Int32 → Prop} {n : Nat} {D L V : Nat → Nat} {sa lo : Nat → Int32} {g : Nat} (h1 : sgOk n D L V) (h2 : sgC n D L V sa lo) (hg : g < 100) (p : post (if fitB n D L V g = true then 1 else 0)) : w_X5_allowGuess post sa lo (nI n) (nI g) := by
  have hn8 := h1.1
  have key : ∀ N i, n - i < N → i ≤ n → (∀ j, j < i → lossN g (D j) (L j) = V j) → w_X5_allowGuess_B2 post sa lo (nI n) (nI g) N (nI i) := by
    intro N
    induction N with
    | zero => intro i z; omega
    | succ N ih =>
      intro i z1 z2 hj
      unfold w_X5_allowGuess_B2
      refine pk_le n i (fun z => ?_) (fun z => pk_le 8 i (fun z3 => absurd z3 (by omega)) (fun z3 => ⟨vp_in_nI z3 (by decide), ?_⟩))
      · rw [if_pos (fitB_iff.mpr (fun j q => hj j (by omega)))] at p
        exact p
      · obtain ⟨e1, e2⟩ := h2 i z
        obtain ⟨b1, b2, b3⟩ := h1.2 i z
        rw [nI_clamp (by omega), e1, e2]
        have hl := lossN_le (D := D i) hg b2
        refine s_lossIf hg b1 b2 ⟨vp_in_nI z3 (by decide), ?_⟩
        refine pk_eq (lossN g (D i) (L i)) (V i) (fun e => ?_) (fun e => ?_)
        · rw [nI_1]
          refine ih (i + 1) (by omega) (by omega) (fun j q => ?_)
          rcases Nat.lt_or_ge j i with q2 | q2
          · exact hj j q2
          · rw [show j = i by omega]; exact e
        · rw [if_neg (fun q => e (fitB_iff.mp q i z))] at p
          exact p
  exact ⟨n + 1, key (n + 1) 0 (by omega) (by omega) (fun j q => by omega)⟩
theorem r_isFit {post : Int32 → Prop} {n : Nat} {D L V : Nat → Nat} {st : Nat → Int32} {g : Nat} (h1 : sgOk n D L V) (h2 : sgM n D L V st) (hg : g < 100) (p : post (if fitB n D L V g = true then 1 else 0)) : w_X9_isFit post (nI n) st (nI g) := by
  have hn8 := h1.1
  have bad : ∀ N x, 1 ≤ N → ¬ fitB n D L V g = true → w_X9_isFit_B4 post (nI n) st (nI g) N 0 x := by
    intro N x hN hf
    obtain ⟨N, rfl⟩ : ∃ N', N = N' + 1 := ⟨N - 1, by omega⟩
    unfold w_X9_isFit_B4
    rw [if_neg hf] at p
    exact ⟨fun _ => ⟨rfl, p⟩, fun _ => ⟨fun _ => ⟨rfl, p⟩, fun q => absurd rfl q⟩⟩
  have key : ∀ N i, n - i + 1 < N → i ≤ n → (∀ j, j < i → lossN g (D j) (L j) = V j) → w_X9_isFit_B4 post (nI n) st (nI g) N 1 (nI i) := by
    intro N
    induction N with
    | zero => intro i z; omega
    | succ N ih =>
      intro i z1 z2 hj
      unfold w_X9_isFit_B4
      refine pk_le n i (fun z => ?_) (fun z => ⟨fun q => absurd q (by decide), fun _ => ?_⟩)
      · rw [if_pos (fitB_iff.mpr (fun j q => hj j (by omega)))] at p
        exact ⟨rfl, p⟩
      · obtain ⟨e1, e2, e3⟩ := h2 i z
        obtain ⟨b1, b2, b3⟩ := h1.2 i z
        have hl := lossN_le (D := D i) hg b2
        have i2 : (3 : Int32) * nI i + (2 : Int32) = nI (3 * i + 2) := by rw [y_ix3, show (2 : Int32) = nI 2 from rfl, nI_add]
        rw [i2, y_ix3, nI_1, nI_clamp (by omega), nI_clamp (by omega), nI_clamp (by omega), e1, e2, e3]
        refine ⟨vp_in_nI (by omega) (by decide), vp_in_nI (by omega) (by decide), r_lossOf hg b1 ⟨vp_in_nI (by omega) (by decide), ?_⟩⟩
        unfold w_X9_isFit_B56
        dsimp only
        refine pk_eq (lossN g (D i) (L i)) (V i) (fun e => ?_) (fun e => ?_)
        · rw [nI_1]
          refine ih (i + 1) (by omega) (by omega) (fun j q => ?_)
          rcases Nat.lt_or_ge j i with q2 | q2
          · exact hj j q2
          · rw [show j = i by omega]; exact e
        · exact bad N _ (by omega) (fun q => e (fitB_iff.mp q i z))
  exact ⟨n + 2, key (n + 2) 0 (by omega) (by omega) (fun j q => by omega)⟩
/-- how many fit of the first -/
def fcN (ft : Nat → Bool) : Nat → Nat
  | 0 => 0
  | g + 1 => fcN ft g + (if ft g = true then 1 else 0)
theorem fc_le (ft : Nat → Bool) : ∀ g, fcN ft g ≤ g := by
  intro g
  induction g with
  | zero => exact Nat.le_refl _
  | succ g ih => rw [fcN]; split <;> omega
theorem fc_mono (ft : Nat → Bool) : ∀ d g, fcN ft g ≤ fcN ft (g + d) := by
  intro d
  induction d with
  | zero => intro g; exact Nat.le_refl _
  | succ d ih => intro g; have := ih g; show fcN ft g ≤ fcN ft (g + d + 1); rw [fcN]; omega
theorem fc_lt {ft : Nat → Bool} {g h : Nat} (hl : g < h) (hf : ft g = true) : fcN ft g < fcN ft h := by
  have := fc_mono ft (h - (g + 1)) (g + 1)
  rw [show g + 1 + (h - (g + 1)) = h by omega, fcN, if_pos hf] at this
  omega
theorem fc_ex {ft : Nat → Bool} : ∀ m k, k < fcN ft m → ∃ g, g < m ∧ ft g = true ∧ fcN ft g = k := by
  intro m
  induction m with
  | zero => intro k h; rw [fcN] at h; omega
  | succ m ih =>
    intro k h
    rw [fcN] at h
    rcases Nat.lt_or_ge k (fcN ft m) with z | z
    · obtain ⟨g, q1, q2, q3⟩ := ih k z
      exact ⟨g, by omega, q2, q3⟩
    · by_cases q : ft m = true
      · rw [if_pos q] at h; exact ⟨m, by omega, q, by omega⟩
      · rw [if_neg q] at h; omega
theorem s_gather {post : (Nat → Int32) → Int32 → Prop} {n : Nat} {D L V : Nat → Nat} {sa lo fi : Nat → Int32} {fc0 : Int32} (h1 : sgOk n D L V) (h2 : sgC n D L V sa lo) (p : ∀ fi', (∀ g, g < 100 → fitB n D L V g = true → fi' (fcN (fitB n D L V) g) = nI g) → post fi' (nI (fcN (fitB n D L V) 100))) : w_X2_gather post fi fc0 sa lo (nI n) := by
  have key : ∀ N k fi, 100 - k < N → k ≤ 100 → (∀ g, g < k → fitB n D L V g = true → fi (fcN (fitB n D L V) g) = nI g) → w_X2_gather_B7 post sa lo (nI n) N fi (nI (fcN (fitB n D L V) k)) (nI k) := by
    intro N
    induction N with
    | zero => intro k fi z; omega
    | succ N ih =>
      intro k fi z1 z2 h
      unfold w_X2_gather_B7
      have hfc := fc_le (fitB n D L V) k
      refine pk_le 100 k (fun z => ?_) (fun z => pk_le 100 (fcN (fitB n D L V) k) (fun q => absurd q (by omega)) (fun _ => ?_))
      · have e : k = 100 := by omega
        subst e
        exact p fi h
      · refine s_allow h1 h2 z (y_01 (fun q => ?_) (fun q => ⟨vp_in_nI (by omega) (by decide), ?_⟩))
        · have nx := ih (k + 1) fi (by omega) (by omega) (fun g hg hf => ?_)
          · rw [fcN, if_neg q] at nx
            dsimp only
            rw [nI_1]; exact nx
          · rcases Nat.lt_or_ge g k with y | y
            · exact h g y hf
            · rw [show g = k by omega] at hf; exact absurd hf q
        · have nx := ih (k + 1) (upd fi (fcN (fitB n D L V) k) (nI k)) (by omega) (by omega) (fun g hg hf => ?_)
          · rw [fcN, if_pos q] at nx
            dsimp only
            rw [nI_clamp (by omega), nI_1, nI_1]; exact nx
          · rcases Nat.lt_or_ge g k with y | y
            · have := fc_lt y hf
              rw [upd_n (by omega)]; exact h g y hf
            · rw [show g = k by omega, upd_s]
  unfold w_X2_gather
  exact ⟨101, key 101 0 fi (by omega) (by omega) (fun g hg => by omega)⟩
theorem r_so {post : Int32 → Prop} {n : Nat} {D L V : Nat → Nat} {st : Nat → Int32} {p1 : Int32} (h1 : sgOk n D L V) (h2 : sgM n D L V st) (v : Int32) (p : post v) (hyes : ∀ g, g < 100 → fitB n D L V g = true → nI (fcN (fitB n D L V) g) = p1 → v = nI g) (hno : (∀ g, g < 100 → fitB n D L V g = true → nI (fcN (fitB n D L V) g) ≠ p1) → v = if p1 = -1 then nI (fcN (fitB n D L V) 100) else -6) : w_X9_so post (nI n) st p1 := by
  have key : ∀ N k, 100 - k < N → k ≤ 100 → (∀ g, g < k → fitB n D L V g = true → nI (fcN (fitB n D L V) g) ≠ p1) → w_X9_so_B4 post (nI n) st p1 N (nI (fcN (fitB n D L V) k)) (nI k) := by
    intro N
    induction N with
    | zero => intro k z; omega
    | succ N ih =>
      intro k z1 z2 h
      unfold w_X9_so_B4
      refine pk_le 100 k (fun z => ?_) (fun z => ?_)
      · have e : k = 100 := by omega
        subst e
        have ev := hno h
        refine ⟨fun q => ?_, fun q => ?_⟩
        · rw [if_pos q] at ev; rw [← ev]; exact p
        · rw [if_neg q] at ev; rw [← ev]; exact p
      · refine r_isFit h1 h2 z (y_01 (fun q => ?_) (fun q => ⟨fun e => ?_, fun e => ?_⟩))
        · have nx := ih (k + 1) (by omega) (by omega) (fun g hg hf => ?_)
          · rw [fcN, if_neg q] at nx
            dsimp only
            rw [nI_1]; exact nx
          · rcases Nat.lt_or_ge g k with y | y
            · exact h g y hf
            · rw [show g = k by omega] at hf; exact absurd hf q
        · rw [← hyes k z q e]; exact p
        · have nx := ih (k + 1) (by omega) (by omega) (fun g hg hf => ?_)
          · rw [fcN, if_pos q] at nx
            dsimp only
            rw [nI_1, nI_1]; exact nx
          · rcases Nat.lt_or_ge g k with y | y
            · exact h g y hf
            · rw [show g = k by omega]; exact e
  exact ⟨101, key 101 0 (by omega) (by omega) (fun g hg => by omega)⟩
theorem e_so {sa lo st fi : Nat → Int32} {cn rn fc0 p1 : Int32} (h : RS sa lo cn rn st) : w_X8_so (fun r _ _ => w_X9_so (fun r' => r = r') rn st p1) sa lo cn fi fc0 p1 := by
  obtain ⟨n, D, L, V, h1, h2, h3, rfl, rfl⟩ := h
  unfold w_X8_so
  refine s_gather h1 h2 (fun fi' hfi => ?_)
  generalize hft : fitB n D L V = ft at *
  have hfc := fc_le ft 100
  have noI : ∀ g, g < 100 → ft g = true → fcN ft g < fcN ft 100 := fun g hg hf => fc_lt hg hf
  have ref : ∀ v, (∀ g, g < 100 → ft g = true → nI (fcN ft g) = p1 → v = nI g) → ((∀ g, g < 100 → ft g = true → nI (fcN ft g) ≠ p1) → v = if p1 = -1 then nI (fcN ft 100) else -6) → w_X9_so (fun r' => v = r') (nI n) st p1 := by
    intro v hy hn
    subst hft
    exact r_so (post := fun r' => v = r') h1 h3 v rfl hy hn
  refine ⟨fun e => ?_, fun e => ?_⟩
  · refine ref _ (fun g hg hf q => ?_) (fun _ => by rw [if_pos e])
    have := fc_le ft g
    rw [e] at q
    have q2 := congrArg Int32.toInt q
    rw [nI_toInt (by omega)] at q2
    have e4 : (-1 : Int32).toInt = -1 := by decide
    omega
  · unfold w_X2_guessAt w_X2_guessAt_B27
    have out : (∀ g, g < 100 → ft g = true → nI (fcN ft g) ≠ p1) → w_X9_so (fun r' => -6 = r') (nI n) st p1 := fun q => ref _ (fun g hg hf z => absurd z (q g hg hf)) (fun _ => by rw [if_neg e])
    refine ⟨fun q => out (fun g hg hf z => ?_), fun np => ?_⟩
    · rw [← z] at q
      have := fc_le ft g
      exact nI_pos (by omega) q
    · obtain ⟨k, hk, rfl⟩ := nI_of np
      have o2 : fcN ft 100 ≤ k → w_X9_so (fun r' => -6 = r') (nI n) st (nI k) := fun q => out (fun g hg hf z => by
        have a := noI g hg hf
        have b := (nI_eq (by omega) hk).mp z
        omega)
      refine pk_le (fcN ft 100) k o2 (fun q => pk_le 100 k (fun z => absurd z (by omega)) (fun z => ⟨vp_in_nI z (by decide), ?_⟩))
      obtain ⟨g, hg, hf, hgk⟩ := fc_ex 100 k q
      have e9 : fi' k = nI g := by rw [← hgk]; exact hfi g hg hf
      rw [nI_clamp (by omega), e9]
      refine ref _ (fun g' hg' hf' z => ?_) (fun z => absurd (by rw [hgk]) (z g hg hf))
      have b := (nI_eq (by have := fc_le ft g'; omega) (by omega)).mp z
      rcases Nat.lt_trichotomy g g' with y | y | y
      · have := fc_lt y hf; omega
      · rw [y]
      · have := fc_lt y hf'; omega
