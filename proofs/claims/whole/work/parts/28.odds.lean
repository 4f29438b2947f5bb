-- the pair of calls: odds
def upF (u k : Nat) : Nat → Nat
  | 0 => 1
  | i + 1 => upF u k i * (if i < k then u else 10 - u)
def otF (u k : Nat) : Nat → Nat
  | 0 => 1
  | i + 1 => otF u k i * (if i < k then 10 - u else u)
theorem upF_le {u k : Nat} (hu : 1 ≤ u ∧ u ≤ 9) : ∀ i, 1 ≤ upF u k i ∧ upF u k i ≤ 9 ^ i := by
  intro i
  induction i with
  | zero => exact ⟨Nat.le_refl _, Nat.le_refl _⟩
  | succ i ih =>
    rw [upF, Nat.pow_succ]
    have h : 1 ≤ (if i < k then u else 10 - u) ∧ (if i < k then u else 10 - u) ≤ 9 := by split <;> omega
    exact ⟨Nat.mul_le_mul ih.1 h.1, Nat.mul_le_mul ih.2 h.2⟩
theorem otF_le {u k : Nat} (hu : 1 ≤ u ∧ u ≤ 9) : ∀ i, 1 ≤ otF u k i ∧ otF u k i ≤ 9 ^ i := by
  intro i
  induction i with
  | zero => exact ⟨Nat.le_refl _, Nat.le_refl _⟩
  | succ i ih =>
    rw [otF, Nat.pow_succ]
    have h : 1 ≤ (if i < k then 10 - u else u) ∧ (if i < k then 10 - u else u) ≤ 9 := by split <;> omega
    exact ⟨Nat.mul_le_mul ih.1 h.1, Nat.mul_le_mul ih.2 h.2⟩
theorem pow9 {i : Nat} (h : i ≤ 15) : 9 ^ i ≤ 9 ^ 15 := Nat.pow_le_pow_right (by decide) h
theorem upF_pow {u k : Nat} : ∀ i, upF u k i = u ^ (min i k) * (10 - u) ^ (i - k) := by
  intro i
  induction i with
  | zero => rw [upF, Nat.zero_min, Nat.zero_sub]; rfl
  | succ i ih =>
    rw [upF, ih]
    by_cases h : i < k
    · rw [if_pos h, Nat.min_eq_left (by omega), Nat.min_eq_left (by omega), show i - k = 0 by omega, show i + 1 - k = 0 by omega, Nat.pow_succ, Nat.mul_right_comm]
    · rw [if_neg h, Nat.min_eq_right (by omega), Nat.min_eq_right (by omega), show i + 1 - k = (i - k) + 1 by omega, Nat.pow_succ, Nat.mul_assoc]
theorem otF_pow {u k : Nat} : ∀ i, otF u k i = (10 - u) ^ (min i k) * u ^ (i - k) := by
  intro i
  induction i with
  | zero => rw [otF, Nat.zero_min, Nat.zero_sub]; rfl
  | succ i ih =>
    rw [otF, ih]
    by_cases h : i < k
    · rw [if_pos h, Nat.min_eq_left (by omega), Nat.min_eq_left (by omega), show i - k = 0 by omega, show i + 1 - k = 0 by omega, Nat.pow_succ, Nat.mul_right_comm]
    · rw [if_neg h, Nat.min_eq_right (by omega), Nat.min_eq_right (by omega), show i + 1 - k = (i - k) + 1 by omega, Nat.pow_succ, Nat.mul_assoc]
theorem s_power {post : Int64 → Prop} {b n : Nat} (hb : b < 2 ^ 31) (hn : n ≤ 15) (p : post (lN (b ^ n))) : w_X8_power post (nI b) (nI n) := by
  have key : ∀ N i, n - i < N → i ≤ n → w_X8_power_B5 post (nI b) (nI n) N (lN (b ^ i)) (nI i) := by
    intro N
    induction N with
    | zero => intro i z; omega
    | succ N ih =>
      intro i z1 z2
      unfold w_X8_power_B5
      refine pk_le n i (fun z => ?_) (fun z => ?_)
      · rw [show i = n by omega]; exact p
      · dsimp only
        rw [nI_l hb, lN_mulN, nI_1, ← Nat.pow_succ]
        exact ih (i + 1) (by omega) (by omega)
  exact ⟨n + 1, key (n + 1) 0 (by omega) (by omega)⟩
theorem mod_half {b r : Nat} (h0 : 0 < r) (h : r < b) : 2 * (b % r) < b := by
  have h1 := Nat.mod_add_div b r
  have h2 := Nat.mod_lt b h0
  have h3 : 1 ≤ b / r := (Nat.le_div_iff_mul_le h0).mpr (by omega)
  have h4 : r * 1 ≤ r * (b / r) := Nat.mul_le_mul_left r h3
  omega
theorem s_gcd {post : Int64 → Prop} {a b : Nat} (ha : a < 2 ^ 62) (hb : b < 2 ^ 62) (h0 : 0 < a) (p : post (lN (Nat.gcd a b))) : w_X8_commonDivisor post (lN a) (lN b) := by
  have done : ∀ x, 0 < x → x < 2 ^ 62 → x = Nat.gcd a b → w_X8_commonDivisor_B45 post (lN a) (lN b) (lN x) := by
    intro x hx hx2 e
    unfold w_X8_commonDivisor_B45
    rw [e] at hx hx2 ⊢
    refine ⟨fun q => ?_, fun _ => p⟩
    have := (lg_cmp_le _ _).mp q
    have := (pk_lLE (a := Nat.gcd a b) (b := 0) (by omega) (by decide)).mp this
    omega
  have key : ∀ j i x y N, 1 + 2 * j < N → i + 2 * j ≤ 999 → 0 < x → x < 2 ^ 62 → y < 2 ^ 62 → y < 2 ^ j → Nat.gcd x y = Nat.gcd a b → w_X8_commonDivisor_B9 post (lN a) (lN b) N (lN x) (lN y) (nI i) := by
    intro j
    induction j with
    | zero =>
      intro i x y N hN hi hx hx2 hy2 hy e
      obtain ⟨N, rfl⟩ : ∃ N', N = N' + 1 := ⟨N - 1, by omega⟩
      unfold w_X8_commonDivisor_B9
      have y0 : y = 0 := by omega
      subst y0
      refine pk_le 1000 i (fun q => absurd q (by omega)) (fun _ => ⟨fun _ => done x hx hx2 (by rw [← e, Nat.gcd_zero_right]), fun q => absurd ((lg_cmp_le _ _).mpr (Int64.le_refl _)) q⟩)
    | succ j ih =>
      intro i x y N hN hi hx hx2 hy2 hy e
      obtain ⟨N, rfl⟩ : ∃ N', N = N' + 1 := ⟨N - 1, by omega⟩
      unfold w_X8_commonDivisor_B9
      refine pk_le 1000 i (fun q => absurd q (by omega)) (fun _ => ?_)
      by_cases y0 : y = 0
      · subst y0
        exact ⟨fun _ => done x hx hx2 (by rw [← e, Nat.gcd_zero_right]), fun q => absurd ((lg_cmp_le _ _).mpr (Int64.le_refl _)) q⟩
      · have ypos : 0 < y := by omega
        have yne : ¬ lN y = 0 := fun q => y0 ((pk_lEQ (a := y) (b := 0) (by omega) (by decide)).mp q)
        have yle : ¬ lg_cmp (lN y) 0 ≤ 0 := fun q => by
          have := (pk_lLE (a := y) (b := 0) (by omega) (by decide)).mp ((lg_cmp_le _ _).mp q)
          omega
        refine ⟨fun q => absurd q yle, fun _ => ⟨yne, ?_⟩⟩
        dsimp only
        rw [pk_lRem (by omega) ypos (by omega), nI_1]
        have hr := Nat.mod_lt x ypos
        have e2 : Nat.gcd y (x % y) = Nat.gcd a b := by rw [← e, Nat.gcd_comm x y, Nat.gcd_rec y x, Nat.gcd_comm]
        obtain ⟨N, rfl⟩ : ∃ N', N = N' + 1 := ⟨N - 1, by omega⟩
        unfold w_X8_commonDivisor_B9
        refine pk_le 1000 (i + 1) (fun q => absurd q (by omega)) (fun _ => ?_)
        by_cases r0 : x % y = 0
        · rw [r0] at e2 ⊢
          exact ⟨fun _ => done y ypos hy2 (by rw [← e2, Nat.gcd_zero_right]), fun q => absurd ((lg_cmp_le _ _).mpr (Int64.le_refl _)) q⟩
        · have rpos : 0 < x % y := by omega
          have rne : ¬ lN (x % y) = 0 := fun q => r0 ((pk_lEQ (a := x % y) (b := 0) (by omega) (by decide)).mp q)
          have rle : ¬ lg_cmp (lN (x % y)) 0 ≤ 0 := fun q => by
            have := (pk_lLE (a := x % y) (b := 0) (by omega) (by decide)).mp ((lg_cmp_le _ _).mp q)
            omega
          refine ⟨fun q => absurd q rle, fun _ => ⟨rne, ?_⟩⟩
          dsimp only
          rw [pk_lRem (by omega) rpos (by omega), nI_1]
          have hh := mod_half rpos hr
          have e3 : Nat.gcd (x % y) (y % (x % y)) = Nat.gcd a b := by rw [← e2, Nat.gcd_comm y, Nat.gcd_rec (x % y) y, Nat.gcd_comm]
          refine ih (i + 2) (x % y) (y % (x % y)) N (by omega) (by omega) rpos (by omega) (by omega) ?_ e3
          rw [Nat.pow_succ] at hy
          omega
  exact ⟨127, key 62 0 a b 127 (by omega) (by omega) h0 ha hb hb rfl⟩
theorem r_gcd {post : Int64 → Prop} {p1 p2 p3 p4 p5 : Int32} {u l g : Nat} (hg0 : 0 < g) (hg : g < 2 ^ 62) (p0 : p5 = 0 → post (lN u / lN g)) (p1' : ¬ p5 = 0 → post (lN l / lN g)) : ∀ (N x y : Nat), y < N → x < 2 ^ 62 → y < 2 ^ 62 → Nat.gcd x y = g → w_X9_odds_B140 post p1 p2 p3 p4 p5 N (lN u) (lN l) (lN x) (lN y) := by
  intro N
  induction N with
  | zero => intro x y h; omega
  | succ N ih =>
    intro x y h hx hy e
    unfold w_X9_odds_B140
    by_cases y0 : y = 0
    · subst y0
      rw [Nat.gcd_zero_right] at e
      subst e
      have xne : ¬ lN x = 0 := fun q => by
        have := (pk_lEQ (a := x) (b := 0) (by omega) (by decide)).mp q
        omega
      exact ⟨fun _ => ⟨fun z => ⟨xne, p0 z⟩, fun z => ⟨xne, p1' z⟩⟩, fun q => absurd ((lg_cmp_eq _ _).mpr rfl) q⟩
    · have ypos : 0 < y := by omega
      have yne : ¬ lN y = 0 := fun q => y0 ((pk_lEQ (a := y) (b := 0) (by omega) (by decide)).mp q)
      refine ⟨fun q => absurd ((lg_cmp_eq _ _).mp q) yne, fun _ => ⟨yne, ?_⟩⟩
      dsimp only
      rw [pk_lRem (by omega) ypos (by omega)]
      have hr := Nat.mod_lt x ypos
      exact ih y (x % y) (by omega) hy (by omega) (by rw [← e, Nat.gcd_comm x y, Nat.gcd_rec y x, Nat.gcd_comm])
theorem e_odds {p1 p2 p3 p4 p5 : Int32} : w_X8_odds (fun r => w_X9_odds (fun r' => r = r') p1 p2 p3 p4 p5) p1 p2 p3 p4 p5 := by
  unfold w_X8_odds
  rcases y_rng p1 1 9 with ⟨t, ht, ht2, rfl⟩ | o1
  · refine s8_in 1 9 ht ht2 (by decide) (y_1 ?_)
    rcases y_rng p2 1 9 with ⟨u, hu, hu2, rfl⟩ | o2
    · refine s8_in 1 9 hu hu2 (by decide) (y_1 ?_)
      rcases y_rng0 p3 15 with ⟨n, hn, rfl⟩ | o3
      · refine s8_in 0 15 (Nat.zero_le _) hn (by decide) (y_1 ?_)
        rcases y_rng0 p4 n (by omega) with ⟨k, hk, rfl⟩ | o4
        · refine s8_in 0 n (Nat.zero_le _) hk (by omega) (y_1 ?_)
          rcases y_rng0 p5 1 with ⟨q, hq, rfl⟩ | o5
          · refine s8_in 0 1 (Nat.zero_le _) hq (by decide) (y_1 ?_)
            have e10u : (10 : Int32) - nI u = nI (10 - u) := pk_sub (a := 10) (b := u) (by omega)
            have e10t : (10 : Int32) - nI t = nI (10 - t) := pk_sub (a := 10) (b := t) (by omega)
            rw [e10u, e10t, pk_sub hk]
            have hU := upF_le (k := k) ⟨hu, hu2⟩ n
            have hO := otF_le (k := k) ⟨hu, hu2⟩ n
            have h9 := pow9 hn
            have eU : u ^ k * (10 - u) ^ (n - k) = upF u k n := by rw [upF_pow, Nat.min_eq_right hk]
            have eO : (10 - u) ^ k * u ^ (n - k) = otF u k n := by rw [otF_pow, Nat.min_eq_right hk]
            have big : (9 : Nat) ^ 15 = 205891132094649 := by decide
            have bU : t * upF u k n ≤ 9 * 205891132094649 := Nat.mul_le_mul ht2 (by omega)
            have bO : (10 - t) * otF u k n ≤ 9 * 205891132094649 := Nat.mul_le_mul (by omega) (by omega)
            have pU : 1 * 1 ≤ t * upF u k n := Nat.mul_le_mul ht hU.1
            have pO : 1 * 1 ≤ (10 - t) * otF u k n := Nat.mul_le_mul (by omega) hO.1
            refine s_power (by omega) (by omega) (s_power (by omega) (by omega) ?_)
            intro y79 ey
            rw [nI_l (by omega), lN_mulN, lN_mulN, Nat.mul_assoc, eU] at ey
            subst ey
            refine s_power (by omega) (by omega) (s_power (by omega) (by omega) ?_)
            intro y105 ey
            rw [nI_l (by omega), lN_mulN, lN_mulN, Nat.mul_assoc, eO] at ey
            subst ey
            rw [lN_add]
            have loop : ∀ N i, n - i < N → i ≤ n → ∀ post : Int64 → Prop, (∃ n140 : Nat, w_X9_odds_B140 post (nI t) (nI u) (nI n) (nI k) (nI q) n140 (lN (t * upF u k n)) (lN (t * upF u k n + (10 - t) * otF u k n)) (lN (t * upF u k n)) (lN (t * upF u k n + (10 - t) * otF u k n))) → w_X9_odds_B69 post (nI t) (nI u) (nI n) (nI k) (nI q) N (lN (t * upF u k i)) (lN ((10 - t) * otF u k i)) (nI i) := by
              intro N
              induction N with
              | zero => intro i z; omega
              | succ N ih =>
                intro i z1 z2 post hp
                unfold w_X9_odds_B69
                refine pk_le n i (fun z => ?_) (fun z => ?_)
                · have ei : i = n := by omega
                  rw [ei, lN_add]; exact hp
                · have nx := ih (i + 1) (by omega) (by omega) post hp
                  rw [upF, otF, ← Nat.mul_assoc, ← Nat.mul_assoc] at nx
                  unfold w_X9_odds_B94 w_X9_odds_B116
                  rw [e10u, nI_l (by omega), nI_l (by omega), lN_mulN, lN_mulN, lN_mulN, lN_mulN, nI_1]
                  refine pk_le k i (fun q => ⟨fun _ => ?_, fun q2 => absurd (nI_le q (by omega)) q2⟩) (fun q => ⟨fun q2 => absurd q2 (nI_ge q (by omega)), fun _ => ?_⟩)
                  · rw [if_neg (by omega), if_neg (by omega)] at nx; exact nx
                  · rw [if_pos q, if_pos q] at nx; exact nx
            generalize t * upF u k n = A at *
            generalize (10 - t) * otF u k n = B at *
            have ref : ∀ v, (nI q = 0 → v = lN A / lN (Nat.gcd (A + B) A)) → (¬ nI q = 0 → v = lN (A + B) / lN (Nat.gcd (A + B) A)) → w_X9_odds (fun r' => v = r') (nI t) (nI u) (nI n) (nI k) (nI q) := by
              intro v v0 v1
              unfold w_X9_odds
              refine s9_in 1 9 ht ht2 (by decide) (y_1 (s9_in 1 9 hu hu2 (by decide) (y_1 (s9_in 0 15 (Nat.zero_le _) hn (by decide) (y_1 (s9_in 0 n (Nat.zero_le _) hk (by omega) (y_1 (s9_in 0 1 (Nat.zero_le _) hq (by decide) (y_1 ?_)))))))))
              intro y64 ey
              rw [nI_l (by omega), show (10 : Int64) = lN 10 from rfl] at ey
              have e64 : y64 = lN (10 - t) := by
                have k10 : ∀ t, t < 10 → lN 10 - lN t = lN (10 - t) := by decide +kernel
                rw [ey, k10 t (by omega)]
              rw [e64, nI_l (by omega)]
              have l0 := loop (n + 1) 0 (by omega) (by omega) (fun r' => v = r') ⟨A + B + 1, ?_⟩
              · rw [upF, otF, Nat.mul_one, Nat.mul_one] at l0
                exact ⟨n + 1, l0⟩
              · have gpos : 0 < Nat.gcd (A + B) A := Nat.gcd_pos_of_pos_left _ (by omega)
                have gle : Nat.gcd (A + B) A ≤ A + B := Nat.gcd_le_left _ (by omega)
                exact r_gcd gpos (by omega) v0 v1 (A + B + 1) A (A + B) (by omega) (by omega) (by omega) (Nat.gcd_comm _ _)
            refine s_gcd (by omega) (by omega) (by omega) ?_
            have gpos : 0 < Nat.gcd (A + B) A := Nat.gcd_pos_of_pos_left _ (by omega)
            have gle : Nat.gcd (A + B) A ≤ A + B := Nat.gcd_le_left _ (by omega)
            have gne : ¬ lN (Nat.gcd (A + B) A) = 0 := fun z => by
              have := (pk_lEQ (a := Nat.gcd (A + B) A) (b := 0) (by omega) (by decide)).mp z
              omega
            unfold w_X8_odds_B134
            exact ⟨fun z => ⟨gne, ref _ (fun _ => rfl) (fun z2 => absurd z z2)⟩, fun z => ⟨gne, ref _ (fun z2 => absurd z2 z) (fun _ => rfl)⟩⟩
          · refine s8_out o5 (y_0 ?_)
            unfold w_X9_odds
            exact s9_in 1 9 ht ht2 (by decide) (y_1 (s9_in 1 9 hu hu2 (by decide) (y_1 (s9_in 0 15 (Nat.zero_le _) hn (by decide) (y_1 (s9_in 0 n (Nat.zero_le _) hk (by omega) (y_1 (s9_out o5 (y_0 rfl)))))))))
        · refine s8_out o4 (y_0 ?_)
          unfold w_X9_odds
          exact s9_in 1 9 ht ht2 (by decide) (y_1 (s9_in 1 9 hu hu2 (by decide) (y_1 (s9_in 0 15 (Nat.zero_le _) hn (by decide) (y_1 (s9_out o4 (y_0 rfl)))))))
      · refine s8_out o3 (y_0 ?_)
        unfold w_X9_odds
        exact s9_in 1 9 ht ht2 (by decide) (y_1 (s9_in 1 9 hu hu2 (by decide) (y_1 (s9_out o3 (y_0 rfl)))))
    · refine s8_out o2 (y_0 ?_)
      unfold w_X9_odds
      exact s9_in 1 9 ht ht2 (by decide) (y_1 (s9_out o2 (y_0 rfl)))
  · refine s8_out o1 (y_0 ?_)
    unfold w_X9_odds
    exact s9_out o1 (y_0 rfl)
