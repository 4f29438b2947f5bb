-- the pair of calls: jugs
def nwF : Nat → Nat → Nat → Bool
  | 0, _, _ => false
  | f + 1, x, y => if y = 0 then false else if 2 ≤ x / y then true else !nwF f y (x - y)
theorem one_div {x y : Nat} (h0 : 0 < y) (h : y ≤ x) (h2 : ¬ 2 ≤ x / y) : x - y < y := by
  have h3 : x / y < 2 := by omega
  have := (Nat.div_lt_iff_lt_mul h0).mp h3
  omega
theorem nwF_f : ∀ f g x y, y < f → y < g → y ≤ x → nwF f x y = nwF g x y := by
  intro f
  induction f with
  | zero => intro g x y h; omega
  | succ f ih =>
    intro g x y h1 h2 h3
    obtain ⟨g, rfl⟩ : ∃ g', g = g' + 1 := ⟨g - 1, by omega⟩
    rw [nwF, nwF]
    by_cases h0 : y = 0
    · rw [if_pos h0, if_pos h0]
    · rw [if_neg h0, if_neg h0]
      by_cases h4 : 2 ≤ x / y
      · rw [if_pos h4, if_pos h4]
      · have := one_div (by omega) h3 h4
        rw [if_neg h4, if_neg h4, ih g y (x - y) (by omega) (by omega) (by omega)]
def nw (x y : Nat) : Bool := nwF (y + 1) x y
theorem nw_eq {x y : Nat} (h : y ≤ x) : nw x y = if y = 0 then false else if 2 ≤ x / y then true else !nw y (x - y) := by
  unfold nw
  rw [nwF]
  by_cases h0 : y = 0
  · rw [if_pos h0, if_pos h0]
  · rw [if_neg h0, if_neg h0]
    by_cases h4 : 2 ≤ x / y
    · rw [if_pos h4, if_pos h4]
    · have := one_div (by omega) h h4
      rw [if_neg h4, if_neg h4, nwF_f y (x - y + 1) y (x - y) (by omega) (by omega) (by omega)]
def bI (b : Bool) : Int32 := if b = true then 1 else 0
theorem s_nextWins {post : Int32 → Prop} {x y : Nat} (hx : x ≤ 99) (hy : y ≤ x) (p : post (bI (nw x y))) : w_X8_nextWins post (nI x) (nI y) := by
  have key : ∀ N i a b (mb : Bool), 100 - i < N → b + i ≤ 99 → b ≤ a → a ≤ 99 → post (bI (nw a b == mb)) → w_X8_nextWins_B10 post (nI x) (nI y) N (nI a) (nI b) (bI mb) (nI i) := by
    intro N
    induction N with
    | zero => intro i a b mb z; omega
    | succ N ih =>
      intro i a b mb z1 z2 z3 z4 hp
      unfold w_X8_nextWins_B10
      rw [nw_eq z3] at hp
      refine pk_lt 99 i (fun q => absurd q (by omega)) (fun _ => pk_le b 0 (fun q => ?_) (fun q => ⟨nI_ne0 q (by omega), ?_⟩))
      · unfold w_X8_nextWins_B59
        rw [if_pos (by omega)] at hp
        cases mb
        · exact ⟨fun _ => hp, fun q => absurd rfl q⟩
        · exact ⟨fun q => absurd q (by decide), fun _ => hp⟩
      · rw [if_neg (by omega)] at hp
        rw [pk_div (by omega) q (by omega)]
        have hd : a / b ≤ a := Nat.div_le_self _ _
        refine pk_lt (a / b) 2 (fun q2 => ?_) (fun q2 => ?_)
        · have h1 := one_div q z3 (by omega)
          rw [if_neg (by omega)] at hp
          have nx := ih (i + 1) b (a - b) (!mb) (by omega) (by omega) (by omega) (by omega) (by
            have e : (nw b (a - b) == !mb) = ((!nw b (a - b)) == mb) := by cases nw b (a - b) <;> cases mb <;> rfl
            rw [e]; exact hp)
          unfold w_X8_nextWins_B51
          rw [pk_sub z3, nI_1]
          cases mb
          · exact ⟨fun _ => nx, fun q => absurd rfl q⟩
          · exact ⟨fun q => absurd q (by decide), fun _ => nx⟩
        · rw [if_pos q2] at hp
          cases mb
          · exact ⟨rfl, hp⟩
          · exact ⟨rfl, hp⟩
  exact ⟨101, key 101 0 x y true (by omega) (by omega) hy hx (by
    have e : (nw x y == true) = nw x y := by cases nw x y <;> rfl
    rw [e]; exact p)⟩
/-- what another pour leaves -/
def rsW (x y t : Nat) : Bool := nw (max (x - t * y) y) (min (x - t * y) y)
def lwF (x y : Nat) : Nat → Nat → Nat
  | 0, _ => 0
  | n + 1, t => if rsW x y t = false then t else lwF x y n (t + 1)
def lw (x y : Nat) : Nat := lwF x y (x / y) 1
theorem lwF_iff (x y : Nat) : ∀ n t, 1 ≤ t → (lwF x y n t ≠ 0 ↔ ∃ s, t ≤ s ∧ s < t + n ∧ rsW x y s = false) := by
  intro n
  induction n with
  | zero =>
    intro t ht
    rw [lwF]
    constructor
    · intro h; exact absurd rfl h
    · rintro ⟨s, h1, h2, -⟩; omega
  | succ n ih =>
    intro t ht
    rw [lwF]
    by_cases h : rsW x y t = false
    · rw [if_pos h]
      constructor
      · intro _; exact ⟨t, by omega, by omega, h⟩
      · intro _; omega
    · rw [if_neg h, ih (t + 1) (by omega)]
      constructor
      · rintro ⟨s, h1, h2, h3⟩; exact ⟨s, by omega, by omega, h3⟩
      · rintro ⟨s, h1, h2, h3⟩
        rcases Nat.eq_or_lt_of_le h1 with e | e
        · subst e; exact absurd h3 h
        · exact ⟨s, by omega, by omega, h3⟩
theorem lwF_le (x y : Nat) : ∀ n t, lwF x y n t ≤ t + n := by
  intro n
  induction n with
  | zero => intro t; rw [lwF]; omega
  | succ n ih =>
    intro t
    rw [lwF]
    split
    · omega
    · have := ih (t + 1); omega
theorem lw_le {x y : Nat} : lw x y ≤ 1 + x := by
  have h1 := lwF_le x y (x / y) 1
  have h2 := Nat.div_le_self x y
  unfold lw; omega
/-- who can pour on to a lost pair wins, and only he -/
theorem nw_lw {x y : Nat} (h : y ≤ x) : nw x y = true ↔ lw x y ≠ 0 := by
  unfold lw
  rw [lwF_iff _ _ _ _ (Nat.le_refl 1), nw_eq h]
  by_cases h0 : y = 0
  · subst h0
    rw [if_pos rfl]
    constructor
    · intro q; cases q
    · rintro ⟨s, h1, h2, -⟩
      rw [Nat.div_zero] at h2; omega
  · rw [if_neg h0]
    have hy : 0 < y := by omega
    by_cases h2 : 2 ≤ x / y
    · rw [if_pos h2]
      refine ⟨fun _ => ?_, fun _ => rfl⟩
      have hmod : x % y + y * (x / y) = x := Nat.mod_add_div x y
      have hlt := Nat.mod_lt x hy
      have e1 : x - x / y * y = x % y := by rw [Nat.mul_comm] at hmod; omega
      cases hr : nw y (x % y)
      · refine ⟨x / y, by omega, by omega, ?_⟩
        unfold rsW
        rw [e1, Nat.max_eq_right (by omega), Nat.min_eq_left (by omega)]
        exact hr
      · refine ⟨x / y - 1, by omega, by omega, ?_⟩
        unfold rsW
        have e2 : x - (x / y - 1) * y = x % y + y := by
          rw [Nat.mul_comm] at hmod
          have : (x / y - 1) * y = x / y * y - y := by rw [Nat.sub_mul, Nat.one_mul]
          have h3 : 2 * y ≤ x / y * y := Nat.mul_le_mul_right y h2
          omega
        rw [e2, Nat.max_eq_left (by omega), Nat.min_eq_right (by omega), nw_eq (by omega), if_neg h0]
        have h4 : (x % y + y) / y = 1 := by
          rw [Nat.add_div_right _ hy, Nat.div_eq_of_lt hlt]
        rw [if_neg (by omega), show x % y + y - y = x % y by omega, hr]
        rfl
    · rw [if_neg h2]
      have h1 := one_div hy h h2
      have hd : x / y = 1 := by
        have : 1 ≤ x / y := (Nat.le_div_iff_mul_le hy).mpr (by omega)
        omega
      rw [hd]
      have e : rsW x y 1 = nw y (x - y) := by
        unfold rsW
        rw [Nat.one_mul, Nat.max_eq_right (by omega), Nat.min_eq_left (by omega)]
      constructor
      · intro q
        refine ⟨1, by omega, by omega, ?_⟩
        rw [e]; simpa using q
      · rintro ⟨s, g1, g2, g3⟩
        have : s = 1 := by omega
        subst this
        rw [e] at g3; rw [g3]; rfl
theorem oF_neg {z : Nat} (h : z < 2 ^ 31) : (oF z < 0 ↔ z = 0) ∧ (0 ≤ oF z ↔ z ≠ 0) ∧ (oF z = -6 ↔ z = 0) := by
  by_cases e : z = 0
  · have : oF z = -6 := if_pos e
    rw [this]
    exact ⟨⟨fun _ => e, fun _ => by decide⟩, ⟨fun q => absurd q (by decide), fun q => absurd e q⟩, ⟨fun _ => e, fun _ => rfl⟩⟩
  · have : oF z = nI z := if_neg e
    rw [this]
    refine ⟨⟨fun q => absurd q (nI_pos h), fun q => absurd q e⟩, ⟨fun _ => e, fun _ => nI_le (a := 0) (Nat.zero_le _) h⟩, ⟨fun q => ?_, fun q => absurd q e⟩⟩
    have := congrArg Int32.toInt q
    rw [nI_toInt h] at this
    have e4 : (-6 : Int32).toInt = -6 := by decide
    omega
theorem s_leastTimes {post : Int32 → Prop} {x y : Nat} (hx : x ≤ 99) (hy : y ≤ x) (p : post (oF (lw x y))) : w_X8_leastWinningTimes post (nI x) (nI y) := by
  unfold w_X8_leastWinningTimes
  refine pk_lt 0 y (fun h0 => ?_) (fun h0 => ?_)
  · have hd : x / y ≤ x := Nat.div_le_self _ _
    have key : ∀ N n t, n < N → n + t = x / y + 1 → 1 ≤ t → post (oF (lwF x y n t)) → w_X8_leastWinningTimes_B9 post (nI x) (nI y) N (nI t) := by
      intro N
      induction N with
      | zero => intro n t z; omega
      | succ N ih =>
        intro n t z1 z2 z3 hp
        unfold w_X8_leastWinningTimes_B9
        refine ⟨nI_ne0 h0 (by omega), ?_⟩
        rw [pk_div (by omega) h0 (by omega)]
        refine pk_lt (x / y) t (fun q => ?_) (fun q => ?_)
        · have : n = 0 := by omega
          subst this
          exact hp
        · obtain ⟨n, rfl⟩ : ∃ n', n = n' + 1 := ⟨n - 1, by omega⟩
          have hty : t * y ≤ x := (Nat.le_div_iff_mul_le h0).mp q
          rw [pk_mul, pk_sub hty, y_maxI (by omega) (by omega), y_minI (by omega) (by omega)]
          refine s_nextWins (by omega) (by omega) ?_
          rw [lwF] at hp
          rw [show bI (nw (max (x - t * y) y) (min (x - t * y) y)) = bI (rsW x y t) from rfl]
          cases hr : rsW x y t
          · rw [if_pos hr] at hp
            have e : oF t = nI t := if_neg (by omega)
            rw [e] at hp
            exact ⟨fun _ => hp, fun q => absurd rfl q⟩
          · rw [if_neg (by rw [hr]; decide)] at hp
            refine ⟨fun q => absurd q (by decide), fun _ => ?_⟩
            rw [nI_1]
            exact ih n (t + 1) (by omega) (by omega) (by omega) hp
    exact ⟨x / y + 1, key (x / y + 1) (x / y) 1 (by omega) (by omega) (by omega) p⟩
  · have e : y = 0 := by omega
    subst e
    have : lw x 0 = 0 := by unfold lw; rw [Nat.div_zero, lwF]
    rw [this] at p
    exact p
/-- the pairs the reference has laid -/
def jgR (f : Nat → Int32) (x y : Nat) : Prop := ∀ a b, b ≤ a → a ≤ 99 → (a < x ∨ a = x ∧ b < y) → f (100 * a + b) = oF (lw a b)
theorem y_ix100 (a b : Nat) : (100 : Int32) * nI a + nI b = nI (100 * a + b) := by rw [show (100 : Int32) = nI 100 from rfl, pk_mul, nI_add]
theorem r_pair {post : Int32 → (Nat → Int32) → Prop} {p1 p2 p3 x4 x5 : Int32} {k59 : (Nat → Int32) → Int32 → Int32 → Int32 → Prop} {k69 : (Nat → Int32) → Int32 → Int32 → Int32 → Int32 → Prop} {f : Nat → Int32} {x y : Nat} (hx : x ≤ 99) (hy : y ≤ x) (h : jgR f x y) (p : ∀ f', jgR f' x (y + 1) → k69 f' x4 x5 (nI x) (nI (y + 1))) : ∃ N, w_X9_jugs_B83 post p1 p2 p3 k59 k69 N f x4 x5 (nI x) (nI y) (-6) 1 := by
  have fin : w_X9_jugs_B171 post p1 p2 p3 k59 k69 f x4 x5 (nI x) (nI y) (oF (lw x y)) := by
    unfold w_X9_jugs_B171
    rw [y_ix100, nI_1]
    refine ⟨vp_in_nI (by omega) (by decide), ?_⟩
    rw [nI_clamp (by omega)]
    refine p _ (fun a b g1 g2 g3 => ?_)
    by_cases e : 100 * a + b = 100 * x + y
    · have ea : a = x := by omega
      have eb : b = y := by omega
      subst ea
      subst eb
      rw [upd_s]
    · rw [upd_n e]
      exact h a b g1 g2 (by omega)
  have hlw := lw_le (x := x) (y := y)
  rcases Nat.eq_zero_or_pos y with h0 | h0
  · refine ⟨1, ?_⟩
    unfold w_X9_jugs_B83
    have e : oF (lw x y) = -6 := by
      have : lw x y = 0 := by subst h0; unfold lw; rw [Nat.div_zero, lwF]
      rw [this]; rfl
    rw [e] at fin
    exact pk_le y 0 (fun _ => fin) (fun q => absurd q (by omega))
  · have hd : x / y ≤ x := Nat.div_le_self _ _
    have key : ∀ N n t, n < N → n + t = x / y + 1 → 1 ≤ t → lwF x y n t = lw x y → w_X9_jugs_B83 post p1 p2 p3 k59 k69 (N + 1) f x4 x5 (nI x) (nI y) (-6) (nI t) := by
      intro N
      induction N with
      | zero => intro n t z; omega
      | succ N ih =>
        intro n t z1 z2 z3 e
        unfold w_X9_jugs_B83
        have tx : t * y ≤ 100 * 99 := Nat.mul_le_mul (by omega) (by omega)
        refine pk_le y 0 (fun q => absurd q (by omega)) (fun _ => ?_)
        rw [pk_mul]
        refine pk_lt x (t * y) (fun q => ?_) (fun q => ⟨fun q2 => absurd q2 (by decide), fun _ => ?_⟩)
        · have hn : n = 0 := by
            have : x / y < t := (Nat.div_lt_iff_lt_mul h0).mpr q
            omega
          subst hn
          rw [lwF] at e
          rw [← e] at fin
          exact fin
        · have htd : t ≤ x / y := (Nat.le_div_iff_mul_le h0).mpr q
          obtain ⟨n, rfl⟩ : ∃ n', n = n' + 1 := ⟨n - 1, by omega⟩
          rw [lwF] at e
          have hty : y ≤ t * y := Nat.le_mul_of_pos_left y z3
          have step : ∀ v, v = oF (lw (max (x - t * y) y) (min (x - t * y) y)) → w_X9_jugs_B149 post p1 p2 p3 k59 k69 (fun f_pours x4 x5 x6 x7 x8 x9 => w_X9_jugs_B83 post p1 p2 p3 k59 k69 (N + 1) f_pours x4 x5 x6 x7 x8 x9) f x4 x5 (nI x) (nI y) (nI t) v := by
            intro v ev
            have hl2 := lw_le (x := max (x - t * y) y) (y := min (x - t * y) y)
            have hneg := (oF_neg (z := lw (max (x - t * y) y) (min (x - t * y) y)) (by omega)).2.1
            have hw := nw_lw (x := max (x - t * y) y) (y := min (x - t * y) y) (by omega)
            unfold w_X9_jugs_B149 w_X9_jugs_B163
            dsimp only
            rw [ev, nI_1]
            refine ⟨fun q => ?_, fun q => ?_⟩
            · have hr : ¬ rsW x y t = false := by
                unfold rsW
                rw [hw.mpr (hneg.mp q)]; decide
              rw [if_neg hr] at e
              exact ih n (t + 1) (by omega) (by omega) (by omega) e
            · have hr : rsW x y t = false := by
                unfold rsW
                cases hh : nw (max (x - t * y) y) (min (x - t * y) y)
                · rfl
                · exact absurd (hneg.mpr (hw.mp hh)) q
              rw [if_pos hr] at e
              rw [← e] at fin
              have et : oF t = nI t := if_neg (by omega)
              rw [et] at fin
              unfold w_X9_jugs_B83
              refine pk_le y 0 (fun q => absurd q (by omega)) (fun _ => ?_)
              have tx2 : (t + 1) * y ≤ 100 * 99 := Nat.mul_le_mul (by omega) (by omega)
              rw [pk_mul]
              refine pk_lt x ((t + 1) * y) (fun _ => fin) (fun _ => ⟨fun _ => fin, fun q => absurd (nI_le (a := 0) (Nat.zero_le _) (by omega)) q⟩)
          rw [pk_sub q]
          refine pk_le (x - t * y) y (fun q3 => ?_) (fun q3 => ?_)
          · rw [y_ix100]
            refine ⟨vp_in_nI (by omega) (by decide), step _ ?_⟩
            rw [nI_clamp (by omega), h y (x - t * y) q3 (by omega) (by omega), Nat.max_eq_right q3, Nat.min_eq_left q3]
          · rw [y_ix100]
            refine ⟨vp_in_nI (by omega) (by decide), step _ ?_⟩
            rw [nI_clamp (by omega), h (x - t * y) y (by omega) (by omega) (by omega), Nat.max_eq_left (by omega), Nat.min_eq_right (by omega)]
    exact ⟨x / y + 1 + 1, key (x / y + 1) (x / y) 1 (by omega) (by omega) (by omega) rfl⟩
theorem r_pairs {post : Int32 → (Nat → Int32) → Prop} {p1 p2 p3 : Int32} {f : Nat → Int32} {hi lo : Nat} (hh : hi ≤ 99) (hl : lo ≤ hi) (p : ∀ f', (p3 = (1 : Int32) → post (oF (lw hi lo)) f') ∧ (¬ p3 = (1 : Int32) → (0 ≤ oF (lw hi lo) → post (1 : Int32) f') ∧ (¬ 0 ≤ oF (lw hi lo) → post (0 : Int32) f'))) : w_X9_jugs_B54 post p1 p2 p3 f (nI hi) (nI lo) := by
  have row : ∀ x, x ≤ hi → ∀ k59 : (Nat → Int32) → Int32 → Int32 → Int32 → Prop, (∀ f', jgR f' (x + 1) 0 → k59 f' (nI hi) (nI lo) (nI (x + 1))) → ∀ N y f, x + 1 - y < N → y ≤ x + 1 → jgR f x y → w_X9_jugs_B69 post p1 p2 p3 k59 N f (nI hi) (nI lo) (nI x) (nI y) := by
    intro x hx k59 hk N
    induction N with
    | zero => intro y f z; omega
    | succ N ih =>
      intro y f z1 z2 h
      unfold w_X9_jugs_B69
      refine pk_lt x y (fun z => ?_) (fun z => ?_)
      · rw [nI_1]
        exact hk f (fun a b g1 g2 g3 => h a b g1 g2 (by omega))
      · exact r_pair (by omega) z h (fun f' h' => ih (y + 1) f' (by omega) (by omega) h')
  have all : ∀ N x f, hi + 1 - x < N → x ≤ hi + 1 → jgR f x 0 → w_X9_jugs_B59 post p1 p2 p3 N f (nI hi) (nI lo) (nI x) := by
    intro N
    induction N with
    | zero => intro x f z; omega
    | succ N ih =>
      intro x f z1 z2 h
      unfold w_X9_jugs_B59
      refine pk_lt hi x (fun z => ?_) (fun z => ?_)
      · rw [y_ix100]
        refine ⟨vp_in_nI (by omega) (by decide), fun y ey => ?_⟩
        rw [nI_clamp (by omega), h hi lo hl hh (by omega)] at ey
        rw [ey]
        exact p f
      · exact ⟨x + 2, row x z _ (fun f' h' => ih (x + 1) f' (by omega) (by omega) h') (x + 2) 0 f (by omega) (by omega) h⟩
  unfold w_X9_jugs_B54
  exact ⟨hi + 2, all (hi + 2) 0 f (by omega) (by omega) (fun a b g1 g2 g3 => by omega)⟩
theorem e_jugs {po : Nat → Int32} {p1 p2 p3 : Int32} : w_X8_jugs (fun r => w_X9_jugs (fun r' _ => r = r') po p1 p2 p3) p1 p2 p3 := by
  unfold w_X8_jugs
  rcases y_rng0 p1 99 with ⟨a, ha, rfl⟩ | o1
  · refine s8_in 0 99 (Nat.zero_le _) ha (by decide) (y_1 ?_)
    rcases y_rng0 p2 99 with ⟨b, hb, rfl⟩ | o2
    · refine s8_in 0 99 (Nat.zero_le _) hb (by decide) (y_1 ?_)
      rcases y_rng0 p3 1 with ⟨k, hk, rfl⟩ | o3
      · refine s8_in 0 1 (Nat.zero_le _) hk (by decide) (y_1 ?_)
        rw [y_maxI (by omega) (by omega), y_minI (by omega) (by omega)]
        refine s_leastTimes (by omega) (by omega) ?_
        have hlw := lw_le (x := max a b) (y := min a b)
        obtain ⟨n1, n2, n3⟩ := oF_neg (z := lw (max a b) (min a b)) (by omega)
        have ref : ∀ v, ((nI k = (1 : Int32) → v = oF (lw (max a b) (min a b))) ∧ (¬ nI k = (1 : Int32) → (0 ≤ oF (lw (max a b) (min a b)) → v = (1 : Int32)) ∧ (¬ 0 ≤ oF (lw (max a b) (min a b)) → v = (0 : Int32)))) → w_X9_jugs (fun r' _ => v = r') po (nI a) (nI b) (nI k) := by
          intro v hv
          unfold w_X9_jugs
          refine s9_in 0 99 (Nat.zero_le _) ha (by decide) (y_1 (s9_in 0 99 (Nat.zero_le _) hb (by decide) (y_1 (s9_in 0 1 (Nat.zero_le _) hk (by decide) (y_1 ?_)))))
          unfold w_X9_jugs_B42
          refine pk_le a b (fun q => ⟨fun _ => ?_, fun q2 => absurd (nI_le q (by omega)) q2⟩) (fun q => ⟨fun q2 => absurd q2 (nI_ge q (by omega)), fun _ => ?_⟩)
          · rw [Nat.max_eq_right q, Nat.min_eq_left q] at hv
            exact r_pairs hb q (fun _ => hv)
          · rw [Nat.max_eq_left (by omega), Nat.min_eq_right (by omega)] at hv
            exact r_pairs ha (by omega) (fun _ => hv)
        unfold w_X8_jugs_B63 w_X8_asNumber
        refine pk_eq k 0 (fun z => ?_) (fun z => ?_)
        · have nk : ¬ nI k = (1 : Int32) := by subst z; decide
          refine ⟨fun q => y_0 (ref _ ⟨fun z => absurd z nk, fun _ => ⟨fun z2 => absurd (n3.mp q) (n2.mp z2), fun _ => rfl⟩⟩), fun q => y_1 (ref _ ⟨fun z => absurd z nk, fun _ => ⟨fun _ => rfl, fun z2 => absurd (n2.mpr (fun z3 => q (n3.mpr z3))) z2⟩⟩)⟩
        · have ek : k = 1 := by omega
          subst ek
          exact ref _ ⟨fun _ => rfl, fun q => absurd rfl q⟩
      · refine s8_out o3 (y_0 ?_)
        unfold w_X9_jugs
        exact s9_in 0 99 (Nat.zero_le _) ha (by decide) (y_1 (s9_in 0 99 (Nat.zero_le _) hb (by decide) (y_1 (s9_out o3 (y_0 rfl)))))
    · refine s8_out o2 (y_0 ?_)
      unfold w_X9_jugs
      exact s9_in 0 99 (Nat.zero_le _) ha (by decide) (y_1 (s9_out o2 (y_0 rfl)))
  · refine s8_out o1 (y_0 ?_)
    unfold w_X9_jugs
    exact s9_out o1 (y_0 rfl)
