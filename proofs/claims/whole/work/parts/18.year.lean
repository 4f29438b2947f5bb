-- the pair of calls: year
def dk (m : Nat) : Nat := if m = 0 then 62 else if m = 1 then 60 else if m = 2 then 63 else if m = 3 then 61 else if m = 4 then 126 else 46
def dn (k q : Nat) : Nat := if k = 62 ∨ k = 60 then q % 9 + 1 else if k = 46 then 0 else q % 8
theorem dk_all (m : Nat) : dk m = 62 ∨ dk m = 60 ∨ dk m = 63 ∨ dk m = 61 ∨ dk m = 126 ∨ dk m = 46 := by
  unfold dk; repeat' split
  all_goals simp
theorem dk_good (m q : Nat) : goodA (dk m) (dn (dk m) q) := by
  unfold goodA
  rcases dk_all m with e | e | e | e | e | e <;> rw [e] <;> unfold dn <;> simp <;> omega
def drS (P : Nat → Nat) (po sp : Nat) (c : Ct) (kd num : Nat) : Ct := if why P c kd num = 0 then actC P po sp c kd num else c
def drw (P : Nat → Nat) (po sp : Nat) : Nat → Nat → Ct → Ct
  | 0, _, c => c
  | j + 1, x, c => drw P po sp j ((75 * x + 74) % 65537) (drS P po sp c (dk ((75 * x + 74) % 65537 % 8)) (dn (dk ((75 * x + 74) % 65537 % 8)) ((75 * x + 74) % 65537 / 8)))
theorem drS_ok {P : Nat → Nat} {po sp : Nat} {c : Ct} {kd num : Nat} (hc : okC c) (hg : goodA kd num) : okC (drS P po sp c kd num) := by
  unfold drS
  split
  · rename_i hw; exact actC_ok hc hg hw
  · exact hc
theorem drw_ok {P : Nat → Nat} {po sp : Nat} : ∀ (j x : Nat) (c : Ct), okC c → okC (drw P po sp j x c) := by
  intro j
  induction j with
  | zero => intro x c h; exact h
  | succ j ih => intro x c h; exact ih _ _ (drS_ok h (dk_good _ _))
theorem s_dKind {post : Int32 → Prop} {m : Nat} (hm : m < 8) (p : post (nI (dk m))) : w_X3_drawnKind post (nI m) := by
  unfold w_X3_drawnKind
  unfold dk at p
  refine pk_eq m 0 (fun z => by rw [if_pos z] at p; exact p) (fun z0 => ?_)
  rw [if_neg z0] at p
  refine pk_eq m 1 (fun z => by rw [if_pos z] at p; exact p) (fun z1 => ?_)
  rw [if_neg z1] at p
  refine pk_eq m 2 (fun z => by rw [if_pos z] at p; exact p) (fun z2 => ?_)
  rw [if_neg z2] at p
  refine pk_eq m 3 (fun z => by rw [if_pos z] at p; exact p) (fun z3 => ?_)
  rw [if_neg z3] at p
  refine pk_eq m 4 (fun z => by rw [if_pos z] at p; exact p) (fun z4 => ?_)
  rw [if_neg z4] at p
  exact p
theorem y_rem9 {q : Nat} (hq : q < 2 ^ 31) : nI q - nI q / (9 : Int32) * (9 : Int32) = nI (q % 9) := pk_rem hq (by decide) (by decide)
theorem y_rem8 {q : Nat} (hq : q < 2 ^ 31) : nI q - nI q / (8 : Int32) * (8 : Int32) = nI (q % 8) := pk_rem hq (by decide) (by decide)
theorem y_div8 {q : Nat} (hq : q < 2 ^ 31) : nI q / (8 : Int32) = nI (q / 8) := pk_div hq (by decide) (by decide)
theorem s_dNum {post : Int32 → Prop} {m q : Nat} (hq : q < 2 ^ 31) (p : ∀ r, (dk m ≠ 46 → r = nI (dn (dk m) q)) → post r) : w_X3_drawnNumber post (nI (dk m)) (nI q) := by
  unfold w_X3_drawnNumber w_X3_drawnNumber_B12
  rw [y_rem9 hq, nI_1, y_rem8 hq]
  have hk := dk_all m
  unfold dn at p
  refine pk_eq (dk m) 62 (fun z => p _ fun _ => ?_) (fun z0 => pk_eq (dk m) 60 (fun z => p _ fun _ => ?_) (fun z1 => p _ fun z => ?_))
  · rw [if_pos (Or.inl z)]
  · rw [if_pos (Or.inr z)]
  · rw [if_neg (by omega), if_neg z]
theorem y_draw {x : Nat} (hx : x < 65537) : (((75 : Int32) * nI x + (74 : Int32)) - ((75 : Int32) * nI x + (74 : Int32)) / (65537 : Int32) * (65537 : Int32)) = nI ((75 * x + 74) % 65537) := by
  have e : (75 : Int32) * nI x + (74 : Int32) = nI (75 * x + 74) := by
    rw [show (75 : Int32) = nI 75 from rfl, show (74 : Int32) = nI 74 from rfl, pk_mul, nI_add]
  rw [e]
  exact pk_rem (by omega) (by decide) (by decide)
theorem s_drawL {post : (Nat → Int32) → (Nat → Int32) → Int32 → Int32 → Int32 → Int32 → Int32 → Int32 → Int32 → Int32 → Int32 → Int32 → Prop} {P : Nat → Nat} {pl apl acr : Nat → Int32} {apr aly ahi apo asp aho p2 : Int32} {po sp N : Nat} (hN : N ≤ 99) (hp : plC P pl) (h1 : po ≤ 9) (h2 : sp ≤ 9) :
    ∀ (j n i x ac : Nat) (c : Ct) (cr : Nat → Int32) (pr ly hi ho re : Int32) (f : Option (Nat × Nat)), j < n → i + j = N → x < 65537 → ac ≤ i → okC c → clC c cr pr ly hi ho → fOk f → (∀ (cr' : Nat → Int32) (pr' ly' hi' ho' ac' re' fa' fw' : Int32), clC (drw P po sp j x c) cr' pr' ly' hi' ho' → post pl cr' pr' ly' hi' (nI po) (nI sp) ho' ac' re' fa' fw') → w_X3_draw_B11 post apl acr apr aly ahi apo asp aho p2 (nI N) n pl cr pr ly hi (nI po) (nI sp) ho (nI ac) re (fA f) (fW f) (nI x) (nI i) := by
  intro j
  induction j with
  | zero =>
    intro n i x ac c cr pr ly hi ho re f hn hi2 hx hac hc h hf p
    obtain ⟨n, rfl⟩ : ∃ n', n = n' + 1 := ⟨n - 1, by omega⟩
    unfold w_X3_draw_B11
    refine pk_le N i (fun _ => p _ _ _ _ _ _ _ _ _ h) (fun z => absurd z (by omega))
  | succ j ih =>
    intro n i x ac c cr pr ly hi ho re f hn hi2 hx hac hc h hf p
    obtain ⟨n, rfl⟩ : ∃ n', n = n' + 1 := ⟨n - 1, by omega⟩
    unfold w_X3_draw_B11
    refine pk_le N i (fun z => absurd z (by omega)) (fun z => ?_)
    intro y ey
    rw [y_draw hx] at ey
    subst ey
    have hy : (75 * x + 74) % 65537 < 65537 := Nat.mod_lt _ (by decide)
    have hd : (75 * x + 74) % 65537 / 8 < 2 ^ 31 := by omega
    rw [drw] at p
    generalize (75 * x + 74) % 65537 = y at *
    rw [y_rem8 (by omega), y_div8 (by omega)]
    refine s_dKind (by omega) (s_dNum hd (fun r hr => ?_))
    refine s_take (P := P) (f := f) hp hc h h1 h2 (dk_good _ (y / 8)) hr hf (fun hw cr' pr' ly' hi' ho' h' => ?_) (fun hw => ?_)
    · dsimp only
      rw [nI_1]
      have e : drS P po sp c (dk (y % 8)) (dn (dk (y % 8)) (y / 8)) = actC P po sp c (dk (y % 8)) (dn (dk (y % 8)) (y / 8)) := if_pos hw
      rw [e] at p
      exact ih n (i + 1) y (ac + 1) _ cr' pr' ly' hi' ho' _ _ (by omega) (by omega) hy (by omega) (actC_ok hc (dk_good _ _) hw) h' (noteS_ok hf (by omega)) p
    · dsimp only
      rw [nI_1]
      have e : drS P po sp c (dk (y % 8)) (dn (dk (y % 8)) (y / 8)) = c := if_neg hw
      rw [e] at p
      exact ih n (i + 1) y ac c cr pr ly hi ho _ f (by omega) (by omega) hy (by omega) hc h hf p
theorem y_dn60 : ∀ h, h < 16 → ∀ q, q < 9 → nI h + ((-1 : Int32) - nI q) = nI h - nI (q + 1) := by decide +kernel
theorem r_drawL {post : Int32 → (Nat → Int32) → Int32 → Int32 → Int32 → Prop} {P : Nat → Nat} {bk pl : Nat → Int32} {p1 p3 : Int32} {po sp N : Nat} {fa fw : Int32} (hN : N ≤ 99) (hp : plC P pl) (h1 : po ≤ 9) (h2 : sp ≤ 9) :
    ∀ (j n i x : Nat) (c : Ct) (nw : Nat → Int32) (re : Int32), j < n → i + j = N → x < 65537 → okC c → clM c nw → (∀ (nw' : Nat → Int32) (re' : Int32), clM (drw P po sp j x c) nw' → ∃ n212 : Nat, w_X9_year_B212 post bk pl (nI po) (nI sp) p1 (nI N) p3 n212 nw' fa fw re' (0 : Int32) (0 : Int32)) → w_X9_year_B43 post bk pl (nI po) (nI sp) p1 (nI N) p3 n nw fa fw re (nI x) (nI i) := by
  intro j
  induction j with
  | zero =>
    intro n i x c nw re hn hi2 hx hc h p
    obtain ⟨n, rfl⟩ : ∃ n', n = n' + 1 := ⟨n - 1, by omega⟩
    unfold w_X9_year_B43
    refine pk_le N i (fun _ => p _ _ h) (fun z => absurd z (by omega))
  | succ j ih =>
    intro n i x c nw re hn hi2 hx hc h p
    obtain ⟨n, rfl⟩ : ∃ n', n = n' + 1 := ⟨n - 1, by omega⟩
    unfold w_X9_year_B43
    refine pk_le N i (fun z => absurd z (by omega)) (fun z => ?_)
    intro y ey
    rw [y_draw hx] at ey
    subst ey
    have hy : (75 * x + 74) % 65537 < 65537 := Nat.mod_lt _ (by decide)
    rw [drw] at p
    generalize (75 * x + 74) % 65537 = y at *
    have hd : y / 8 < 2 ^ 31 := by omega
    rw [y_rem8 (by omega), y_div8 (by omega), y_rem9 hd, y_rem8 hd]
    have g0 : ∀ kd, dk (y % 8) = kd → why P c kd (dn kd (y / 8)) = 0 → ∀ nw', clM (actC P po sp c kd (dn kd (y / 8))) nw' → ∀ re, w_X9_year_B43 post bk pl (nI po) (nI sp) p1 (nI N) p3 n nw' fa fw re (nI y) (nI i + 1) := by
      intro kd ek hw nw' h' re
      rw [nI_1]
      subst ek
      rw [show drS P po sp c (dk (y % 8)) (dn (dk (y % 8)) (y / 8)) = actC P po sp c (dk (y % 8)) (dn (dk (y % 8)) (y / 8)) from if_pos hw] at p
      exact ih n (i + 1) y _ nw' re (by omega) (by omega) hy (actC_ok hc (dk_good _ _) hw) h' p
    have g1 : ∀ kd, dk (y % 8) = kd → why P c kd (dn kd (y / 8)) ≠ 0 → ∀ re, w_X9_year_B43 post bk pl (nI po) (nI sp) p1 (nI N) p3 n nw fa fw re (nI y) (nI i + 1) := by
      intro kd ek hw re
      rw [nI_1]
      subst ek
      rw [show drS P po sp c (dk (y % 8)) (dn (dk (y % 8)) (y / 8)) = c from if_neg hw] at p
      exact ih n (i + 1) y _ nw re (by omega) (by omega) hy hc h p
    have h8 : y / 8 % 8 < 8 := Nat.mod_lt _ (by decide)
    have h9 : y / 8 % 9 < 9 := Nat.mod_lt _ (by decide)
    refine pk_eq (y % 8) 0 (fun z => ?_) (fun z0 => pk_eq (y % 8) 1 (fun z => ?_) (fun z1 => pk_eq (y % 8) 2 (fun z => ?_) (fun z2 => pk_eq (y % 8) 3 (fun z => ?_) (fun z3 => pk_eq (y % 8) 4 (fun z => ?_) (fun z4 => ?_)))))
    · have ek : dk (y % 8) = 62 := by unfold dk; rw [if_pos z]
      have e : (1 : Int32) + nI (y / 8 % 9) = nI (y / 8 % 9 + 1) := by rw [show (1 : Int32) = nI 1 from rfl, nI_add, Nat.add_comm]
      rw [e]
      exact r_step (P := P) (po := po) (sp := sp) (kd := 62) (num := y / 8 % 9 + 1) hc h (Or.inr ⟨rfl, rfl⟩) (by omega) (fun hw nw' h' => g0 62 ek hw nw' h' _) (fun hw => g1 62 ek hw _)
    · have ek : dk (y % 8) = 60 := by unfold dk; rw [if_neg z0, if_pos z]
      exact r_step (P := P) (po := po) (sp := sp) (kd := 60) (num := y / 8 % 9 + 1) hc h (Or.inl ⟨rfl, y_dn60 (cH c) (by have := hc.2.2.2.1; omega) _ h9⟩) (by omega) (fun hw nw' h' => g0 60 ek hw nw' h' _) (fun hw => g1 60 ek hw _)
    · have ek : dk (y % 8) = 63 := by unfold dk; rw [if_neg z0, if_neg z1, if_pos z]
      exact r_bend hp hc h h1 h2 h8 (fun hw nw' h' => g0 63 ek hw nw' h' _) (fun hw => g1 63 ek hw _)
    · have ek : dk (y % 8) = 61 := by unfold dk; rw [if_neg z0, if_neg z1, if_neg z2, if_pos z]
      exact r_fill (P := P) (po := po) (sp := sp) hc h h8 (fun hw nw' h' => g0 61 ek hw nw' h' _) (fun hw => g1 61 ek hw _)
    · have ek : dk (y % 8) = 126 := by unfold dk; rw [if_neg z0, if_neg z1, if_neg z2, if_neg z3, if_pos z]
      exact r_think (P := P) (po := po) (sp := sp) hc h h8 (fun hw nw' h' => g0 126 ek hw nw' h' _) (fun hw => g1 126 ek hw _)
    · have ek : dk (y % 8) = 46 := by unfold dk; rw [if_neg z0, if_neg z1, if_neg z2, if_neg z3, if_neg z4]
      exact r_endHour hp hc h h1 h2 (fun hw nw' h' => g0 46 ek hw nw' h' _) (fun hw => g1 46 ek hw _)
def sumC (c : Ct) : Nat → Nat
  | 0 => 0
  | n + 1 => sumC c n + (if (cP c).testBit n = true then cC c n else 0)
theorem s_inAll {post : Int32 → Prop} {c : Ct} {cr : Nat → Int32} {pr ly hi ho : Int32} (hc : okC c) (h : clC c cr pr ly hi ho) (p : post (nI (sumC c 8))) : w_X1_creamInAll post cr pr := by
  obtain ⟨rfl, rfl, rfl, rfl, h5, h6⟩ := h
  have hP := hc.2.1
  have key : ∀ n k, 8 - k < n → k ≤ 8 → w_X1_creamInAll_B4 post cr (nI (cP c)) n (nI (sumC c k)) (nI k) := by
    intro n
    induction n with
    | zero => intro k z; omega
    | succ n ih =>
      intro k z1 z2
      unfold w_X1_creamInAll_B4
      refine pk_le 8 k (fun z => ?_) (fun z => ?_)
      · rw [show k = 8 by omega]; exact p
      · refine s_has (by omega) z (y_01 (fun hb => ?_) (fun hb => ⟨vp_in_nI z (by decide), ?_⟩))
        · dsimp only
          have e : sumC c k = sumC c (k + 1) := by rw [sumC, if_neg hb]; rfl
          rw [e, nI_1]
          exact ih (k + 1) (by omega) (by omega)
        · intro y ey
          rw [nI_clamp (by omega), h5 k z hb, nI_add] at ey
          have e : sumC c k + cC c k = sumC c (k + 1) := by rw [sumC, if_pos hb]
          rw [e] at ey
          rw [ey, nI_1]
          exact ih (k + 1) (by omega) (by omega)
  exact ⟨9, key 9 0 (by omega) (by omega)⟩
theorem r_yearEnd {post : Int32 → (Nat → Int32) → Int32 → Int32 → Int32 → Prop} {c : Ct} {bk pl nw : Nat → Int32} {pw ss p1 p2 fa fw re : Int32} {k3 : Nat} (hk : k3 ≤ 2) (hc : okC c) (h : clM c nw) (p : post (if k3 = 0 then nI (pop 12 (off 8 c)) else if k3 = 1 then nI (sumC c 8) else nI (cH c)) nw fa fw re) : ∃ n, w_X9_year_B212 post bk pl pw ss p1 p2 (nI k3) n nw fa fw re 0 0 := by
  have key : ∀ n k, 8 - k < n → k ≤ 8 → w_X9_year_B212 post bk pl pw ss p1 p2 (nI k3) n nw fa fw re (nI (sumC c k)) (nI k) := by
    intro n
    induction n with
    | zero => intro k z; omega
    | succ n ih =>
      intro k z1 z2
      unfold w_X9_year_B212
      refine pk_le 8 k (fun z => ?_) (fun z => ?_)
      · have ek : k = 8 := by omega
        subst ek
        refine pk_eq k3 0 (fun z => ?_) (fun z0 => pk_eq k3 1 (fun z => ?_) (fun z1 => ?_))
        · rw [if_pos z] at p
          have := off_lt 8 c
          exact r_offOnes hc h (s_bits (by omega) p)
        · rw [if_neg z0, if_pos z] at p; exact p
        · rw [if_neg z0, if_neg z1] at p
          rw [t10, h.2.2.2.1]; exact p
      · refine r_sits hc h z (y_01 (fun hb => ?_) (fun hb => ⟨vp_in_nI (by omega) (by decide), ?_⟩))
        · unfold w_X9_year_B241
          have e : nI (sumC c k) + 0 = nI (sumC c (k + 1)) := by rw [sumC, if_neg hb, show (0 : Int32) = nI 0 from rfl, nI_add]
          rw [e, nI_1]
          exact ih (k + 1) (by omega) (by omega)
        · unfold w_X9_year_B241
          have e : nI (sumC c k) + nw (nI k).toNatClampNeg = nI (sumC c (k + 1)) := by rw [sumC, if_pos hb, nI_clamp (by omega), h.1 k z, nI_add]
          rw [e, nI_1]
          exact ih (k + 1) (by omega) (by omega)
  exact ⟨9, key 9 0 (by omega) (by omega)⟩
theorem e_year {pl cr bk rpl hpl hcr nw : Nat → Int32} {pr ly hi po sp ho rpo rsp hpr hly hhi hpo hsp hho hac hre hfa hfw ofa ofw re p1 p2 p3 : Int32} (h : RC pl cr pr ly hi po sp ho bk rpl rpo rsp) :
    w_X8_year (fun r _ _ _ _ _ _ _ _ _ _ _ _ => w_X9_year (fun r' _ _ _ _ => r = r') bk nw rpl rpo rsp ofa ofw re p1 p2 p3) pl cr pr ly hi po sp ho hpl hcr hpr hly hhi hpo hsp hho hac hre hfa hfw p1 p2 p3 := by
  obtain ⟨c, P, n, m, hc, h1, h2, h3, h4, hn, hm, rfl, rfl, rfl, rfl⟩ := h
  unfold w_X8_year
  rcases y_rng0 p1 9999 with ⟨k1, hk1, rfl⟩ | o1
  · refine s8_in 0 9999 (Nat.zero_le _) hk1 (by decide) (y_1 ?_)
    rcases y_rng p2 1 99 with ⟨k2, hk2, hk2b, rfl⟩ | o2
    · refine s8_in 1 99 hk2 hk2b (by decide) (y_1 ?_)
      rcases y_rng0 p3 2 with ⟨k3, hk3, rfl⟩ | o3
      · refine s8_in 0 2 (Nat.zero_le _) hk3 (by decide) (y_1 ?_)
        have ok := drw_ok (P := P) (po := n) (sp := m) k2 k1 c hc
        have ref : ∀ r, r = (if k3 = 0 then nI (pop 12 (off 8 (drw P n m k2 k1 c))) else if k3 = 1 then nI (sumC (drw P n m k2 k1 c) 8) else nI (cH (drw P n m k2 k1 c))) → w_X9_year (fun r' _ _ _ _ => r = r') bk nw rpl (nI n) (nI m) ofa ofw re (nI k1) (nI k2) (nI k3) := by
          intro r er
          unfold w_X9_year
          refine s9_in 0 9999 (Nat.zero_le _) hk1 (by decide) (y_1 (s9_in 1 99 hk2 hk2b (by decide) (y_1 (s9_in 0 2 (Nat.zero_le _) hk3 (by decide) (y_1 ?_)))))
          refine r_asNow (fun nw' hnw => ⟨k2 + 1, ?_⟩)
          exact r_drawL (N := k2) hk2b h4 hn hm k2 (k2 + 1) 0 k1 c nw' re (by omega) (by omega) (by omega) hc (clM_cpy h2 hnw) (fun nw2 re2 hM => r_yearEnd hk3 ok hM er)
        unfold w_X3_draw w_X3_begin w_X1_become
        refine ⟨k2 + 1, ?_⟩
        refine s_drawL (P := P) (N := k2) hk2b (y_cpyP h3) hn hm k2 (k2 + 1) 0 k1 0 c _ _ _ _ _ _ none (by omega) (by omega) (by omega) (by omega) hc (y_cpyC h1) (fun x hx => by cases hx) ?_
        intro cr' pr' ly' hi' ho' ac' re' fa' fw' h'
        have hO := off_lt 8 (drw P n m k2 k1 c)
        refine pk_eq k3 0 (fun z => ?_) (fun z0 => pk_eq k3 1 (fun z => ?_) (fun z1 => ?_))
        · exact s_offOnes ok h' (s_bitCount (by omega) (ref _ (by rw [if_pos z])))
        · exact s_inAll ok h' (ref _ (by rw [if_neg z0, if_pos z]))
        · obtain ⟨rfl, rfl, rfl, rfl, g5, g6⟩ := h'
          exact ref _ (by rw [if_neg z0, if_neg z1])
      · refine s8_out o3 (y_0 ?_)
        unfold w_X9_year
        exact s9_in 0 9999 (Nat.zero_le _) hk1 (by decide) (y_1 (s9_in 1 99 hk2 hk2b (by decide) (y_1 (s9_out o3 (y_0 rfl)))))
    · refine s8_out o2 (y_0 ?_)
      unfold w_X9_year
      exact s9_in 0 9999 (Nat.zero_le _) hk1 (by decide) (y_1 (s9_out o2 (y_0 rfl)))
  · refine s8_out o1 (y_0 ?_)
    unfold w_X9_year
    exact s9_out o1 (y_0 rfl)
