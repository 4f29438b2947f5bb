-- the two sides' states belong together; pairs of calls, first half: the court and the text
def RC (pl cr : Nat → Int32) (pr ly hi po sp ho : Int32) (bk rpl : Nat → Int32) (rpo rsp : Int32) : Prop := ∃ (c : Ct) (P : Nat → Nat) (n m : Nat), okC c ∧ clC c cr pr ly hi ho ∧ clM c bk ∧ plC P pl ∧ plC P rpl ∧ n ≤ 9 ∧ m ≤ 9 ∧ po = nI n ∧ rpo = nI n ∧ sp = nI m ∧ rsp = nI m
def RP (sg : Nat → Int32) (ct rsn : Int32) (rpad : Nat → Int32) : Prop := ∃ (t : Nat → Nat) (n : Nat), n ≤ 60 ∧ ct = nI n ∧ rsn = nI n ∧ txC t sg ∧ txC t rpad
theorem e_he {pl cr bk rpl : Nat → Int32} {pr ly hi po sp ho rpo rsp p1 p2 p3 : Int32} (h : RC pl cr pr ly hi po sp ho bk rpl rpo rsp) :
    w_X8_he (fun r hi' po' sp' => w_X9_he (fun r' bk' rpo' rsp' => r = r' ∧ RC pl cr pr ly hi' po' sp' ho bk' rpl rpo' rsp') bk rpo rsp p1 p2 p3) hi po sp p1 p2 p3 := by
  obtain ⟨c, P, n, m, hc, h1, h2, h3, h4, hn, hm, rfl, rfl, rfl, rfl⟩ := h
  obtain ⟨rfl, rfl, rfl, rfl, h5, h6⟩ := h1
  have same : RC pl cr (nI (cP c)) (nI (cL c)) (nI (cH c)) (nI n) (nI m) (nI (cT c)) bk rpl (nI n) (nI m) := ⟨c, P, n, m, hc, ⟨rfl, rfl, rfl, rfl, h5, h6⟩, h2, h3, h4, hn, hm, rfl, rfl, rfl, rfl⟩
  unfold w_X8_he
  rcases y_rng0 p1 15 with ⟨k1, hk1, rfl⟩ | o1
  · refine s_isP hk1 (y_1 ?_)
    rcases y_rng0 p2 9 with ⟨k2, hk2, rfl⟩ | o2
    · refine s8_in 0 9 (Nat.zero_le _) hk2 (by decide) (y_1 ?_)
      rcases y_rng0 p3 9 with ⟨k3, hk3, rfl⟩ | o3
      · refine s8_in 0 9 (Nat.zero_le _) hk3 (by decide) (y_1 ?_)
        intro y ey
        unfold w_X9_he
        refine s9_in 0 15 (Nat.zero_le _) hk1 (by decide) (y_1 (s9_in 0 9 (Nat.zero_le _) hk2 (by decide) (y_1 (s9_in 0 9 (Nat.zero_le _) hk3 (by decide) (y_1 ?_)))))
        intro y2 ey2
        rw [t10, h2.2.2.2.1] at ey2
        rw [t10]
        refine ⟨ey.trans ey2.symm, (cC c, cP c, cL c, k1, cT c), P, k2, k3, ⟨hc.1, hc.2.1, hc.2.2.1, hk1, hc.2.2.2.2⟩, ⟨rfl, rfl, rfl, rfl, h5, h6⟩, ⟨fun j hj => ?_, ?_, ?_, ?_, ?_⟩, h3, h4, hk2, hk3, rfl, rfl, rfl, rfl⟩
        · rw [upd_n (by omega)]; exact h2.1 j hj
        · rw [upd_n (by omega)]; exact h2.2.1
        · rw [upd_n (by omega)]; exact h2.2.2.1
        · rw [upd_s]
        · rw [upd_n (by omega)]; exact h2.2.2.2.2
      · refine s8_out o3 (y_0 ?_)
        unfold w_X9_he
        exact s9_in 0 15 (Nat.zero_le _) hk1 (by decide) (y_1 (s9_in 0 9 (Nat.zero_le _) hk2 (by decide) (y_1 (s9_out o3 (y_0 ⟨rfl, same⟩)))))
    · refine s8_out o2 (y_0 ?_)
      unfold w_X9_he
      exact s9_in 0 15 (Nat.zero_le _) hk1 (by decide) (y_1 (s9_out o2 (y_0 ⟨rfl, same⟩)))
  · refine s_isPo o1 (y_0 ?_)
    unfold w_X9_he
    exact s9_out o1 (y_0 ⟨rfl, same⟩)
theorem e_milk {mk rmk p1 : Int32} (h : mk = rmk) : w_X8_milk (fun r mk' => w_X9_milk (fun r' rmk' => r = r' ∧ mk' = rmk' ∧ (mk' = mk ∨ ∃ k, k < 4096 ∧ mk' = nI k)) rmk p1) mk p1 := by
  subst h
  unfold w_X8_milk
  rcases y_rng0 p1 4095 with ⟨k1, hk1, rfl⟩ | o1
  · refine s8_in 0 4095 (Nat.zero_le _) hk1 (by decide) (y_1 ?_)
    unfold w_X9_milk
    exact s9_in 0 4095 (Nat.zero_le _) hk1 (by decide) (y_1 ⟨rfl, rfl, Or.inr ⟨k1, by omega, rfl⟩⟩)
  · refine s8_out o1 (y_0 ?_)
    unfold w_X9_milk
    exact s9_out o1 (y_0 ⟨rfl, rfl, Or.inl rfl⟩)
theorem e_wipe {sg rpad : Nat → Int32} {ct rsn : Int32} (h : RP sg ct rsn rpad) : w_X8_wipe (fun r ct' => w_X9_wipe (fun r' rsn' => r = r' ∧ RP sg ct' rsn' rpad) rsn) ct := by
  obtain ⟨t, n, hn, rfl, rfl, h1, h2⟩ := h
  unfold w_X8_wipe w_X9_wipe
  exact ⟨rfl, t, 0, by omega, rfl, rfl, h1, h2⟩
theorem e_fault {sg rpad : Nat → Int32} {ct rsn : Int32} (h : RP sg ct rsn rpad) : w_X8_fault (fun r => w_X9_fault (fun r' => r = r') rsn rpad) sg ct := by
  obtain ⟨t, n, hn, rfl, rfl, h1, h2⟩ := h
  unfold w_X8_fault w_X9_fault
  exact s_fault h1 hn (r_fault h2 hn rfl)
theorem e_say {sg rpad : Nat → Int32} {ct rsn p1 : Int32} (h : RP sg ct rsn rpad) : w_X8_say (fun r sg' ct' => w_X9_say (fun r' rsn' rpad' => r = r' ∧ RP sg' ct' rsn' rpad') rsn rpad p1) sg ct p1 := by
  obtain ⟨t, n, hn, rfl, rfl, h1, h2⟩ := h
  unfold w_X8_say
  rcases y_rng p1 33 126 with ⟨k1, hk0, hk1, rfl⟩ | o1
  · refine s8_in 33 126 hk0 hk1 (by decide) (y_1 ?_)
    refine pk_lt n 60 (fun hl => ?_) (fun hl => ?_)
    · unfold w_X4_write
      refine s8_in 0 59 (Nat.zero_le _) (by omega) (by decide) (y_1 ⟨vp_in_nI hl (by decide), ?_⟩)
      unfold w_X9_say
      refine s9_in 33 126 hk0 hk1 (by decide) (y_1 ?_)
      refine pk_eq n 60 (fun z => by omega) (fun _ => ⟨vp_in_nI hl (by decide), ?_⟩)
      have hch : vp_nar .char ((nI k1).toUInt32 % 65536).toInt32 = nI k1 := by
        rw [pk_vc, pk_char, pk_tn (by omega), Nat.mod_eq_of_lt (by omega)]
      rw [nI_1, nI_clamp (by omega), hch]
      refine ⟨rfl, nup t n k1, n + 1, by omega, rfl, rfl, fun j hj => ?_, fun j hj => ?_⟩
      · by_cases e : j = n
        · subst e; rw [upd_s, nup_s]; exact ⟨rfl, hk1⟩
        · rw [upd_n e, nup_n e]; exact h1 j hj
      · by_cases e : j = n
        · subst e; rw [upd_s, nup_s]; exact ⟨rfl, hk1⟩
        · rw [upd_n e, nup_n e]; exact h2 j hj
    · unfold w_X9_say
      refine s9_in 33 126 hk0 hk1 (by decide) (y_1 ?_)
      exact pk_eq n 60 (fun _ => ⟨rfl, t, n, hn, rfl, rfl, h1, h2⟩) (fun z => by omega)
  · refine s8_out o1 (y_0 ?_)
    unfold w_X9_say
    exact s9_out o1 (y_0 ⟨rfl, t, n, hn, rfl, rfl, h1, h2⟩)
theorem e_judge {pl cr bk rpl sg rpad hpl hcr nw : Nat → Int32} {pr ly hi po sp ho rpo rsp ct rsn hpr hly hhi hpo hsp hho hac hre hfa hfw ofa ofw re ac p1 : Int32} (h : RC pl cr pr ly hi po sp ho bk rpl rpo rsp) (hP : RP sg ct rsn rpad) :
    w_X8_judge (fun r _ _ _ _ _ _ _ _ _ _ _ _ => w_X9_judge (fun r' _ _ _ _ _ => r = r') bk nw rpl rpo rsp rsn rpad ofa ofw re ac p1) pl cr pr ly hi po sp ho sg ct hpl hcr hpr hly hhi hpo hsp hho hac hre hfa hfw p1 := by
  obtain ⟨c, P, n, m, hc, h1, h2, h3, h4, hn, hm, rfl, rfl, rfl, rfl⟩ := h
  obtain ⟨t, k, hk, rfl, rfl, ht1, ht2⟩ := hP
  unfold w_X8_judge
  rcases y_rng0 p1 1 with ⟨k1, hk1, rfl⟩ | o1
  · refine s8_in 0 1 (Nat.zero_le _) hk1 (by decide) (y_1 ?_)
    have hneg := fI_neg (o := fltA t k 0) (fun q hq => fltA_le hq hk)
    refine s_hear ht1 hk h3 hc h1 hn hm (fun hf _ _ _ _ _ _ _ _ _ _ _ => ⟨fun _ => ?_, fun z => absurd rfl z⟩) (fun hf pl' cr' pr' ly' hi' ho' _ _ => ?_)
    · unfold w_X9_judge
      exact s9_in 0 1 (Nat.zero_le _) hk1 (by decide) (y_1 (r_fault ht2 hk ⟨fun z => absurd (hneg.2.1.mp z) hf, fun _ => rfl⟩))
    · have ok := goA_ok (t := t) (n := k) (P := P) (po := n) (sp := m) hk 62 0 c 0 none (by omega) hf hc (fun x hx => by cases hx) (Nat.le_refl 0)
      have ref : ∀ (post : Int32 → (Nat → Int32) → Int32 → Int32 → Int32 → Int32 → Prop), (∀ nw' re', ((goA t k P n m 0 c 0 none).2.1 = 0 → post (-6) nw' (fA (goA t k P n m 0 c 0 none).2.2.2) (fW (goA t k P n m 0 c 0 none).2.2.2) re' (nI (goA t k P n m 0 c 0 none).2.2.1)) ∧ ((goA t k P n m 0 c 0 none).2.1 ≠ 0 → re' = nI (goA t k P n m 0 c 0 none).2.1 → post (if k1 = 0 then nI (goA t k P n m 0 c 0 none).2.2.1 else re') nw' (fA (goA t k P n m 0 c 0 none).2.2.2) (fW (goA t k P n m 0 c 0 none).2.2.2) re' (nI (goA t k P n m 0 c 0 none).2.2.1))) → w_X9_judge post bk nw rpl (nI n) (nI m) (nI k) rpad ofa ofw re ac (nI k1) := by
        intro post hp
        unfold w_X9_judge w_X9_judge_B35
        refine s9_in 0 1 (Nat.zero_le _) hk1 (by decide) (y_1 (r_fault ht2 hk ⟨fun _ => ?_, fun z => absurd (hneg.2.1.mpr hf) z⟩))
        refine r_go ht2 hk hf h4 hc h2 hn hm (fun e0 nw' re' _ => ⟨fun _ => (hp nw' re').1 e0, fun z => absurd (by decide) z⟩) (fun e0 nw' => ⟨fun z => absurd z (nI_pos (by omega)), fun _ => ?_⟩)
        have q := (hp nw' _).2 e0 rfl
        refine pk_eq k1 0 (fun z => ?_) (fun z => ?_)
        · rw [if_pos z] at q; exact q
        · rw [if_neg z] at q; exact q
      refine ⟨fun z => absurd z (nI_nm1 (by omega)), fun _ => ?_⟩
      refine pk_eq (goA t k P n m 0 c 0 none).2.1 0 (fun e0 => ref _ (fun nw' re' => ⟨fun _ => rfl, fun z => absurd e0 z⟩)) (fun e0 => pk_eq k1 0 (fun z => ref _ (fun nw' re' => ⟨fun z2 => absurd z2 e0, fun _ _ => by rw [if_pos z]⟩)) (fun z => ref _ (fun nw' re' => ⟨fun z2 => absurd z2 e0, fun _ er => by rw [if_neg z, er]⟩)))
  · refine s8_out o1 (y_0 ?_)
    unfold w_X9_judge
    exact s9_out o1 (y_0 rfl)
/-- the terms heard: they can be, with what is so behind them, or not -/
theorem s_terms {post : (Nat → Int32) → (Nat → Int32) → Int32 → Int32 → Int32 → Int32 → Int32 → Int32 → Int32 → Int32 → Int32 → Int32 → Prop} {pl cr sg hpl hcr : Nat → Int32} {pr ly hi ho hpr hly hhi hpo hsp hho hac hre hfa hfw : Int32} {t : Nat → Nat} {k n m : Nat} {P : Nat → Nat} {c : Ct}
    (hc : okC c) (h1 : clC c cr pr ly hi ho) (h3 : plC P pl) (hn : n ≤ 9) (hm : m ≤ 9) (hk : k ≤ 60) (ht1 : txC t sg)
    (p0 : ∀ a1 a2 a3 a4 a5 a6 a7 a8 a9 a10 a11 a12, (fltA t k 0 ≠ none ∨ (goA t k P n m 0 c 0 none).2.1 ≠ 0) → ¬ a10 = 0 → post a1 a2 a3 a4 a5 a6 a7 a8 a9 a10 a11 a12)
    (p1 : fltA t k 0 = none → (goA t k P n m 0 c 0 none).2.1 = 0 → ∀ (pl' cr' : Nat → Int32) (pr' ly' hi' ho' : Int32), plC P pl' → clC (goA t k P n m 0 c 0 none).1 cr' pr' ly' hi' ho' → post pl' cr' pr' ly' hi' (nI n) (nI m) ho' (nI (goA t k P n m 0 c 0 none).2.2.1) (nI 0) (fA (goA t k P n m 0 c 0 none).2.2.2) (fW (goA t k P n m 0 c 0 none).2.2.2)) :
    w_X3_hear post hpl hcr hpr hly hhi hpo hsp hho hac hre hfa hfw pl cr pr ly hi (nI n) (nI m) ho sg (nI k) := by
  refine s_hear ht1 hk h3 hc h1 hn hm (fun hf _ _ _ _ _ _ _ _ _ _ _ => p0 _ _ _ _ _ _ _ _ _ _ _ _ (Or.inl hf) (by decide)) (fun hf pl' cr' pr' ly' hi' ho' q1 q2 => ?_)
  have ok := goA_ok (t := t) (n := k) (P := P) (po := n) (sp := m) hk 62 0 c 0 none (by omega) hf hc (fun x hx => by cases hx) (Nat.le_refl 0)
  by_cases e0 : (goA t k P n m 0 c 0 none).2.1 = 0
  · have q := p1 hf e0 pl' cr' pr' ly' hi' ho' q1 q2
    rw [e0]
    exact q
  · exact p0 _ _ _ _ _ _ _ _ _ _ _ _ (Or.inr e0) (nI_ne0 (by omega) (by omega))
theorem r_bar {post : Int32 → (Nat → Int32) → Int32 → Int32 → Int32 → Int32 → Prop} {bk nw pl sg : Nat → Int32} {ofa ofw re ac : Int32} {t : Nat → Nat} {k n m : Nat} {P : Nat → Nat} {c : Ct}
    (hc : okC c) (h2 : clM c bk) (h4 : plC P pl) (hn : n ≤ 9) (hm : m ≤ 9) (hk : k ≤ 60) (ht2 : txC t sg)
    (p0 : ∀ a1 a2 a3 a4 a5, (fltA t k 0 ≠ none ∨ (goA t k P n m 0 c 0 none).2.1 ≠ 0) → post (-5) a1 a2 a3 a4 a5)
    (p1 : fltA t k 0 = none → (goA t k P n m 0 c 0 none).2.1 = 0 → ∀ (nw' : Nat → Int32) (re' : Int32), clM (goA t k P n m 0 c 0 none).1 nw' → post 0 nw' (fA (goA t k P n m 0 c 0 none).2.2.2) (fW (goA t k P n m 0 c 0 none).2.2.2) re' (nI (goA t k P n m 0 c 0 none).2.2.1)) :
    w_X9_barOfTerms post bk nw pl (nI n) (nI m) (nI k) sg ofa ofw re ac := by
  unfold w_X9_barOfTerms w_X9_barOfTerms_B14
  have hneg := fI_neg (o := fltA t k 0) (fun q hq => fltA_le hq hk)
  refine r_fault ht2 hk ⟨fun z => p0 _ _ _ _ _ (Or.inl (hneg.2.2.mp z)), fun z => ?_⟩
  have hf : fltA t k 0 = none := Classical.byContradiction (fun q => z (hneg.2.2.mpr q))
  have ok := goA_ok (t := t) (n := k) (P := P) (po := n) (sp := m) hk 62 0 c 0 none (by omega) hf hc (fun x hx => by cases hx) (Nat.le_refl 0)
  refine r_go ht2 hk hf h4 hc h2 hn hm (fun e0 nw' re' q => ⟨fun _ => p1 hf e0 nw' re' q, fun z => absurd (by decide) z⟩) (fun e0 nw' => ⟨fun z => absurd z (nI_pos (by omega)), fun _ => p0 _ _ _ _ _ (Or.inr e0)⟩)
