-- pairs of calls: witness, done, behind, then, lasts
theorem r_isThere {post : Int32 → Prop} {c : Ct} {bk : Nat → Int32} {k : Nat} (hc : okC c) (h : clM c bk) (hk : k < 8) (p : post (if (cP c).testBit k = true then 1 else 0)) : w_X9_isThere post bk (nI k) := by
  have := hc.2.1
  unfold w_X9_isThere w_X9_isThere_B28
  refine s9_in 0 7 (Nat.zero_le _) (by omega) (by decide) (y_1 ?_)
  rw [t8, h.2.1]
  refine s9_has (by omega) (by omega) (y_01 (fun hb => ?_) (fun hb => ?_))
  · rw [if_neg hb] at p; exact p
  · rw [if_pos hb] at p; exact p
theorem r_isThereo {post : Int32 → Prop} {bk : Nat → Int32} {x : Int32} (h : x < nI 0 ∨ nI 7 < x) (p : post 0) : w_X9_isThere post bk x := by
  unfold w_X9_isThere w_X9_isThere_B28
  exact s9_out h (y_0 p)
theorem nd_or (a b : Nat) : nd a b ||| b = a ||| b := by
  apply Nat.eq_of_testBit_eq
  intro i
  rw [Nat.testBit_or, Nat.testBit_or, nd_bit]
  cases a.testBit i <;> cases b.testBit i <;> rfl
theorem e_witness {pl cr bk rpl : Nat → Int32} {pr ly hi po sp ho rpo rsp p1 p2 p3 p4 : Int32} (h : RC pl cr pr ly hi po sp ho bk rpl rpo rsp) :
    w_X8_witness (fun r pl' cr' pr' ly' => w_X9_witness (fun r' bk' rpl' => r = r' ∧ RC pl' cr' pr' ly' hi po sp ho bk' rpl' rpo rsp) bk rpl p1 p2 p3 p4) pl cr pr ly p1 p2 p3 p4 := by
  obtain ⟨c, P, n, m, hc, h1, h2, h3, h4, hn, hm, rfl, rfl, rfl, rfl⟩ := h
  obtain ⟨rfl, rfl, rfl, rfl, h5, h6⟩ := h1
  have same : RC pl cr (nI (cP c)) (nI (cL c)) (nI (cH c)) (nI n) (nI m) (nI (cT c)) bk rpl (nI n) (nI m) := ⟨c, P, n, m, hc, ⟨rfl, rfl, rfl, rfl, h5, h6⟩, h2, h3, h4, hn, hm, rfl, rfl, rfl, rfl⟩
  unfold w_X8_witness
  rcases y_rng0 p1 7 with ⟨k, hk, rfl⟩ | o1
  · refine s_isW (by omega) (y_1 ?_)
    rcases y_rng0 p2 15 with ⟨pc, hpc, rfl⟩ | o2
    · refine s_isP hpc (y_1 ?_)
      rcases y_rng0 p4 99 with ⟨cm, hcm, rfl⟩ | o3
      · refine s8_in 0 99 (Nat.zero_le _) hcm (by decide) (y_1 ?_)
        have hP8 := hc.2.1
        have hL8 := hc.2.2.1
        have hpow : 2 ^ k < 256 := y_pow_lt (n := 8) (by omega)
        have hor : cP c ||| 2 ^ k < 256 := y_or_lt (n := 8) hP8 hpow
        -- the new court, whether he lies
        have fin : ∀ (ly2 : Nat), ly2 < 256 → ∀ bk' : Nat → Int32, (∀ j, j < 8 → bk' j = upd bk k (nI cm) j) → bk' 8 = nI (cP c ||| 2 ^ k) → bk' 9 = nI ly2 → bk' 10 = bk 10 → bk' 11 = bk 11 → RC (upd pl k (nI pc)) (upd cr k (nI cm)) (nI (cP c ||| 2 ^ k)) (nI ly2) (nI (cH c)) (nI n) (nI m) (nI (cT c)) bk' (upd rpl k (nI pc)) (nI n) (nI m) := by
          intro ly2 hly2 bk' b1 b2 b3 b4 b5
          refine ⟨(nup (cC c) k cm, cP c ||| 2 ^ k, ly2, cH c, cT c), nup P k pc, n, m, ⟨fun j hj => ?_, hor, hly2, hc.2.2.2.1, hc.2.2.2.2⟩, ⟨rfl, rfl, rfl, rfl, fun j hj hb => ?_, fun j hj => ?_⟩, ⟨fun j hj => ?_, b2, b3, by rw [b4]; exact h2.2.2.2.1, by rw [b5]; exact h2.2.2.2.2⟩, fun j hj => ?_, fun j hj => ?_, hn, hm, rfl, rfl, rfl, rfl⟩
          · show nup (cC c) k cm j ≤ 99
            by_cases e : j = k
            · subst e; rw [nup_s]; exact hcm
            · rw [nup_n e]; exact hc.1 j hj
          · show upd cr k (nI cm) j = nI (nup (cC c) k cm j)
            by_cases e : j = k
            · subst e; rw [upd_s, nup_s]
            · rw [upd_n e, nup_n e]
              have hb' : (cP c ||| 2 ^ k).testBit j = true := hb
              rw [Nat.testBit_or, y_pow_bit] at hb'
              refine h5 j hj ?_
              have : ¬ k = j := fun z => e z.symm
              simpa [this] using hb'
          · by_cases e : j = k
            · subst e; exact ⟨cm, hcm, upd_s _ _ _⟩
            · rw [upd_n e]; exact h6 j hj
          · rw [b1 j hj]
            show upd bk k (nI cm) j = nI (nup (cC c) k cm j)
            by_cases e : j = k
            · subst e; rw [upd_s, nup_s]
            · rw [upd_n e, nup_n e]; exact h2.1 j hj
          · by_cases e : j = k
            · subst e; rw [upd_s, nup_s]; exact ⟨rfl, hpc⟩
            · rw [upd_n e, nup_n e]; exact h3 j hj
          · by_cases e : j = k
            · subst e; rw [upd_s, nup_s]; exact ⟨rfl, hpc⟩
            · rw [upd_n e, nup_n e]; exact h4 j hj
        -- the reference, with the result named
        have ref : ∀ (r : Int32) (lyv : Nat) (post : Int32 → (Nat → Int32) → (Nat → Int32) → Prop), lyv < 256 → (if p3 = 0 then nd (cL c) (2 ^ k) else cL c ||| 2 ^ k) = lyv → (∀ bk', RC (upd pl k (nI pc)) (upd cr k (nI cm)) (nI (cP c ||| 2 ^ k)) (nI lyv) (nI (cH c)) (nI n) (nI m) (nI (cT c)) bk' (upd rpl k (nI pc)) (nI n) (nI m) → post (nI (pop 12 (cP c ||| 2 ^ k))) bk' (upd rpl k (nI pc))) → w_X9_witness post bk rpl (nI k) (nI pc) p3 (nI cm) := by
          intro r lyv post hlv elv hpost
          unfold w_X9_witness
          refine s9_in 0 7 (Nat.zero_le _) hk (by decide) (y_1 (s9_in 0 15 (Nat.zero_le _) hpc (by decide) (y_1 (s9_in 0 99 (Nat.zero_le _) hcm (by decide) (y_1 ⟨vp_in_nI (by omega) (by decide), vp_in_nI (by omega) (by decide), ?_⟩)))))
          rw [nI_clamp (by omega), t8, t9, upd_n (f := bk) (show 8 ≠ k by omega), h2.2.1, y_sh1 k (by omega), y_or]
          have e9 : upd (upd bk k (nI cm)) 8 (nI (cP c ||| 2 ^ k)) 9 = nI (cL c) := by rw [upd_n (by decide), upd_n (by omega)]; exact h2.2.2.1
          rw [e9, y_nd, upd_s]
          unfold w_X9_witness_B98
          rw [t8, t9]
          have last : ∀ z : Nat, nd (cL c) (2 ^ k) ||| z = lyv → vp_in (9 : Int32) 12 ∧ w_X9_bits (fun r107 => post r107 (upd (upd (upd (upd bk k (nI cm)) 8 (nI (cP c ||| 2 ^ k))) 9 (nI (nd (cL c) (2 ^ k)))) 9 (nI (nd (cL c) (2 ^ k)) ||| nI z)) (upd rpl k (nI pc))) (upd (upd (upd (upd bk k (nI cm)) 8 (nI (cP c ||| 2 ^ k))) 9 (nI (nd (cL c) (2 ^ k)))) 9 (nI (nd (cL c) (2 ^ k)) ||| nI z) 8) := by
            intro z ez
            refine ⟨z_in rfl, ?_⟩
            rw [y_or, ez]
            have e8 : upd (upd (upd (upd bk k (nI cm)) 8 (nI (cP c ||| 2 ^ k))) 9 (nI (nd (cL c) (2 ^ k)))) 9 (nI lyv) 8 = nI (cP c ||| 2 ^ k) := by rw [upd_n (by decide), upd_n (by decide), upd_s]
            rw [e8]
            refine s_bits (by omega) (hpost _ (fin lyv hlv _ (fun j hj => ?_) e8 (upd_s _ _ _) ?_ ?_))
            · rw [upd_n (by omega), upd_n (by omega), upd_n (by omega)]
            · rw [upd_n (by decide), upd_n (by decide), upd_n (by decide), upd_n (by omega)]
            · rw [upd_n (by decide), upd_n (by decide), upd_n (by decide), upd_n (by omega)]
          refine ⟨fun z => ?_, fun z => ?_⟩
          · rw [if_pos z] at elv
            exact last 0 (by rw [Nat.or_zero]; exact elv)
          · rw [if_neg z] at elv
            exact last (2 ^ k) (by rw [nd_or]; exact elv)
        unfold w_X1_seat
        refine s_isW (by omega) (y_1 ?_)
        intro y ey
        rw [y_sh1 k (by omega)] at ey
        rw [ey]
        refine ⟨vp_in_nI (by omega) (by decide), vp_in_nI (by omega) (by decide), ?_⟩
        rw [nI_clamp (by omega), y_or]
        refine ⟨fun z => ?_, fun z => ?_⟩
        · intro y2 ey2
          rw [y_nd] at ey2
          rw [ey2]
          exact s_bitCount (by omega) (ref 0 _ _ (y_nd_lt (n := 8) hL8) (by rw [if_pos z]) (fun bk' hb => ⟨rfl, hb⟩))
        · rw [y_or]
          exact s_bitCount (by omega) (ref 0 _ _ (y_or_lt (n := 8) hL8 hpow) (by rw [if_neg z]) (fun bk' hb => ⟨rfl, hb⟩))
      · refine s8_out o3 (y_0 ?_)
        unfold w_X9_witness
        exact s9_in 0 7 (Nat.zero_le _) hk (by decide) (y_1 (s9_in 0 15 (Nat.zero_le _) hpc (by decide) (y_1 (s9_out o3 (y_0 ⟨rfl, same⟩)))))
    · refine s_isPo o2 (y_0 ?_)
      unfold w_X9_witness
      exact s9_in 0 7 (Nat.zero_le _) hk (by decide) (y_1 (s9_out o2 (y_0 ⟨rfl, same⟩)))
  · refine s_isWo o1 (y_0 ?_)
    unfold w_X9_witness
    exact s9_out o1 (y_0 ⟨rfl, same⟩)
theorem e_done {pl cr bk rpl sg rpad hpl hcr nw : Nat → Int32} {pr ly hi po sp ho rpo rsp ct rsn hpr hly hhi hpo hsp hho hac hre hfa hfw ofa ofw re ac : Int32} (h : RC pl cr pr ly hi po sp ho bk rpl rpo rsp) (hP : RP sg ct rsn rpad) :
    w_X8_done (fun r pl' cr' pr' ly' hi' po' sp' ho' ct' _ _ _ _ _ _ _ _ _ _ _ _ => w_X9_done (fun r' bk' _ rsn' _ _ _ _ => r = r' ∧ RC pl' cr' pr' ly' hi' po' sp' ho' bk' rpl rpo rsp ∧ RP sg ct' rsn' rpad) bk nw rpl rpo rsp rsn rpad ofa ofw re ac) pl cr pr ly hi po sp ho sg ct hpl hcr hpr hly hhi hpo hsp hho hac hre hfa hfw := by
  have h0 := h
  have hP0 := hP
  obtain ⟨c, P, n, m, hc, h1, h2, h3, h4, hn, hm, rfl, rfl, rfl, rfl⟩ := h
  obtain ⟨t, k, hk, rfl, rfl, ht1, ht2⟩ := hP
  unfold w_X8_done
  refine s_terms hc h1 h3 hn hm hk ht1 (fun a1 a2 a3 a4 a5 a6 a7 a8 a9 a10 a11 a12 no ne => ⟨fun z => absurd z ne, fun _ => ?_⟩) (fun hf e0 pl' cr' pr' ly' hi' ho' q1 q2 => ⟨fun _ => ?_, fun z => absurd rfl z⟩)
  · unfold w_X9_done
    refine r_bar hc h2 h4 hn hm hk ht2 (fun b1 b2 b3 b4 b5 _ => ⟨fun z => absurd z (by decide), fun _ => ⟨rfl, h0, hP0⟩⟩) (fun hf e0 => ?_)
    rcases no with no | no
    · exact absurd hf no
    · exact absurd e0 no
  · unfold w_X1_become w_X9_done
    have ok := goA_ok (t := t) (n := k) (P := P) (po := n) (sp := m) hk 62 0 c 0 none (by omega) hf hc (fun x hx => by cases hx) (Nat.le_refl 0)
    refine r_bar hc h2 h4 hn hm hk ht2 (fun b1 b2 b3 b4 b5 no => ?_) (fun _ _ nw' re' hM => ⟨fun _ => ?_, fun z => absurd (by decide) z⟩)
    · rcases no with no | no
      · exact absurd hf no
      · exact absurd e0 no
    · have key : ∀ N j (bk' : Nat → Int32), 12 - j < N → j ≤ 12 → (∀ i, i < j → bk' i = nw' i) → w_X9_done_B12 (fun r' bk' x1 rsn' x2 x3 x4 x5 => nI (goA t k P n m 0 c 0 none).2.2.1 = r' ∧ RC (va_cpy pl' pl (0 : Int32).toNatClampNeg (0 : Int32).toNatClampNeg (8 : Int32).toNatClampNeg) (va_cpy cr' cr (0 : Int32).toNatClampNeg (0 : Int32).toNatClampNeg (8 : Int32).toNatClampNeg) pr' ly' hi' (nI n) (nI m) ho' bk' rpl (nI n) (nI m) ∧ RP sg 0 rsn' rpad) rpl (nI n) (nI m) rpad N bk' nw' (nI k) (fA (goA t k P n m 0 c 0 none).2.2.2) (fW (goA t k P n m 0 c 0 none).2.2.2) re' (nI (goA t k P n m 0 c 0 none).2.2.1) (nI j) := by
        intro N
        induction N with
        | zero => intro j bk' z; omega
        | succ N ih =>
          intro j bk' z1 z2 z3
          unfold w_X9_done_B12
          refine pk_le 12 j (fun z => ⟨rfl, ?_, t, 0, by omega, rfl, rfl, ht1, ht2⟩) (fun z => ⟨vp_in_nI z (by decide), vp_in_nI z (by decide), ?_⟩)
          · exact ⟨(goA t k P n m 0 c 0 none).1, P, n, m, ok.1, y_cpyC q2, clM_cpy hM (fun i hi => z3 i (by omega)), y_cpyP q1, h4, hn, hm, rfl, rfl, rfl, rfl⟩
          · rw [nI_1, nI_clamp (by omega)]
            refine ih (j + 1) _ (by omega) (by omega) (fun i hi => ?_)
            by_cases e : i = j
            · subst e; rw [upd_s]
            · rw [upd_n e]; exact z3 i (by omega)
      exact ⟨13, key 13 0 bk (by omega) (by omega) (fun i hi => by omega)⟩
theorem e_behind {pl cr bk rpl sg rpad hpl hcr nw : Nat → Int32} {pr ly hi po sp ho rpo rsp ct rsn hpr hly hhi hpo hsp hho hac hre hfa hfw ofa ofw re ac p1 p2 : Int32} (h : RC pl cr pr ly hi po sp ho bk rpl rpo rsp) (hP : RP sg ct rsn rpad) :
    w_X8_behind (fun r _ _ _ _ _ _ _ _ _ _ _ _ => w_X9_behind (fun r' _ _ _ _ _ => r = r') bk nw rpl rpo rsp rsn rpad ofa ofw re ac p1 p2) pl cr pr ly hi po sp ho sg ct hpl hcr hpr hly hhi hpo hsp hho hac hre hfa hfw p1 p2 := by
  obtain ⟨c, P, n, m, hc, h1, h2, h3, h4, hn, hm, rfl, rfl, rfl, rfl⟩ := h
  obtain ⟨t, k, hk, rfl, rfl, ht1, ht2⟩ := hP
  have hp8 := hc.2.1
  have hpr : pr = nI (cP c) := h1.1
  subst hpr
  unfold w_X8_behind
  rcases y_rng0 p1 7 with ⟨w, hw, rfl⟩ | o1
  · refine s_has (by omega) (by omega) (y_01 (fun hb => ?_) (fun hb => ?_))
    · unfold w_X9_behind
      refine r_isThere hc h2 (by omega) ?_
      rw [if_neg hb]
      exact y_0 rfl
    · rcases y_rng0 p2 1 with ⟨k1, hk1, rfl⟩ | o2
      · refine s8_in 0 1 (Nat.zero_le _) hk1 (by decide) (y_1 ?_)
        refine s_terms hc h1 h3 hn hm hk ht1 (fun a1 a2 a3 a4 a5 a6 a7 a8 a9 a10 a11 a12 no ne => ⟨fun z => absurd z ne, fun _ => ?_⟩) (fun hf e0 pl' cr' pr' ly' hi' ho' q1 q2 => ⟨fun _ => ?_, fun z => absurd rfl z⟩)
        · unfold w_X9_behind
          refine r_isThere hc h2 (by omega) ?_
          rw [if_pos hb]
          refine y_1 (s9_in 0 1 (Nat.zero_le _) hk1 (by decide) (y_1 ?_))
          refine r_bar hc h2 h4 hn hm hk ht2 (fun b1 b2 b3 b4 b5 _ => ⟨fun z => absurd z (by decide), fun _ => rfl⟩) (fun hf e0 => ?_)
          rcases no with no | no
          · exact absurd hf no
          · exact absurd e0 no
        · have ok := goA_ok (t := t) (n := k) (P := P) (po := n) (sp := m) hk 62 0 c 0 none (by omega) hf hc (fun x hx => by cases hx) (Nat.le_refl 0)
          have ref : ∀ (post : Int32 → (Nat → Int32) → Int32 → Int32 → Int32 → Int32 → Prop), (∀ b0 b1 b2 b3 b4, post (if (cP (goA t k P n m 0 c 0 none).1).testBit w = true then (if k1 = 0 then nI (cC (goA t k P n m 0 c 0 none).1 w) else (if (cL (goA t k P n m 0 c 0 none).1).testBit w = true then 1 else 0)) else (-6)) b0 b1 b2 b3 b4) → w_X9_behind post bk nw rpl (nI n) (nI m) (nI k) rpad ofa ofw re ac (nI w) (nI k1) := by
            intro post hp
            unfold w_X9_behind
            refine r_isThere hc h2 (by omega) ?_
            rw [if_pos hb]
            refine y_1 (s9_in 0 1 (Nat.zero_le _) hk1 (by decide) (y_1 ?_))
            refine r_bar hc h2 h4 hn hm hk ht2 (fun b1 b2 b3 b4 b5 no => ?_) (fun _ _ nw' re' hM => ⟨fun _ => ?_, fun z => absurd (by decide) z⟩)
            · rcases no with no | no
              · exact absurd hf no
              · exact absurd e0 no
            · refine r_sits ok.1 hM (by omega) (y_01 (fun hb2 => ?_) (fun hb2 => ?_))
              · have hp := hp nw' (fA (goA t k P n m 0 c 0 none).2.2.2) (fW (goA t k P n m 0 c 0 none).2.2.2) re' (nI (goA t k P n m 0 c 0 none).2.2.1)
                rw [if_neg hb2] at hp; exact hp
              · have hp := hp nw' (fA (goA t k P n m 0 c 0 none).2.2.2) (fW (goA t k P n m 0 c 0 none).2.2.2) re' (nI (goA t k P n m 0 c 0 none).2.2.1)
                rw [if_pos hb2] at hp
                refine pk_eq k1 0 (fun z => ⟨vp_in_nI (by omega) (by decide), ?_⟩) (fun z => ?_)
                · rw [if_pos z] at hp
                  rw [nI_clamp (by omega), hM.1 w (by omega)]; exact hp
                · rw [if_neg z] at hp
                  have hL := ok.1.2.2.1
                  rw [t9, hM.2.2.1]
                  by_cases hl : (cL (goA t k P n m 0 c 0 none).1).testBit w = true
                  · rw [if_pos hl] at hp
                    rw [(y_b1 (by omega) (by omega)).mpr hl]; exact hp
                  · rw [if_neg hl] at hp
                    rw [y_bit (by omega) (by omega)]
                    rw [y_tb] at hl
                    have : cL (goA t k P n m 0 c 0 none).1 / 2 ^ w % 2 = 0 := by
                      rcases Nat.mod_two_eq_zero_or_one (cL (goA t k P n m 0 c 0 none).1 / 2 ^ w) with q | q
                      · exact q
                      · exact absurd (by simp [q]) hl
                    rw [this]; exact hp
          have hP8 := ok.1.2.1
          have hL8 := ok.1.2.2.1
          obtain ⟨rfl, rfl, rfl, rfl, g5, g6⟩ := q2
          refine s_has (by omega) (by omega) (y_01 (fun hb2 => ref _ (fun _ _ _ _ _ => by rw [if_neg hb2])) (fun hb2 => ?_))
          refine pk_eq k1 0 (fun z => ?_) (fun z => ?_)
          · unfold w_X1_creamOf
            refine s_isW (by omega) (y_1 ⟨vp_in_nI (by omega) (by decide), ?_⟩)
            rw [nI_clamp (by omega), g5 w (by omega) hb2]
            exact ref _ (fun _ _ _ _ _ => by rw [if_pos hb2, if_pos z])
          · refine s_liar (by omega) (by omega) ?_
            unfold w_X8_asNumber
            refine y_01 (fun hl => ref _ (fun _ _ _ _ _ => ?_)) (fun hl => ref _ (fun _ _ _ _ _ => ?_))
            · rw [if_pos hb2, if_neg z, if_neg hl]
            · rw [if_pos hb2, if_neg z, if_pos hl]
      · refine s8_out o2 (y_0 ?_)
        unfold w_X9_behind
        refine r_isThere hc h2 (by omega) ?_
        rw [if_pos hb]
        exact y_1 (s9_out o2 (y_0 rfl))
  · refine s_haso o1 (y_0 ?_)
    unfold w_X9_behind
    exact r_isThereo o1 (y_0 rfl)
theorem off_bit (n : Nat) (c : Ct) (i : Nat) : (off n c).testBit i = true → i < n ∧ (cP c).testBit i = true := by
  induction n with
  | zero => intro h; have : (off 0 c).testBit i = false := Nat.zero_testBit i; rw [this] at h; cases h
  | succ n ih =>
    rw [off]
    split
    · rename_i hh
      intro h
      rw [Nat.testBit_or, y_pow_bit, Bool.or_eq_true] at h
      rcases h with h | h
      · have := ih h; exact ⟨by omega, this.2⟩
      · have e : n = i := by simpa using h
        subst e
        exact ⟨by omega, hh.1⟩
    · intro h
      have := ih h
      exact ⟨by omega, this.2⟩
theorem e_then {pl cr bk rpl sg rpad hpl hcr nw : Nat → Int32} {pr ly hi po sp ho rpo rsp ct rsn hpr hly hhi hpo hsp hho hac hre hfa hfw ofa ofw re ac p1 : Int32} (h : RC pl cr pr ly hi po sp ho bk rpl rpo rsp) (hP : RP sg ct rsn rpad) :
    w_X8_then (fun r _ _ _ _ _ _ _ _ _ _ _ _ => w_X9_then (fun r' _ _ _ _ _ => r = r') bk nw rpl rpo rsp rsn rpad ofa ofw re ac p1) pl cr pr ly hi po sp ho sg ct hpl hcr hpr hly hhi hpo hsp hho hac hre hfa hfw p1 := by
  obtain ⟨c, P, n, m, hc, h1, h2, h3, h4, hn, hm, rfl, rfl, rfl, rfl⟩ := h
  obtain ⟨t, k, hk, rfl, rfl, ht1, ht2⟩ := hP
  unfold w_X8_then
  rcases y_rng0 p1 6 with ⟨k1, hk1, rfl⟩ | o1
  · refine s8_in 0 6 (Nat.zero_le _) hk1 (by decide) (y_1 ?_)
    refine s_terms hc h1 h3 hn hm hk ht1 (fun a1 a2 a3 a4 a5 a6 a7 a8 a9 a10 a11 a12 no ne => ⟨fun z => absurd z ne, fun _ => ?_⟩) (fun hf e0 pl' cr' pr' ly' hi' ho' q1 q2 => ⟨fun _ => ?_, fun z => absurd rfl z⟩)
    · unfold w_X9_then
      refine s9_in 0 6 (Nat.zero_le _) hk1 (by decide) (y_1 ?_)
      refine r_bar hc h2 h4 hn hm hk ht2 (fun b1 b2 b3 b4 b5 _ => ⟨fun z => absurd z (by decide), fun _ => rfl⟩) (fun hf e0 => ?_)
      rcases no with no | no
      · exact absurd hf no
      · exact absurd e0 no
    · have ok := goA_ok (t := t) (n := k) (P := P) (po := n) (sp := m) hk 62 0 c 0 none (by omega) hf hc (fun x hx => by cases hx) (Nat.le_refl 0)
      generalize hG : goA t k P n m 0 c 0 none = G at *
      have hP8 := ok.1.2.1
      have hL8 := ok.1.2.2.1
      have hO8 : off 8 G.1 < 2 ^ 8 := off_lt 8 G.1
      refine s_offOnes ok.1 q2 ?_
      have ref : ∀ (post : Int32 → (Nat → Int32) → Int32 → Int32 → Int32 → Int32 → Prop), (∀ b0 b1 b2 b3 b4, post (if k1 = 0 then nI (off 8 G.1) else if k1 = 1 then nI (pop 12 (nd (cP G.1 &&& cL G.1) (off 8 G.1))) else if k1 = 2 then nI (pop 12 (nd (off 8 G.1) (cL G.1))) else if k1 = 3 then nI (cH G.1) else if k1 = 4 then nI (cT G.1) else if k1 = 5 then fA G.2.2.2 else fW G.2.2.2) b0 b1 b2 b3 b4) → w_X9_then post bk nw rpl (nI n) (nI m) (nI k) rpad ofa ofw re ac (nI k1) := by
        intro post hp
        unfold w_X9_then
        refine s9_in 0 6 (Nat.zero_le _) hk1 (by decide) (y_1 ?_)
        refine r_bar (t := t) (P := P) (c := c) hc h2 h4 hn hm hk ht2 (fun b1 b2 b3 b4 b5 no => ?_) (fun _ _ nw' re' hM => ⟨fun _ => ?_, fun z => absurd (by decide) z⟩)
        · rcases no with no | no
          · exact absurd hf no
          · rw [hG] at no; exact absurd e0 no
        · rw [hG] at hM ⊢
          replace hp := hp nw' (fA G.2.2.2) (fW G.2.2.2) re' (nI G.2.2.1)
          refine r_offOnes ok.1 hM ?_
          refine pk_eq k1 0 (fun z => by rw [if_pos z] at hp; exact hp) (fun z0 => pk_eq k1 1 (fun z => ?_) (fun z1 => pk_eq k1 2 (fun z => ?_) (fun z2 => pk_eq k1 3 (fun z => ?_) (fun z3 => pk_eq k1 4 (fun z => ?_) (fun z4 => pk_eq k1 5 (fun z => ?_) (fun z5 => ?_))))))
          · rw [if_neg z0, if_pos z] at hp
            rw [t8, t9, hM.2.1, hM.2.2.1, y_and, y_nd]
            exact s_bits (Nat.lt_of_lt_of_le (y_nd_lt (n := 8) (y_and_lt (n := 8) hP8)) (by decide)) hp
          · rw [if_neg z0, if_neg z1, if_pos z] at hp
            rw [t9, hM.2.2.1, y_nd]
            exact s_bits (Nat.lt_of_lt_of_le (y_nd_lt (n := 8) hO8) (by decide)) hp
          · rw [if_neg z0, if_neg z1, if_neg z2, if_pos z] at hp
            unfold w_X9_then_B104
            subst z
            refine ⟨z_in rfl, ?_⟩
            have e10 : ((7 : Int32) + nI 3).toNatClampNeg = 10 := by decide
            rw [e10, hM.2.2.2.1]; exact hp
          · rw [if_neg z0, if_neg z1, if_neg z2, if_neg z3, if_pos z] at hp
            unfold w_X9_then_B104
            subst z
            refine ⟨z_in rfl, ?_⟩
            have e10 : ((7 : Int32) + nI 4).toNatClampNeg = 11 := by decide
            rw [e10, hM.2.2.2.2]; exact hp
          · rw [if_neg z0, if_neg z1, if_neg z2, if_neg z3, if_neg z4, if_pos z] at hp; exact hp
          · rw [if_neg z0, if_neg z1, if_neg z2, if_neg z3, if_neg z4, if_neg z5] at hp; exact hp
      obtain ⟨rfl, rfl, rfl, rfl, g5, g6⟩ := q2
      refine pk_eq k1 0 (fun z => ref _ (fun _ _ _ _ _ => by rw [if_pos z])) (fun z0 => pk_eq k1 1 (fun z => ?_) (fun z1 => pk_eq k1 2 (fun z => ?_) (fun z2 => pk_eq k1 3 (fun z => ref _ (fun _ _ _ _ _ => by rw [if_neg z0, if_neg z1, if_neg z2, if_pos z])) (fun z3 => pk_eq k1 4 (fun z => ref _ (fun _ _ _ _ _ => by rw [if_neg z0, if_neg z1, if_neg z2, if_neg z3, if_pos z])) (fun z4 => pk_eq k1 5 (fun z => ref _ (fun _ _ _ _ _ => by rw [if_neg z0, if_neg z1, if_neg z2, if_neg z3, if_neg z4, if_pos z])) (fun z5 => ref _ (fun _ _ _ _ _ => by rw [if_neg z0, if_neg z1, if_neg z2, if_neg z3, if_neg z4, if_neg z5])))))))
      · unfold w_X1_liars
        dsimp only
        rw [y_and, y_nd]
        exact s_bitCount (Nat.lt_of_lt_of_le (y_nd_lt (n := 8) (y_and_lt (n := 8) hP8)) (by decide)) (ref _ (fun _ _ _ _ _ => by rw [if_neg z0, if_pos z]))
      · unfold w_X1_liars
        dsimp only
        rw [y_and, y_nd]
        have e : nd (off 8 G.1) (cP G.1 &&& cL G.1) = nd (off 8 G.1) (cL G.1) := by
          apply Nat.eq_of_testBit_eq
          intro i
          rw [nd_bit, nd_bit, Nat.testBit_and]
          cases ho : (off 8 G.1).testBit i
          · rfl
          · rw [(off_bit 8 G.1 i ho).2]; rfl
        rw [e]
        exact s_bitCount (Nat.lt_of_lt_of_le (y_nd_lt (n := 8) hO8) (by decide)) (ref _ (fun _ _ _ _ _ => by rw [if_neg z0, if_neg z1, if_pos z]))
  · refine s8_out o1 (y_0 ?_)
    unfold w_X9_then
    exact s9_out o1 (y_0 rfl)
theorem e_lasts {pl cr bk rpl nw : Nat → Int32} {pr ly hi po sp ho rpo rsp ofa ofw p1 : Int32} (h : RC pl cr pr ly hi po sp ho bk rpl rpo rsp) :
    w_X8_lasts (fun r => w_X9_lasts (fun r' _ _ _ => r = r') bk nw rpl rpo rsp ofa ofw p1) pl cr pr ly hi po sp p1 := by
  obtain ⟨c, P, n, m, hc, h1, h2, h3, h4, hn, hm, rfl, rfl, rfl, rfl⟩ := h
  obtain ⟨rfl, rfl, rfl, rfl, h5, h6⟩ := h1
  have hp8 := hc.2.1
  unfold w_X8_lasts
  rcases y_rng0 p1 7 with ⟨w, hw, rfl⟩ | o1
  · refine s_has (by omega) (by omega) (y_01 (fun hb => ?_) (fun hb => ?_))
    · unfold w_X9_lasts
      refine r_isThere hc h2 (by omega) ?_
      rw [if_neg hb]
      exact y_0 rfl
    · have ref : ∀ (post : Int32 → (Nat → Int32) → Int32 → Int32 → Prop), (∀ b0 b1 b2, post (if cC c w = 0 then 0 else if loss P n m c w = 0 then (-6) else ((nI (cC c w) + nI (loss P n m c w)) - (1 : Int32)) / nI (loss P n m c w)) b0 b1 b2) → w_X9_lasts post bk nw rpl (nI n) (nI m) ofa ofw (nI w) := by
        intro post hp
        unfold w_X9_lasts
        refine r_isThere hc h2 (by omega) ?_
        rw [if_pos hb]
        refine y_1 (r_asNow (fun nw' hnw => ?_))
        have hM := clM_cpy h2 hnw
        refine r_hourly h4 hc hM (by omega) ⟨vp_in_nI (by omega) (by decide), ?_⟩
        have hp := hp nw' (-6) (-6)
        have hle : loss P n m c w ≤ 45 := lossG_le hn hm
        have hcw := hc.1 w (by omega)
        rw [nI_clamp (by omega), hM.1 w (by omega)]
        refine pk_eq (cC c w) 0 (fun z => by rw [if_pos z] at hp; exact hp) (fun z0 => pk_eq (loss P n m c w) 0 (fun z => by rw [if_neg z0, if_pos z] at hp; exact hp) (fun z1 => ⟨vp_in_nI (by omega) (by decide), nI_ne0 (by omega) (by omega), by rw [if_neg z0, if_neg z1] at hp; exact hp⟩))
      unfold w_X1_creamOf
      refine s_isW (by omega) (y_1 ⟨vp_in_nI (by omega) (by decide), ?_⟩)
      have hcw := hc.1 w (by omega)
      rw [nI_clamp (by omega), h5 w (by omega) hb]
      have hle : loss P n m c w ≤ 45 := lossG_le hn hm
      have hle2 : lossG n m (dist P c w) ((cL c).testBit w) ≤ 45 := lossG_le hn hm
      refine pk_eq (cC c w) 0 (fun z => ref _ (fun _ _ _ => by rw [if_pos z])) (fun z0 => ?_)
      refine s_loss (by omega) h3 hc hn hm ?_
      show (nI (loss P n m c w) ≤ 0 → _) ∧ (¬ nI (loss P n m c w) ≤ 0 → _)
      refine pk_le (loss P n m c w) 0 (fun z => ref _ (fun _ _ _ => by rw [if_neg z0, if_pos (by omega)])) (fun z => ⟨nI_ne0 z (Nat.lt_of_le_of_lt hle2 (by decide)), ref _ (fun _ _ _ => by rw [if_neg z0, if_neg (by omega)])⟩)
  · refine s_haso o1 (y_0 ?_)
    unfold w_X9_lasts
    exact r_isThereo o1 (y_0 rfl)
