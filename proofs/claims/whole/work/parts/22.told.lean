-- the pair of calls: told
theorem e_told {pl cr bk rpl nw fw rw : Nat → Int32} {pr ly hi po sp ho rpo rsp mk rmk sc rsc ct rsn ofa ofw p1 : Int32} (h : RC pl cr pr ly hi po sp ho bk rpl rpo rsp) (hT : RT fw mk rw rmk) (hs : sc = rsc) (hct : ct = rsn) :
    w_X8_told (fun r => w_X9_told (fun r' _ _ _ => r = r') bk nw rpl rpo rsp rw rmk rsc rsn ofa ofw p1) pl cr pr ly hi po sp ho fw mk sc ct p1 := by
  obtain ⟨c, P, n, m, hc, h1, h2, h3, h4, hn, hm, rfl, rfl, rfl, rfl⟩ := h
  obtain ⟨w, M, hok, hf, hr, rfl, rfl⟩ := hT
  subst hs
  subst hct
  have h1' := h1
  obtain ⟨rfl, rfl, rfl, rfl, h5, h6⟩ := h1
  unfold w_X8_told
  rcases y_rng p1 10 21 with ⟨k, hk, hk2, rfl⟩ | o
  · refine s8_in 10 21 hk hk2 (by decide) (y_1 ?_)
    have e10 : nI k - (10 : Int32) = nI (k - 10) := pk_sub (a := k) (b := 10) hk
    rw [e10]
    refine s_waysFrom hf (by omega) ?_
    unfold w_X9_told
    refine pk_lt k 100 (fun _ => pk_lt k 10 (fun z => absurd z (by omega)) (fun _ => ?_)) (fun z => absurd z (by omega))
    rw [e10]
    refine s9_isC (by omega) (y_1 ⟨vp_in_nI (by omega) (by decide), ?_⟩)
    rw [nI_clamp (by omega), hr _ (by omega)]
  · refine s8_out o (y_0 ?_)
    rcases o with o | o
    · have o10 : p1 < (10 : Int32) := o
      have o100 : p1 < (100 : Int32) := Int32.lt_trans o10 (by decide)
      refine ⟨fun _ => ?_, fun q => absurd o100 q⟩
      have ref : ∀ post : Int32 → (Nat → Int32) → Int32 → Int32 → Prop, (∀ nw', clM c nw' → (p1 = (0 : Int32) → post ct nw' (-6) (-6)) ∧ (¬ p1 = (0 : Int32) → (p1 = (1 : Int32) → post (bk (8 : Int32).toNatClampNeg) nw' (-6) (-6)) ∧ (¬ p1 = (1 : Int32) → (p1 = (2 : Int32) → w_X9_offOnes (fun r174 => post r174 nw' (-6) (-6)) nw') ∧ (¬ p1 = (2 : Int32) → (p1 = (3 : Int32) → post (bk (10 : Int32).toNatClampNeg) nw' (-6) (-6)) ∧ (¬ p1 = (3 : Int32) → (p1 = (4 : Int32) → post (nI n) nw' (-6) (-6)) ∧ (¬ p1 = (4 : Int32) → (p1 = (5 : Int32) → post (nI m) nw' (-6) (-6)) ∧ (¬ p1 = (5 : Int32) → (p1 = (6 : Int32) → post (bk (11 : Int32).toNatClampNeg) nw' (-6) (-6)) ∧ (¬ p1 = (6 : Int32) → (p1 = (7 : Int32) → post (nI M) nw' (-6) (-6)) ∧ (¬ p1 = (7 : Int32) → (p1 = (8 : Int32) → post sc nw' (-6) (-6)) ∧ (¬ p1 = (8 : Int32) → post (-2 : Int32) nw' (-6) (-6))))))))))) → w_X9_told post bk nw rpl (nI n) (nI m) rw (nI M) sc ct ofa ofw p1 := by
        intro post hp
        unfold w_X9_told
        exact ⟨fun _ => ⟨fun _ => r_asNow (fun nw' hnw => hp nw' (clM_cpy h2 hnw)), fun q => absurd o10 q⟩, fun q => absurd o100 q⟩
      exact ⟨fun e => ref _ (fun nw' hM => ⟨fun _ => rfl, fun q => absurd e q⟩), fun n0 => ⟨fun e => ref _ (fun nw' hM => ⟨fun q => absurd q n0, fun _ => ⟨fun _ => (by rw [t8, h2.2.1]), fun q => absurd e q⟩⟩), fun n1 => ⟨fun e => s_offOnes hc h1' (ref _ (fun nw' hM => ⟨fun q => absurd q n0, fun _ => ⟨fun q => absurd q n1, fun _ => ⟨fun _ => (r_offOnes hc hM rfl), fun q => absurd e q⟩⟩⟩)), fun n2 => ⟨fun e => ref _ (fun nw' hM => ⟨fun q => absurd q n0, fun _ => ⟨fun q => absurd q n1, fun _ => ⟨fun q => absurd q n2, fun _ => ⟨fun _ => (by rw [t10, h2.2.2.2.1]), fun q => absurd e q⟩⟩⟩⟩), fun n3 => ⟨fun e => ref _ (fun nw' hM => ⟨fun q => absurd q n0, fun _ => ⟨fun q => absurd q n1, fun _ => ⟨fun q => absurd q n2, fun _ => ⟨fun q => absurd q n3, fun _ => ⟨fun _ => rfl, fun q => absurd e q⟩⟩⟩⟩⟩), fun n4 => ⟨fun e => ref _ (fun nw' hM => ⟨fun q => absurd q n0, fun _ => ⟨fun q => absurd q n1, fun _ => ⟨fun q => absurd q n2, fun _ => ⟨fun q => absurd q n3, fun _ => ⟨fun q => absurd q n4, fun _ => ⟨fun _ => rfl, fun q => absurd e q⟩⟩⟩⟩⟩⟩), fun n5 => ⟨fun e => ref _ (fun nw' hM => ⟨fun q => absurd q n0, fun _ => ⟨fun q => absurd q n1, fun _ => ⟨fun q => absurd q n2, fun _ => ⟨fun q => absurd q n3, fun _ => ⟨fun q => absurd q n4, fun _ => ⟨fun q => absurd q n5, fun _ => ⟨fun _ => (by rw [t11, h2.2.2.2.2]), fun q => absurd e q⟩⟩⟩⟩⟩⟩⟩), fun n6 => ⟨fun e => ref _ (fun nw' hM => ⟨fun q => absurd q n0, fun _ => ⟨fun q => absurd q n1, fun _ => ⟨fun q => absurd q n2, fun _ => ⟨fun q => absurd q n3, fun _ => ⟨fun q => absurd q n4, fun _ => ⟨fun q => absurd q n5, fun _ => ⟨fun q => absurd q n6, fun _ => ⟨fun _ => rfl, fun q => absurd e q⟩⟩⟩⟩⟩⟩⟩⟩), fun n7 => ⟨fun e => ref _ (fun nw' hM => ⟨fun q => absurd q n0, fun _ => ⟨fun q => absurd q n1, fun _ => ⟨fun q => absurd q n2, fun _ => ⟨fun q => absurd q n3, fun _ => ⟨fun q => absurd q n4, fun _ => ⟨fun q => absurd q n5, fun _ => ⟨fun q => absurd q n6, fun _ => ⟨fun q => absurd q n7, fun _ => ⟨fun _ => rfl, fun q => absurd e q⟩⟩⟩⟩⟩⟩⟩⟩⟩), fun n8 => ref _ (fun nw' hM => ⟨fun q => absurd q n0, fun _ => ⟨fun q => absurd q n1, fun _ => ⟨fun q => absurd q n2, fun _ => ⟨fun q => absurd q n3, fun _ => ⟨fun q => absurd q n4, fun _ => ⟨fun q => absurd q n5, fun _ => ⟨fun q => absurd q n6, fun _ => ⟨fun q => absurd q n7, fun _ => ⟨fun q => absurd q n8, fun _ => rfl⟩⟩⟩⟩⟩⟩⟩⟩⟩)⟩⟩⟩⟩⟩⟩⟩⟩⟩
    · have np : ¬ p1 < 0 := fun q => absurd (Int32.lt_trans o q) (by decide)
      obtain ⟨k, hk, rfl⟩ := nI_of np
      have hk22 : 21 < k := by
        rcases Nat.lt_or_ge 21 k with z | z
        · exact z
        · exact absurd o (nI_nlt z (by decide))
      refine pk_lt k 100 (fun z => ?_) (fun z => ?_)
      · have ne : ∀ j : Nat, j < 10 → ¬ nI k = nI j := fun j hj q => by
          have := (nI_eq (by omega) (by omega)).mp q
          omega
        refine ⟨fun e => absurd e (ne 0 (by decide)), fun _ => ⟨fun e => absurd e (ne 1 (by decide)), fun _ => ⟨fun e => absurd e (ne 2 (by decide)), fun _ => ⟨fun e => absurd e (ne 3 (by decide)), fun _ => ⟨fun e => absurd e (ne 4 (by decide)), fun _ => ⟨fun e => absurd e (ne 5 (by decide)), fun _ => ⟨fun e => absurd e (ne 6 (by decide)), fun _ => ⟨fun e => absurd e (ne 7 (by decide)), fun _ => ⟨fun e => absurd e (ne 8 (by decide)), fun _ => ?_⟩⟩⟩⟩⟩⟩⟩⟩⟩
        unfold w_X9_told
        refine pk_lt k 100 (fun _ => pk_lt k 10 (fun z => absurd z (by omega)) (fun _ => ?_)) (fun q => absurd z (by omega))
        have e10 : nI k - (10 : Int32) = nI (k - 10) := pk_sub (a := k) (b := 10) (by omega)
        rw [e10]
        exact s9_isCo (Or.inr (nI_lt (by omega) (by omega))) (y_0 rfl)
      · have e1 : (nI k - (100 : Int32)) / (10 : Int32) = nI (k / 10 - 10) := by
          have q : nI k - (100 : Int32) = nI (k - 100) := pk_sub (a := k) (b := 100) z
          have q2 : nI (k - 100) / (10 : Int32) = nI ((k - 100) / 10) := pk_div (by omega) (by decide) (by decide)
          rw [q, q2]; congr 1; omega
        have e2 : nI k / (10 : Int32) - (10 : Int32) = nI (k / 10 - 10) := by
          have q2 : nI k / (10 : Int32) = nI (k / 10) := pk_div hk (by decide) (by decide)
          rw [q2]
          exact pk_sub (a := k / 10) (b := 10) (by omega)
        have e3 : nI k - nI k / (10 : Int32) * (10 : Int32) = nI (k % 10) := pk_rem hk (by decide) (by decide)
        rw [e1, e3]
        generalize ej : k / 10 - 10 = j at *
        have hj31 : j < 2 ^ 31 := by omega
        generalize er : k % 10 = r at *
        have hr31 : r < 10 := by omega
        have hP := hc.2.1
        have hL := hc.2.2.1
        have ref : ∀ post : Int32 → (Nat → Int32) → Int32 → Int32 → Prop, (w_X9_isThere (fun r21 => (r21 = 0 → post (-2 : Int32) nw ofa ofw) ∧ (¬ r21 = 0 → (nI r ≤ (2 : Int32) → (nI r = 0 → vp_in (nI j) 8 ∧ post (rpl (nI j).toNatClampNeg) nw ofa ofw) ∧ (¬ nI r = 0 → (nI r = (1 : Int32) → post (((bk (9 : Int32).toNatClampNeg) >>> (nI j &&& 31)) &&& (1 : Int32)) nw ofa ofw) ∧ (¬ nI r = (1 : Int32) → vp_in (nI j) 12 ∧ post (bk (nI j).toNatClampNeg) nw ofa ofw))) ∧ (¬ nI r ≤ (2 : Int32) → post (-2 : Int32) nw ofa ofw))) bk (nI j)) → w_X9_told post bk nw rpl (nI n) (nI m) rw (nI M) sc ct ofa ofw (nI k) := by
          intro post hp
          unfold w_X9_told
          refine ⟨fun q => absurd q (nI_nlt z hk), fun _ y13 ey y18 ey2 => ?_⟩
          rw [e2] at ey
          rw [e3] at ey2
          subst ey
          subst ey2
          unfold w_X9_told_B32
          exact hp
        unfold w_X8_toldOfWitness
        rcases Nat.lt_or_ge j 8 with hj | hj
        · refine s_has (by omega) hj (y_01 (fun hb => ?_) (fun hb => ?_))
          · exact ref _ (r_isThere hc h2 hj (by rw [if_neg hb]; exact y_0 rfl))
          · have ref2 : ∀ post : Int32 → (Nat → Int32) → Int32 → Int32 → Prop, ((nI r ≤ (2 : Int32) → (nI r = 0 → vp_in (nI j) 8 ∧ post (rpl (nI j).toNatClampNeg) nw ofa ofw) ∧ (¬ nI r = 0 → (nI r = (1 : Int32) → post (((bk (9 : Int32).toNatClampNeg) >>> (nI j &&& 31)) &&& (1 : Int32)) nw ofa ofw) ∧ (¬ nI r = (1 : Int32) → vp_in (nI j) 12 ∧ post (bk (nI j).toNatClampNeg) nw ofa ofw))) ∧ (¬ nI r ≤ (2 : Int32) → post (-2 : Int32) nw ofa ofw)) → w_X9_told post bk nw rpl (nI n) (nI m) rw (nI M) sc ct ofa ofw (nI k) := by
              intro post hp
              exact ref _ (r_isThere hc h2 hj (by rw [if_pos hb]; exact y_1 hp))
            refine pk_eq r 0 (fun z0 => ?_) (fun z0 => pk_eq r 1 (fun z1 => ?_) (fun z1 => pk_eq r 2 (fun z2 => ?_) (fun z2 => ?_)))
            · refine s_place hj h3 (ref2 _ (pk_le r 2 (fun _ => pk_eq r 0 (fun _ => ⟨vp_in_nI hj (by decide), ?_⟩) (fun q => absurd z0 q)) (fun q => absurd q (by omega))))
              rw [nI_clamp (by omega), (h4 j hj).1]
            · refine s_liar (by omega) hj ?_
              unfold w_X8_asNumber
              have fin : ∀ x : Int32, x = nI (cL c / 2 ^ j % 2) → w_X9_told (fun r' _ _ _ => x = r') bk nw rpl (nI n) (nI m) rw (nI M) sc ct ofa ofw (nI k) := by
                intro x ex
                refine ref2 _ (pk_le r 2 (fun _ => pk_eq r 0 (fun q => absurd q z0) (fun _ => pk_eq r 1 (fun _ => ?_) (fun q => absurd z1 q))) (fun q => absurd q (by omega)))
                rw [t9, h2.2.2.1, y_bit (by omega) (by omega)]
                exact ex
              have tb := y_tb (cL c) j
              refine y_01 (fun hl => fin _ ?_) (fun hl => fin _ ?_)
              · have : ¬ (cL c).testBit j = true := hl
                rw [tb] at this
                rcases Nat.mod_two_eq_zero_or_one (cL c / 2 ^ j) with q | q
                · rw [q]; rfl
                · exact absurd (by simp [q]) this
              · have : (cL c).testBit j = true := hl
                rw [tb] at this
                have q : cL c / 2 ^ j % 2 = 1 := by simpa using this
                rw [q]; rfl
            · unfold w_X1_creamOf
              refine s_isW hj (y_1 ⟨vp_in_nI hj (by decide), ?_⟩)
              rw [nI_clamp (by omega), h5 j hj hb]
              refine ref2 _ (pk_le r 2 (fun _ => pk_eq r 0 (fun q => absurd q z0) (fun _ => pk_eq r 1 (fun q => absurd q z1) (fun _ => ⟨vp_in_nI (by omega) (by decide), ?_⟩))) (fun q => absurd q (by omega)))
              rw [nI_clamp (by omega), h2.1 j hj]
            · exact ref2 _ (pk_le r 2 (fun q => absurd q (by omega)) (fun _ => rfl))
        · have oj : nI j < nI 0 ∨ nI 7 < nI j := Or.inr (nI_lt (by omega) hj31)
          exact s_haso oj (y_0 (ref _ (r_isThereo oj (y_0 rfl))))
