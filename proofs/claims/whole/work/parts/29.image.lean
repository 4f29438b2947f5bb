-- images of the reference, and what copies keep
def sgI (im : Nat → Int32) (n : Nat) (bk pl : Nat → Int32) (po sp : Int32) (wy : Nat → Int32) (mk sn : Int32) (st : Nat → Int32) : Prop :=
  (∀ k, k < 12 → im (70 * n + k) = bk k ∧ im (70 * n + 12 + k) = wy k) ∧ (∀ k, k < 8 → im (70 * n + 24 + k) = pl k) ∧ (∀ k, k < 24 → im (70 * n + 32 + k) = st k) ∧ im (70 * n + 60) = po ∧ im (70 * n + 61) = sp ∧ im (70 * n + 62) = mk ∧ im (70 * n + 63) = sn
theorem RC_mv {pl cr pl' cr' : Nat → Int32} {pr ly hi po sp ho : Int32} {bk rpl bk' rpl' : Nat → Int32} {rpo rsp : Int32} (h : RC pl cr pr ly hi po sp ho bk rpl rpo rsp) (e1 : ∀ k, k < 8 → pl' k = pl k) (e2 : ∀ k, k < 8 → cr' k = cr k) (e3 : ∀ k, k < 12 → bk' k = bk k) (e4 : ∀ k, k < 8 → rpl' k = rpl k) : RC pl' cr' pr ly hi po sp ho bk' rpl' rpo rsp := by
  obtain ⟨c, P, n, m, hc, h1, h2, h3, h4, hn, hm, q1, q2, q3, q4⟩ := h
  obtain ⟨g1, g2, g3, g4, g5, g6⟩ := h1
  refine ⟨c, P, n, m, hc, ⟨g1, g2, g3, g4, fun k hk hb => by rw [e2 k hk]; exact g5 k hk hb, fun k hk => by rw [e2 k hk]; exact g6 k hk⟩, clM_cpy h2 e3, fun k hk => by rw [e1 k hk]; exact h3 k hk, fun k hk => by rw [e4 k hk]; exact h4 k hk, hn, hm, q1, q2, q3, q4⟩
theorem RT_mv {fw rw fw' rw' : Nat → Int32} {mk rmk : Int32} (h : RT fw mk rw rmk) (e1 : ∀ k, k < 12 → fw' k = fw k) (e2 : ∀ k, k < 12 → rw' k = rw k) : RT fw' mk rw' rmk := by
  obtain ⟨w, m, hok, hf, hr, q1, q2⟩ := h
  exact ⟨w, m, hok, fun k hk => by rw [e1 k hk]; exact hf k hk, fun k hk => by rw [e2 k hk]; exact hr k hk, q1, q2⟩
theorem RS_mv {sa lo st sa' lo' st' : Nat → Int32} {cn rn : Int32} (h : RS sa lo cn rn st) (e1 : ∀ k, k < 8 → sa' k = sa k) (e2 : ∀ k, k < 8 → lo' k = lo k) (e3 : ∀ k, k < 24 → st' k = st k) : RS sa' lo' cn rn st' := by
  obtain ⟨n, D, L, V, h1, h2, h3, q1, q2⟩ := h
  have hn := h1.1
  refine ⟨n, D, L, V, h1, fun i hi => ?_, fun i hi => ?_, q1, q2⟩
  · rw [e1 i (by omega), e2 i (by omega)]; exact h2 i hi
  · rw [e3 _ (by omega), e3 _ (by omega), e3 _ (by omega)]; exact h3 i hi
theorem y_70 (n : Nat) : (70 : Int32) * nI n = nI (70 * n) := by rw [show (70 : Int32) = nI 70 from rfl, pk_mul]
theorem y_pl (a : Nat) (b : Nat) (c : Int32) (h : c = nI b) : nI a + c = nI (a + b) := by rw [h, nI_add]
theorem r_image {post : Int32 → (Nat → Int32) → (Nat → Int32) → Prop} {bk pl wy st im kp : Nat → Int32} {po sp mk sn : Int32} {n : Nat} (hn : n ≤ 1) (p : ∀ im', sgI im' n bk pl po sp wy mk sn st → (∀ j, j < 70 * n ∨ 70 * n + 64 ≤ j → im' j = im j) → post 1 im' (upd kp n (vp_nar .boolean (1 : Int32)))) : w_X9_image post bk pl po sp wy mk sn st im kp (nI n) := by
  unfold w_X9_image
  refine s9_in 0 1 (Nat.zero_le _) hn (by decide) (y_1 ?_)
  rw [y_70]
  have l3 : ∀ N k im3, 24 - k < N → k ≤ 24 → (∀ j, j < 12 → im3 (70 * n + j) = bk j ∧ im3 (70 * n + 12 + j) = wy j) → (∀ j, j < 8 → im3 (70 * n + 24 + j) = pl j) → (∀ j, j < k → im3 (70 * n + 32 + j) = st j) → (∀ j, j < 70 * n ∨ 70 * n + 64 ≤ j → im3 j = im j) → w_X9_image_B95 post bk pl po sp wy mk sn st (nI n) N im3 kp (nI (70 * n)) (nI k) := by
    intro N
    induction N with
    | zero => intro k im3 z; omega
    | succ N ih =>
      intro k im3 z1 z2 h1 h2 h3 h4
      unfold w_X9_image_B95
      rw [y_pl _ 60 (60 : Int32) rfl, y_pl _ 61 (61 : Int32) rfl, y_pl _ 62 (62 : Int32) rfl, y_pl _ 63 (63 : Int32) rfl, y_pl _ 32 (32 : Int32) rfl]
      refine pk_le 24 k (fun z => ⟨vp_in_nI (by omega) (by decide), vp_in_nI (by omega) (by decide), vp_in_nI (by omega) (by decide), vp_in_nI (by omega) (by decide), vp_in_nI (by omega) (by decide), ?_⟩) (fun z => ⟨vp_in_nI z (by decide), ?_⟩)
      · rw [nI_clamp (by omega), nI_clamp (by omega), nI_clamp (by omega), nI_clamp (by omega), nI_clamp (by omega)]
        refine p _ ⟨fun j hj => ⟨?_, ?_⟩, fun j hj => ?_, fun j hj => ?_, ?_, ?_, ?_, ?_⟩ (fun j hj => ?_)
        · rw [upd_n (by omega), upd_n (by omega), upd_n (by omega), upd_n (by omega)]; exact (h1 j hj).1
        · rw [upd_n (by omega), upd_n (by omega), upd_n (by omega), upd_n (by omega)]; exact (h1 j hj).2
        · rw [upd_n (by omega), upd_n (by omega), upd_n (by omega), upd_n (by omega)]; exact h2 j hj
        · rw [upd_n (by omega), upd_n (by omega), upd_n (by omega), upd_n (by omega)]; exact h3 j (by omega)
        · rw [upd_n (by omega), upd_n (by omega), upd_n (by omega), upd_s]
        · rw [upd_n (by omega), upd_n (by omega), upd_s]
        · rw [upd_n (by omega), upd_s]
        · rw [upd_s]
        · rw [upd_n (by omega), upd_n (by omega), upd_n (by omega), upd_n (by omega)]; exact h4 j hj
      · rw [nI_add, nI_clamp (by omega), nI_clamp (by omega), nI_1]
        refine ⟨vp_in_nI (by omega) (by decide), ih (k + 1) _ (by omega) (by omega) (fun j hj => ⟨?_, ?_⟩) (fun j hj => ?_) (fun j hj => ?_) (fun j hj => ?_)⟩
        · rw [upd_n (by omega)]; exact (h1 j hj).1
        · rw [upd_n (by omega)]; exact (h1 j hj).2
        · rw [upd_n (by omega)]; exact h2 j hj
        · by_cases e : j = k
          · rw [e, upd_s]
          · rw [upd_n (by omega)]; exact h3 j (by omega)
        · rw [upd_n (by omega)]; exact h4 j hj
  have l2 : ∀ N k im3, 8 - k < N → k ≤ 8 → (∀ j, j < 12 → im3 (70 * n + j) = bk j ∧ im3 (70 * n + 12 + j) = wy j) → (∀ j, j < k → im3 (70 * n + 24 + j) = pl j) → (∀ j, j < 70 * n ∨ 70 * n + 64 ≤ j → im3 j = im j) → w_X9_image_B64 post bk pl po sp wy mk sn st (nI n) N im3 kp (nI (70 * n)) (nI k) := by
    intro N
    induction N with
    | zero => intro k im3 z; omega
    | succ N ih =>
      intro k im3 z1 z2 h1 h2 h4
      unfold w_X9_image_B64
      refine pk_le 8 k (fun z => ⟨25, l3 25 0 im3 (by omega) (by omega) h1 (fun j hj => h2 j (by omega)) (fun j hj => by omega) h4⟩) (fun z => ⟨vp_in_nI z (by decide), ?_⟩)
      rw [y_pl _ 24 (24 : Int32) rfl, nI_add, nI_clamp (by omega), nI_clamp (by omega), nI_1]
      refine ⟨vp_in_nI (by omega) (by decide), ih (k + 1) _ (by omega) (by omega) (fun j hj => ⟨?_, ?_⟩) (fun j hj => ?_) (fun j hj => ?_)⟩
      · rw [upd_n (by omega)]; exact (h1 j hj).1
      · rw [upd_n (by omega)]; exact (h1 j hj).2
      · by_cases e : j = k
        · rw [e, upd_s]
        · rw [upd_n (by omega)]; exact h2 j (by omega)
      · rw [upd_n (by omega)]; exact h4 j hj
  have l1 : ∀ N k im3, 12 - k < N → k ≤ 12 → (∀ j, j < k → im3 (70 * n + j) = bk j ∧ im3 (70 * n + 12 + j) = wy j) → (∀ j, j < 70 * n ∨ 70 * n + 64 ≤ j → im3 j = im j) → w_X9_image_B19 post bk pl po sp wy mk sn st (nI n) N im3 kp (nI (70 * n)) (nI k) := by
    intro N
    induction N with
    | zero => intro k im3 z; omega
    | succ N ih =>
      intro k im3 z1 z2 h1 h4
      unfold w_X9_image_B19
      refine pk_le 12 k (fun z => ⟨9, l2 9 0 im3 (by omega) (by omega) (fun j hj => h1 j (by omega)) (fun j hj => by omega) h4⟩) (fun z => ?_)
      rw [y_pl _ 12 (12 : Int32) rfl, nI_add, nI_add, nI_clamp (by omega), nI_clamp (by omega), nI_clamp (by omega), nI_1]
      refine ⟨vp_in_nI z (by decide), vp_in_nI (by omega) (by decide), vp_in_nI z (by decide), vp_in_nI (by omega) (by decide), ih (k + 1) _ (by omega) (by omega) (fun j hj => ⟨?_, ?_⟩) (fun j hj => ?_)⟩
      · by_cases e : j = k
        · rw [e, upd_n (by omega), upd_s]
        · rw [upd_n (by omega), upd_n (by omega)]; exact (h1 j (by omega)).1
      · by_cases e : j = k
        · rw [e, upd_s]
        · rw [upd_n (by omega), upd_n (by omega)]; exact (h1 j (by omega)).2
      · rw [upd_n (by omega), upd_n (by omega)]; exact h4 j hj
  exact ⟨13, l1 13 0 im (by omega) (by omega) (fun j hj => by omega) (fun j hj => rfl)⟩
theorem r_imageo {post : Int32 → (Nat → Int32) → (Nat → Int32) → Prop} {bk pl wy st im kp : Nat → Int32} {po sp mk sn x : Int32} (h : x < nI 0 ∨ nI 1 < x) (p : post (-2) im kp) : w_X9_image post bk pl po sp wy mk sn st im kp x := by
  unfold w_X9_image
  exact s9_out h (y_0 p)
theorem r_restoreo {post : Int32 → (Nat → Int32) → (Nat → Int32) → Int32 → Int32 → (Nat → Int32) → Int32 → Int32 → (Nat → Int32) → Prop} {bk pl wy st im kp : Nat → Int32} {po sp mk sn x : Int32} (h : x < nI 0 ∨ nI 1 < x) (p : post (-2) bk pl po sp wy mk sn st) : w_X9_restore post bk pl po sp wy mk sn st im kp x := by
  unfold w_X9_restore
  exact s9_out h (y_0 p)
theorem r_restore {post : Int32 → (Nat → Int32) → (Nat → Int32) → Int32 → Int32 → (Nat → Int32) → Int32 → Int32 → (Nat → Int32) → Prop} {bk pl wy st im kp : Nat → Int32} {po sp mk sn : Int32} {n : Nat} (hn : n ≤ 1) (p0 : kp n = 0 → post (-3) bk pl po sp wy mk sn st) (p : ¬ kp n = 0 → ∀ bk' pl' wy' st', sgI im n bk' pl' (im (70 * n + 60)) (im (70 * n + 61)) wy' (im (70 * n + 62)) (im (70 * n + 63)) st' → post 1 bk' pl' (im (70 * n + 60)) (im (70 * n + 61)) wy' (im (70 * n + 62)) (im (70 * n + 63)) st') : w_X9_restore post bk pl po sp wy mk sn st im kp (nI n) := by
  unfold w_X9_restore
  refine s9_in 0 1 (Nat.zero_le _) hn (by decide) (y_1 ⟨vp_in_nI (by omega) (by decide), ?_⟩)
  rw [nI_clamp (by omega)]
  refine ⟨p0, fun hk => ?_⟩
  rw [y_70]
  have l3 : ∀ N k bk3 pl3 wy3 st3, 24 - k < N → k ≤ 24 → (∀ j, j < 12 → im (70 * n + j) = bk3 j ∧ im (70 * n + 12 + j) = wy3 j) → (∀ j, j < 8 → im (70 * n + 24 + j) = pl3 j) → (∀ j, j < k → im (70 * n + 32 + j) = st3 j) → w_X9_restore_B107 post im kp (nI n) N bk3 pl3 po sp wy3 mk sn st3 (nI (70 * n)) (nI k) := by
    intro N
    induction N with
    | zero => intro k bk3 pl3 wy3 st3 z; omega
    | succ N ih =>
      intro k bk3 pl3 wy3 st3 z1 z2 h1 h2 h3
      unfold w_X9_restore_B107
      rw [y_pl _ 60 (60 : Int32) rfl, y_pl _ 61 (61 : Int32) rfl, y_pl _ 62 (62 : Int32) rfl, y_pl _ 63 (63 : Int32) rfl, y_pl _ 32 (32 : Int32) rfl]
      refine pk_le 24 k (fun z => ⟨vp_in_nI (by omega) (by decide), fun y1 e1 => ⟨vp_in_nI (by omega) (by decide), fun y2 e2 => ⟨vp_in_nI (by omega) (by decide), fun y3 e3 => ⟨vp_in_nI (by omega) (by decide), fun y4 e4 => ?_⟩⟩⟩⟩) (fun z => ?_)
      · rw [nI_clamp (by omega)] at e1 e2 e3 e4
        rw [e1, e2, e3, e4]
        exact p hk _ _ _ _ ⟨h1, h2, fun j hj => h3 j (by omega), rfl, rfl, rfl, rfl⟩
      · rw [nI_add, nI_clamp (by omega), nI_clamp (by omega), nI_1]
        refine ⟨vp_in_nI (by omega) (by decide), vp_in_nI z (by decide), ih (k + 1) _ _ _ _ (by omega) (by omega) h1 h2 (fun j hj => ?_)⟩
        by_cases e : j = k
        · rw [e, upd_s]
        · rw [upd_n e]; exact h3 j (by omega)
  have l2 : ∀ N k bk3 pl3 wy3, 8 - k < N → k ≤ 8 → (∀ j, j < 12 → im (70 * n + j) = bk3 j ∧ im (70 * n + 12 + j) = wy3 j) → (∀ j, j < k → im (70 * n + 24 + j) = pl3 j) → w_X9_restore_B76 post im kp (nI n) N bk3 pl3 po sp wy3 mk sn st (nI (70 * n)) (nI k) := by
    intro N
    induction N with
    | zero => intro k bk3 pl3 wy3 z; omega
    | succ N ih =>
      intro k bk3 pl3 wy3 z1 z2 h1 h2
      unfold w_X9_restore_B76
      refine pk_le 8 k (fun z => ⟨25, l3 25 0 bk3 pl3 wy3 st (by omega) (by omega) h1 (fun j hj => h2 j (by omega)) (fun j hj => by omega)⟩) (fun z => ?_)
      rw [y_pl _ 24 (24 : Int32) rfl, nI_add, nI_clamp (by omega), nI_clamp (by omega), nI_1]
      refine ⟨vp_in_nI (by omega) (by decide), vp_in_nI z (by decide), ih (k + 1) _ _ _ (by omega) (by omega) h1 (fun j hj => ?_)⟩
      by_cases e : j = k
      · rw [e, upd_s]
      · rw [upd_n e]; exact h2 j (by omega)
  have l1 : ∀ N k bk3 wy3, 12 - k < N → k ≤ 12 → (∀ j, j < k → im (70 * n + j) = bk3 j ∧ im (70 * n + 12 + j) = wy3 j) → w_X9_restore_B31 post im kp (nI n) N bk3 pl po sp wy3 mk sn st (nI (70 * n)) (nI k) := by
    intro N
    induction N with
    | zero => intro k bk3 wy3 z; omega
    | succ N ih =>
      intro k bk3 wy3 z1 z2 h1
      unfold w_X9_restore_B31
      refine pk_le 12 k (fun z => ⟨9, l2 9 0 bk3 pl wy3 (by omega) (by omega) (fun j hj => h1 j (by omega)) (fun j hj => by omega)⟩) (fun z => ?_)
      rw [y_pl _ 12 (12 : Int32) rfl, nI_add, nI_add, nI_clamp (by omega), nI_clamp (by omega), nI_clamp (by omega), nI_1]
      refine ⟨vp_in_nI (by omega) (by decide), vp_in_nI z (by decide), vp_in_nI (by omega) (by decide), vp_in_nI z (by decide), ih (k + 1) _ _ (by omega) (by omega) (fun j hj => ?_)⟩
      by_cases e : j = k
      · rw [e, upd_s, upd_s]; exact ⟨rfl, rfl⟩
      · rw [upd_n e, upd_n e]; exact h1 j (by omega)
  exact ⟨13, l1 13 0 bk wy (by omega) (by omega) (fun j hj => by omega)⟩
/-- both states alike -/
def RW (pl cr : Nat → Int32) (pr ly hi po sp ho : Int32) (fw : Nat → Int32) (mk : Int32) (sa lo : Nat → Int32) (cn : Int32) (bk rpl : Nat → Int32) (rpo rsp : Int32) (rw : Nat → Int32) (rmk rn : Int32) (st : Nat → Int32) : Prop := RC pl cr pr ly hi po sp ho bk rpl rpo rsp ∧ RT fw mk rw rmk ∧ RS sa lo cn rn st
theorem y_cpy12 {f g : Nat → Int32} {j : Nat} (h : j < 12) : va_cpy f g (0 : Int32).toNatClampNeg (0 : Int32).toNatClampNeg (12 : Int32).toNatClampNeg j = f j := by
  have e0 : (0 : Int32).toNatClampNeg = 0 := by decide
  have e12 : (12 : Int32).toNatClampNeg = 12 := by decide
  rw [e0, e12, pk_cpy_in (by omega) (by omega)]
  congr 1; omega
/-- a world taken over by another -/
theorem s_become {post : (Nat → Int32) → (Nat → Int32) → Int32 → Int32 → Int32 → Int32 → Int32 → Int32 → (Nat → Int32) → Int32 → (Nat → Int32) → (Nat → Int32) → Int32 → Prop} {pl0 cr0 fw0 sa0 lo0 pl cr fw sa lo : Nat → Int32} {pr0 ly0 hi0 po0 sp0 ho0 mk0 cn0 pr ly hi po sp ho mk cn : Int32} (p : ∀ pl' cr' fw' sa' lo', (∀ k, k < 8 → pl' k = pl k) → (∀ k, k < 8 → cr' k = cr k) → (∀ k, k < 12 → fw' k = fw k) → (∀ k, k < 8 → sa' k = sa k) → (∀ k, k < 8 → lo' k = lo k) → post pl' cr' pr ly hi po sp ho fw' mk sa' lo' cn) : w_X7_become post pl0 cr0 pr0 ly0 hi0 po0 sp0 ho0 fw0 mk0 sa0 lo0 cn0 pl cr pr ly hi po sp ho fw mk sa lo cn := by
  unfold w_X7_become w_X1_become w_X6_become w_X5_become
  exact p _ _ _ _ _ (fun k hk => y_cpy hk) (fun k hk => y_cpy hk) (fun k hk => y_cpy12 hk) (fun k hk => y_cpy hk) (fun k hk => y_cpy hk)
theorem RW_mv {pl cr fw sa lo pl' cr' fw' sa' lo' : Nat → Int32} {pr ly hi po sp ho mk cn : Int32} {bk rpl rw st bk' rpl' rw' st' : Nat → Int32} {rpo rsp rmk rn : Int32} (h : RW pl cr pr ly hi po sp ho fw mk sa lo cn bk rpl rpo rsp rw rmk rn st) (e1 : ∀ k, k < 8 → pl' k = pl k) (e2 : ∀ k, k < 8 → cr' k = cr k) (e3 : ∀ k, k < 12 → fw' k = fw k) (e4 : ∀ k, k < 8 → sa' k = sa k) (e5 : ∀ k, k < 8 → lo' k = lo k) (f1 : ∀ k, k < 12 → bk' k = bk k) (f2 : ∀ k, k < 8 → rpl' k = rpl k) (f3 : ∀ k, k < 12 → rw' k = rw k) (f4 : ∀ k, k < 24 → st' k = st k) : RW pl' cr' pr ly hi po sp ho fw' mk sa' lo' cn bk' rpl' rpo rsp rw' rmk rn st' := ⟨RC_mv h.1 e1 e2 f1 f2, RT_mv h.2.1 e3 f3, RS_mv h.2.2 e4 e5 f4⟩
