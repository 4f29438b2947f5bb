-- the reference's acts
theorem t8 : (8 : Int32).toNatClampNeg = 8 := by decide
theorem t9 : (9 : Int32).toNatClampNeg = 9 := by decide
theorem t10 : (10 : Int32).toNatClampNeg = 10 := by decide
theorem t11 : (11 : Int32).toNatClampNeg = 11 := by decide
theorem r_sits {post : Int32 → Prop} {c : Ct} {nw : Nat → Int32} {k : Nat} (hc : okC c) (h : clM c nw) (hk : k < 8) (p : post (if (cP c).testBit k = true then 1 else 0)) : w_X9_sits post nw (nI k) := by
  have := hc.2.1
  unfold w_X9_sits w_X9_sits_B28
  refine s9_in 0 7 (Nat.zero_le _) (by omega) (by decide) (y_1 ?_)
  rw [t8, h.2.1]
  refine s9_has (by omega) (by omega) (y_01 (fun hb => ?_) (fun hb => ?_))
  · rw [if_neg hb] at p; exact p
  · rw [if_pos hb] at p; exact p
theorem r_offOnes {post : Int32 → Prop} {c : Ct} {nw : Nat → Int32} (hc : okC c) (h : clM c nw) (p : post (nI (off 8 c))) : w_X9_offOnes post nw := by
  have key : ∀ n k, 8 - k < n → k ≤ 8 → w_X9_offOnes_B4 post nw n (nI (off k c)) (nI k) := by
    intro n
    induction n with
    | zero => intro k h1; omega
    | succ n ih =>
      intro k h1 h2
      unfold w_X9_offOnes_B4
      refine pk_le 8 k (fun h => ?_) (fun hk => ?_)
      · rw [show k = 8 by omega]; exact p
      · have skip : off k c = off (k + 1) c → w_X9_offOnes_B34 post nw (fun x1 x2 => w_X9_offOnes_B4 post nw n x1 x2) (nI k) (nI (off k c)) := by
          intro e
          unfold w_X9_offOnes_B34 w_X9_offOnes_B35
          rw [show (0 : Int32) = nI 0 from rfl, y_or, nI_1, Nat.or_zero, e]
          exact ih (k + 1) (by omega) (by omega)
        refine r_sits hc h hk (y_01 (fun hb => ?_) (fun hb => ?_))
        · exact skip (by rw [off, if_neg (fun z => hb z.1)])
        · refine ⟨vp_in_nI (by omega) (by decide), ?_⟩
          rw [nI_clamp (by omega), h.1 k hk]
          have := hc.1 k hk
          refine pk_eq (cC c k) 0 (fun h0 => ?_) (fun h0 => ?_)
          · unfold w_X9_offOnes_B35
            rw [y_sh1 k (by omega), y_or, nI_1]
            have e : off k c ||| 2 ^ k = off (k + 1) c := by rw [off, if_pos ⟨hb, h0⟩]
            rw [e]
            exact ih (k + 1) (by omega) (by omega)
          · exact skip (by rw [off, if_neg (fun z => h0 z.2)])
  exact ⟨9, key 9 0 (by omega) (by omega)⟩
theorem r_far {post : Int32 → Prop} {P : Nat → Nat} {c : Ct} {nw pl : Nat → Int32} {k : Nat} (hp : plC P pl) (hc : okC c) (h : clM c nw) (hk : k < 8) (p : post (nI (dist P c k))) : w_X9_farFrom post nw pl (nI k) := by
  have h1 := (hp k hk).2
  have h2 := hc.2.2.2.1
  unfold w_X9_farFrom
  refine ⟨vp_in_nI hk (by decide), ?_⟩
  rw [t10, nI_clamp (by omega), (hp k hk).1, h.2.2.2.1]
  unfold dist at p
  refine pk_le (P k) (cH c) (fun h => ⟨vp_in_nI hk (by decide), ?_⟩) (fun h => ⟨vp_in_nI hk (by decide), ?_⟩)
  · rw [pk_sub h, show cH c - P k = (P k - cH c) + (cH c - P k) by omega]; exact p
  · rw [pk_sub (by omega), show P k - cH c = (P k - cH c) + (cH c - P k) by omega]; exact p
theorem r_lose {post : (Nat → Int32) → Prop} {nw : Nat → Int32} {k a b : Nat} (hk : k < 12) (ha : a < 2 ^ 30) (hb : b < 2 ^ 30) (e : nw k = nI a) (p : post (upd nw k (nI (a - b)))) : w_X9_lose post nw (nI k) (nI b) := by
  unfold w_X9_lose
  refine ⟨vp_in_nI hk (by decide), ?_⟩
  rw [nI_clamp (by omega), e]
  refine pk_le a b (fun h => ⟨vp_in_nI hk (by decide), ?_⟩) (fun h => ⟨vp_in_nI hk (by decide), vp_in_nI hk (by decide), ?_⟩)
  · rw [show a - b = 0 by omega] at p; exact p
  · rw [pk_sub (by omega)]; exact p
theorem r_hourly {post : Int32 → Prop} {P : Nat → Nat} {c : Ct} {nw pl : Nat → Int32} {k po sp : Nat} (hp : plC P pl) (hc : okC c) (h : clM c nw) (hk : k < 8) (p : post (nI (loss P po sp c k))) : w_X9_hourly post nw pl (nI po) (nI sp) (nI k) := by
  have hL := hc.2.2.1
  unfold w_X9_hourly
  refine r_far hp hc h hk ?_
  have hd : dist P c k ≤ 30 := by have := (hp k hk).2; have := hc.2.2.2.1; unfold dist; omega
  unfold loss lossG at p
  refine pk_le (dist P c k) 3 (fun h3 => ?_) (fun h3 => ?_)
  · rw [if_neg (by omega)] at p
    rw [t9, h.2.2.1]
    have e : nI po * ((4 : Int32) - nI (dist P c k)) = nI (po * (4 - dist P c k)) := by
      rw [show (4 : Int32) = nI 4 from rfl, pk_sub (by omega), pk_mul]
    rw [e]
    unfold w_X9_hourly_B45
    refine s9_has (by omega) (by omega) (y_01 (fun hb => ?_) (fun hb => ?_))
    · rw [if_neg hb] at p
      rw [show (0 : Int32) = nI 0 from rfl, nI_add]; exact p
    · rw [if_pos hb] at p
      rw [nI_add]; exact p
  · rw [if_pos h3] at p; exact p
theorem r_endHour {post : Int32 → (Nat → Int32) → Prop} {P : Nat → Nat} {c : Ct} {nw pl : Nat → Int32} {po sp : Nat} (hp : plC P pl) (hc : okC c) (h : clM c nw) (h1 : po ≤ 9) (h2 : sp ≤ 9) (p0 : why P c 46 0 = 0 → ∀ nw', clM (actC P po sp c 46 0) nw' → post 0 nw') (p1 : why P c 46 0 ≠ 0 → post (nI (why P c 46 0)) nw) : w_X9_endHour post nw pl (nI po) (nI sp) := by
  obtain ⟨g1, g2, g3, g4, g5⟩ := h
  have hT := hc.2.2.2.2
  unfold w_X9_endHour
  rw [t11, g5]
  have ew : why P c 46 0 = if cT c < 99 then 0 else 5 := by unfold why; rw [if_pos rfl]
  refine pk_eq (cT c) 99 (fun h => ?_) (fun h => ?_)
  · rw [if_neg (by omega)] at ew
    rw [ew] at p1
    exact p1 (by decide)
  · rw [if_pos (by omega)] at ew
    have p0 := p0 ew
    have key : ∀ n k (nw' : Nat → Int32), 8 - k < n → k ≤ 8 → (∀ j, j < 8 → nw' j = nI (if j < k ∧ (cP c).testBit j = true then cC c j - loss P po sp c j else cC c j)) → (nw' 8 = nI (cP c) ∧ nw' 9 = nI (cL c) ∧ nw' 10 = nI (cH c) ∧ nw' 11 = nI (cT c + 1)) → w_X9_endHour_B27 post pl (nI po) (nI sp) n nw' (nI k) := by
      intro n
      induction n with
      | zero => intro k nw' q1; omega
      | succ n ih =>
        intro k nw' q1 q2 q3 q4
        unfold w_X9_endHour_B27
        refine pk_le 8 k (fun h8 => ?_) (fun h8 => ?_)
        · refine p0 nw' ⟨fun j hj => ?_, q4.1, q4.2.1, q4.2.2.1, q4.2.2.2⟩
          rw [q3 j hj]
          show nI _ = nI (if (cP c).testBit j = true then cC c j - loss P po sp c j else cC c j)
          by_cases hb : (cP c).testBit j = true
          · rw [if_pos ⟨by omega, hb⟩, if_pos hb]
          · rw [if_neg (fun z => hb z.2), if_neg hb]
        · -- the state as a court that has the old hour aside
          have hcT : okC (fun j => if j < k ∧ (cP c).testBit j = true then cC c j - loss P po sp c j else cC c j, cP c, cL c, cH c, cT c + 1) := by
            refine ⟨fun j hj => ?_, hc.2.1, hc.2.2.1, hc.2.2.2.1, by show cT c + 1 ≤ 99; omega⟩
            have := hc.1 j hj
            show (if j < k ∧ (cP c).testBit j = true then cC c j - loss P po sp c j else cC c j) ≤ 99
            split <;> omega
          have hM : clM (fun j => if j < k ∧ (cP c).testBit j = true then cC c j - loss P po sp c j else cC c j, cP c, cL c, cH c, cT c + 1) nw' := ⟨q3, q4.1, q4.2.1, q4.2.2.1, q4.2.2.2⟩
          refine r_sits hcT hM h8 (y_01 (fun hb => ?_) (fun hb => ?_))
          · rw [nI_1]
            refine ih (k + 1) nw' (by omega) (by omega) (fun j hj => ?_) q4
            rw [q3 j hj]
            congr 1
            by_cases e : j = k
            · subst e
              rw [if_neg (fun z => hb z.2), if_neg (fun z => hb z.2)]
            · by_cases hlt : j < k
              · by_cases hbj : (cP c).testBit j = true
                · rw [if_pos ⟨hlt, hbj⟩, if_pos ⟨by omega, hbj⟩]
                · rw [if_neg (fun z => hbj z.2), if_neg (fun z => hbj z.2)]
              · rw [if_neg (fun z => hlt z.1), if_neg (fun z => by omega)]
          · refine r_hourly hp hcT hM h8 ?_
            have hl : loss P po sp (fun j => if j < k ∧ (cP c).testBit j = true then cC c j - loss P po sp c j else cC c j, cP c, cL c, cH c, cT c + 1) k = loss P po sp c k := rfl
            rw [hl]
            have hle : loss P po sp c k ≤ 45 := lossG_le h1 h2
            have hck := hc.1 k h8
            have ek := q3 k h8
            rw [if_neg (fun z => by omega)] at ek
            refine r_lose (by omega) (by omega) (by omega) ek ?_
            rw [nI_1]
            refine ih (k + 1) _ (by omega) (by omega) (fun j hj => ?_) ⟨by rw [upd_n (by omega)]; exact q4.1, by rw [upd_n (by omega)]; exact q4.2.1, by rw [upd_n (by omega)]; exact q4.2.2.1, by rw [upd_n (by omega)]; exact q4.2.2.2⟩
            by_cases e : j = k
            · subst e
              rw [upd_s, if_pos ⟨by omega, hb⟩]
            · rw [upd_n e, q3 j hj]
              congr 1
              by_cases hlt : j < k
              · by_cases hbj : (cP c).testBit j = true
                · rw [if_pos ⟨hlt, hbj⟩, if_pos ⟨by omega, hbj⟩]
                · rw [if_neg (fun z => hbj z.2), if_neg (fun z => hbj z.2)]
              · rw [if_neg (fun z => hlt z.1), if_neg (fun z => by omega)]
    refine ⟨9, key 9 0 _ (by omega) (by omega) (fun j hj => ?_) ⟨?_, ?_, ?_, ?_⟩⟩
    · rw [upd_n (by omega), if_neg (fun z => by omega)]; exact g1 j hj
    · rw [upd_n (by omega)]; exact g2
    · rw [upd_n (by omega)]; exact g3
    · rw [upd_n (by omega)]; exact g4
    · rw [upd_s, nI_1]
theorem r_step {post : Int32 → (Nat → Int32) → Prop} {P : Nat → Nat} {c : Ct} {nw : Nat → Int32} {po sp kd num : Nat} {d : Int32} (hc : okC c) (h : clM c nw) (hk : kd = 60 ∧ nI (cH c) + d = nI (cH c) - nI num ∨ kd = 62 ∧ d = nI num) (hn : num ≤ 9) (p0 : why P c kd num = 0 → ∀ nw', clM (actC P po sp c kd num) nw' → post 0 nw') (p1 : why P c kd num ≠ 0 → post (nI (why P c kd num)) nw) : w_X9_step post nw d := by
  obtain ⟨g1, g2, g3, g4, g5⟩ := h
  have hH := hc.2.2.2.1
  unfold w_X9_step
  rw [t10, g4]
  rcases hk with ⟨rfl, hd⟩ | ⟨rfl, rfl⟩
  · have ew : why P c 60 num = if num ≤ cH c then 0 else 2 := by unfold why; rw [if_neg (by decide), if_pos rfl]
    rw [hd]
    by_cases hle : num ≤ cH c
    · rw [if_pos hle] at ew
      rw [pk_sub hle]
      refine s9_in 0 15 (Nat.zero_le _) (by omega) (by decide) (y_1 (p0 ew _ ⟨fun j hj => ?_, ?_, ?_, ?_, ?_⟩))
      · rw [upd_n (by omega)]; exact g1 j hj
      · rw [upd_n (by omega)]; exact g2
      · rw [upd_n (by omega)]; exact g3
      · rw [upd_s]; rfl
      · rw [upd_n (by omega)]; exact g5
    · rw [if_neg hle] at ew
      rw [ew] at p1
      exact s9_out (Or.inl (pk_sneg (by omega) (by omega))) (y_0 (p1 (by decide)))
  · have ew : why P c 62 num = if cH c + num ≤ 15 then 0 else 2 := by unfold why; rw [if_neg (by decide), if_neg (by decide), if_pos rfl]
    rw [nI_add]
    by_cases hle : cH c + num ≤ 15
    · rw [if_pos hle] at ew
      refine s9_in 0 15 (Nat.zero_le _) hle (by decide) (y_1 (p0 ew _ ⟨fun j hj => ?_, ?_, ?_, ?_, ?_⟩))
      · rw [upd_n (by omega)]; exact g1 j hj
      · rw [upd_n (by omega)]; exact g2
      · rw [upd_n (by omega)]; exact g3
      · rw [upd_s]; rfl
      · rw [upd_n (by omega)]; exact g5
    · rw [if_neg hle] at ew
      rw [ew] at p1
      exact s9_out (Or.inr (nI_lt (a := 15) (by omega) (by omega))) (y_0 (p1 (by decide)))
theorem why_wit {P : Nat → Nat} {c : Ct} {kd num : Nat} (hk : kd = 63 ∨ kd = 61 ∨ kd = 126 ∨ kd = 33) : why P c kd num = if (cP c).testBit num = false then 1 else if kd = 63 then (if 1 < dist P c num then 3 else if cC c num = 0 then 4 else 0) else if kd = 61 then (if cC c num < 50 then 0 else 4) else 0 := by
  unfold why
  rw [if_neg (by omega), if_neg (by omega), if_neg (by omega)]
theorem r_bend {post : Int32 → (Nat → Int32) → Prop} {P : Nat → Nat} {c : Ct} {nw pl : Nat → Int32} {po sp num : Nat} (hp : plC P pl) (hc : okC c) (h : clM c nw) (h1 : po ≤ 9) (h2 : sp ≤ 9) (hn : num < 8) (p0 : why P c 63 num = 0 → ∀ nw', clM (actC P po sp c 63 num) nw' → post 0 nw') (p1 : why P c 63 num ≠ 0 → post (nI (why P c 63 num)) nw) : w_X9_bend post nw pl (nI po) (nI sp) (nI num) := by
  have ew := why_wit (P := P) (c := c) (num := num) (kd := 63) (Or.inl rfl)
  have h0 := h
  obtain ⟨g1, g2, g3, g4, g5⟩ := h
  have hL := hc.2.2.1
  unfold w_X9_bend
  refine r_sits hc h0 hn (y_01 (fun hb => ?_) (fun hb => ?_))
  · rw [if_pos (by simpa using hb)] at ew
    rw [ew] at p1; exact p1 (by decide)
  · rw [if_neg (by rw [hb]; decide), if_pos rfl] at ew
    refine r_far hp hc h0 hn ?_
    have hd : dist P c num ≤ 30 := by have := (hp num hn).2; have := hc.2.2.2.1; unfold dist; omega
    refine pk_le (dist P c num) 1 (fun h3 => ⟨vp_in_nI (by omega) (by decide), ?_⟩) (fun h3 => ?_)
    · rw [if_neg (by omega)] at ew
      have hcn := hc.1 num hn
      rw [nI_clamp (by omega), g1 num hn]
      refine pk_eq (cC c num) 0 (fun h4 => ?_) (fun h4 => ?_)
      · rw [if_pos h4] at ew
        rw [ew] at p1; exact p1 (by decide)
      · rw [if_neg h4] at ew
        have p0 := p0 ew
        have fin : ∀ z : Nat, (2 * po + (if (cL c).testBit num = true then 3 * sp else 0)) = z → post 0 (upd nw num (nI (cC c num - z))) := by
          intro z ez
          refine p0 _ ⟨fun j hj => ?_, ?_, ?_, ?_, ?_⟩
          · show upd nw num (nI (cC c num - z)) j = nI (nup (cC c) num (cC c num - (2 * po + (if (cL c).testBit num = true then 3 * sp else 0))) j)
            rw [ez]
            by_cases e : j = num
            · subst e; rw [upd_s, nup_s]
            · rw [upd_n e, nup_n e]; exact g1 j hj
          · rw [upd_n (by omega)]; exact g2
          · rw [upd_n (by omega)]; exact g3
          · rw [upd_n (by omega)]; exact g4
          · rw [upd_n (by omega)]; exact g5
        rw [t9, g3]
        unfold w_X9_bend_B64
        refine s9_has (by omega) (by omega) (y_01 (fun hl => ?_) (fun hl => ?_))
        · have e : (2 : Int32) * nI po + (0 : Int32) = nI (2 * po + 0) := by rw [show (2 : Int32) = nI 2 from rfl, show (0 : Int32) = nI 0 from rfl, pk_mul, nI_add]
          rw [e]
          exact r_lose (by omega) (by omega) (by omega) (g1 num hn) (fin _ (by rw [if_neg hl]))
        · have e : (2 : Int32) * nI po + (3 : Int32) * nI sp = nI (2 * po + 3 * sp) := by rw [show (2 : Int32) = nI 2 from rfl, show (3 : Int32) = nI 3 from rfl, pk_mul, pk_mul, nI_add]
          rw [e]
          exact r_lose (by omega) (by omega) (by omega) (g1 num hn) (fin _ (by rw [if_pos hl]))
    · rw [if_pos h3] at ew
      rw [ew] at p1; exact p1 (by decide)
theorem r_fill {post : Int32 → (Nat → Int32) → Prop} {P : Nat → Nat} {c : Ct} {nw : Nat → Int32} {po sp num : Nat} (hc : okC c) (h : clM c nw) (hn : num < 8) (p0 : why P c 61 num = 0 → ∀ nw', clM (actC P po sp c 61 num) nw' → post 0 nw') (p1 : why P c 61 num ≠ 0 → post (nI (why P c 61 num)) nw) : w_X9_fill post nw (nI num) := by
  have ew := why_wit (P := P) (c := c) (num := num) (kd := 61) (Or.inr (Or.inl rfl))
  have h0 := h
  obtain ⟨g1, g2, g3, g4, g5⟩ := h
  unfold w_X9_fill
  refine r_sits hc h0 hn (y_01 (fun hb => ?_) (fun hb => ?_))
  · rw [if_pos (by simpa using hb)] at ew
    rw [ew] at p1; exact p1 (by decide)
  · rw [if_neg (by rw [hb]; decide), if_neg (by decide), if_pos rfl] at ew
    refine ⟨vp_in_nI (by omega) (by decide), ?_⟩
    have hcn := hc.1 num hn
    rw [nI_clamp (by omega), g1 num hn]
    refine pk_le (cC c num) 49 (fun h4 => ⟨vp_in_nI (by omega) (by decide), ?_⟩) (fun h4 => ?_)
    · rw [if_pos (by omega)] at ew
      refine p0 ew _ ⟨fun j hj => ?_, ?_, ?_, ?_, ?_⟩
      · show upd nw num (50 : Int32) j = nI (nup (cC c) num 50 j)
        by_cases e : j = num
        · subst e; rw [upd_s, nup_s]; rfl
        · rw [upd_n e, nup_n e]; exact g1 j hj
      · rw [upd_n (by omega)]; exact g2
      · rw [upd_n (by omega)]; exact g3
      · rw [upd_n (by omega)]; exact g4
      · rw [upd_n (by omega)]; exact g5
    · rw [if_neg (by omega)] at ew
      rw [ew] at p1; exact p1 (by decide)
theorem r_think {post : Int32 → (Nat → Int32) → Prop} {P : Nat → Nat} {c : Ct} {nw : Nat → Int32} {po sp num : Nat} (hc : okC c) (h : clM c nw) (hn : num < 8) (p0 : why P c 126 num = 0 → ∀ nw', clM (actC P po sp c 126 num) nw' → post 0 nw') (p1 : why P c 126 num ≠ 0 → post (nI (why P c 126 num)) nw) : w_X9_thinkAgain post nw (nI num) := by
  have ew := why_wit (P := P) (c := c) (num := num) (kd := 126) (Or.inr (Or.inr (Or.inl rfl)))
  have h0 := h
  obtain ⟨g1, g2, g3, g4, g5⟩ := h
  unfold w_X9_thinkAgain
  refine r_sits hc h0 hn (y_01 (fun hb => ?_) (fun hb => ?_))
  · rw [if_pos (by simpa using hb)] at ew
    rw [ew] at p1; exact p1 (by decide)
  · rw [if_neg (by rw [hb]; decide), if_neg (by decide), if_neg (by decide)] at ew
    rw [t9, g3, y_sh1 num (by omega), y_xor]
    refine p0 ew _ ⟨fun j hj => ?_, ?_, ?_, ?_, ?_⟩
    · rw [upd_n (by omega)]; exact g1 j hj
    · rw [upd_n (by omega)]; exact g2
    · rw [upd_s]; rfl
    · rw [upd_n (by omega)]; exact g4
    · rw [upd_n (by omega)]; exact g5
theorem r_letGo {post : Int32 → (Nat → Int32) → Prop} {P : Nat → Nat} {c : Ct} {nw : Nat → Int32} {po sp num : Nat} (hc : okC c) (h : clM c nw) (hn : num < 8) (p0 : why P c 33 num = 0 → ∀ nw', clM (actC P po sp c 33 num) nw' → post 0 nw') (p1 : why P c 33 num ≠ 0 → post (nI (why P c 33 num)) nw) : w_X9_letGo post nw (nI num) := by
  have ew := why_wit (P := P) (c := c) (num := num) (kd := 33) (Or.inr (Or.inr (Or.inr rfl)))
  have h0 := h
  obtain ⟨g1, g2, g3, g4, g5⟩ := h
  unfold w_X9_letGo
  refine r_sits hc h0 hn (y_01 (fun hb => ?_) (fun hb => ?_))
  · rw [if_pos (by simpa using hb)] at ew
    rw [ew] at p1; exact p1 (by decide)
  · rw [if_neg (by rw [hb]; decide), if_neg (by decide), if_neg (by decide)] at ew
    rw [t8, g2, y_sh1 num (by omega), y_nd]
    refine p0 ew _ ⟨fun j hj => ?_, ?_, ?_, ?_, ?_⟩
    · rw [upd_n (by omega)]; exact g1 j hj
    · rw [upd_s]; rfl
    · rw [upd_n (by omega)]; exact g3
    · rw [upd_n (by omega)]; exact g4
    · rw [upd_n (by omega)]; exact g5
theorem r_witAct {post : Int32 → (Nat → Int32) → Prop} {P : Nat → Nat} {c : Ct} {nw pl : Nat → Int32} {po sp kd num : Nat} (hp : plC P pl) (hc : okC c) (h : clM c nw) (h1 : po ≤ 9) (h2 : sp ≤ 9) (hk : kd = 63 ∨ kd = 61 ∨ kd = 126 ∨ kd = 33) (hn : num < 8) (p0 : why P c kd num = 0 → ∀ nw', clM (actC P po sp c kd num) nw' → post 0 nw') (p1 : why P c kd num ≠ 0 → post (nI (why P c kd num)) nw) : w_X9_witnessAct post nw pl (nI po) (nI sp) (nI num) (nI kd) := by
  unfold w_X9_witnessAct
  rcases hk with rfl | rfl | rfl | rfl
  · exact ⟨fun _ => r_bend hp hc h h1 h2 hn p0 p1, fun e => absurd rfl e⟩
  · exact ⟨fun e => absurd e (by decide), fun _ => ⟨fun _ => r_fill hc h hn p0 p1, fun e => absurd rfl e⟩⟩
  · exact ⟨fun e => absurd e (by decide), fun _ => ⟨fun e => absurd e (by decide), fun _ => ⟨fun _ => r_think hc h hn p0 p1, fun e => absurd rfl e⟩⟩⟩
  · exact ⟨fun e => absurd e (by decide), fun _ => ⟨fun e => absurd e (by decide), fun _ => ⟨fun e => absurd e (by decide), fun _ => r_letGo hc h hn p0 p1⟩⟩⟩
