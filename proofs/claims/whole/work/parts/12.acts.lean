-- acts: why one can not be, what it does; on both sides
def why (P : Nat → Nat) (c : Ct) (kd num : Nat) : Nat :=
  if kd = 46 then (if cT c < 99 then 0 else 5)
  else if kd = 60 then (if num ≤ cH c then 0 else 2)
  else if kd = 62 then (if cH c + num ≤ 15 then 0 else 2)
  else if (cP c).testBit num = false then 1
  else if kd = 63 then (if 1 < dist P c num then 3 else if cC c num = 0 then 4 else 0)
  else if kd = 61 then (if cC c num < 50 then 0 else 4)
  else 0
def nup (f : Nat → Nat) (k x : Nat) : Nat → Nat := fun j => if j = k then x else f j
theorem nup_s (f : Nat → Nat) (k x : Nat) : nup f k x k = x := if_pos rfl
theorem nup_n {f : Nat → Nat} {k j x : Nat} (h : j ≠ k) : nup f k x j = f j := if_neg h
def actC (P : Nat → Nat) (po sp : Nat) (c : Ct) (kd num : Nat) : Ct :=
  if kd = 46 then hourC P po sp c
  else if kd = 60 then (cC c, cP c, cL c, cH c - num, cT c)
  else if kd = 62 then (cC c, cP c, cL c, cH c + num, cT c)
  else if kd = 63 then (nup (cC c) num (cC c num - (2 * po + (if (cL c).testBit num = true then 3 * sp else 0))), cP c, cL c, cH c, cT c)
  else if kd = 61 then (nup (cC c) num 50, cP c, cL c, cH c, cT c)
  else if kd = 126 then (cC c, cP c, cL c ^^^ 2 ^ num, cH c, cT c)
  else (cC c, nd (cP c) (2 ^ num), cL c, cH c, cT c)
def goodA (kd num : Nat) : Prop := kd = 46 ∨ ((kd = 60 ∨ kd = 62) ∧ num ≤ 9) ∨ ((kd = 63 ∨ kd = 61 ∨ kd = 126 ∨ kd = 33) ∧ num < 8)
theorem actC_ok {P : Nat → Nat} {po sp : Nat} {c : Ct} {kd num : Nat} (hc : okC c) (hg : goodA kd num) (hw : why P c kd num = 0) : okC (actC P po sp c kd num) := by
  obtain ⟨h1, h2, h3, h4, h5⟩ := hc
  rcases hg with rfl | ⟨rfl | rfl, hn⟩ | ⟨rfl | rfl | rfl | rfl, hn⟩
  · refine ⟨fun k hk => ?_, h2, h3, h4, ?_⟩
    · have := h1 k hk
      show (if (cP c).testBit k = true then cC c k - loss P po sp c k else cC c k) ≤ 99
      split <;> omega
    · have : cT c < 99 := by
        rcases Nat.lt_or_ge (cT c) 99 with q | q
        · exact q
        · have e : why P c 46 num = 5 := by unfold why; rw [if_pos rfl, if_neg (by omega)]
          omega
      show cT c + 1 ≤ 99
      omega
  · exact ⟨h1, h2, h3, by show cH c - num ≤ 15; omega, h5⟩
  · refine ⟨h1, h2, h3, ?_, h5⟩
    show cH c + num ≤ 15
    rcases Nat.lt_or_ge 15 (cH c + num) with q | q
    · have e : why P c 62 num = 2 := by unfold why; rw [if_neg (by decide), if_neg (by decide), if_pos rfl, if_neg (by omega)]
      omega
    · exact q
  · refine ⟨fun k hk => ?_, h2, h3, h4, h5⟩
    show nup (cC c) num (cC c num - (2 * po + (if (cL c).testBit num = true then 3 * sp else 0))) k ≤ 99
    have := h1 k hk
    have := h1 num hn
    by_cases e : k = num
    · subst e; rw [nup_s]; omega
    · rw [nup_n e]; omega
  · refine ⟨fun k hk => ?_, h2, h3, h4, h5⟩
    show nup (cC c) num 50 k ≤ 99
    have := h1 k hk
    by_cases e : k = num
    · subst e; rw [nup_s]; omega
    · rw [nup_n e]; omega
  · exact ⟨h1, h2, y_xor_lt (n := 8) h3 (y_pow_lt (n := 8) hn), h4, h5⟩
  · exact ⟨h1, y_nd_lt (n := 8) h2, h3, h4, h5⟩
theorem s_refill {post : (Nat → Int32) → Prop} {cr : Nat → Int32} {k : Nat} (hk : k < 8) (p : post (upd cr k (50 : Int32))) : w_X1_refill post cr (nI k) := by
  unfold w_X1_refill
  refine s_isW hk (y_1 ⟨vp_in_nI hk (by decide), ?_⟩)
  rw [nI_clamp (by omega)]
  exact p
/-- 2 times POWER, 3 times SPITE -/
theorem s_act {post : (Nat → Int32) → Int32 → Int32 → Int32 → Int32 → Prop} {P : Nat → Nat} {c : Ct} {pl cr : Nat → Int32} {pr ly hi ho : Int32} {po sp kd num : Nat} (hp : plC P pl) (hc : okC c) (h : clC c cr pr ly hi ho) (h1 : po ≤ 9) (h2 : sp ≤ 9) (hg : goodA kd num) {q : Int32} (hq : kd ≠ 46 → q = nI num) (hw : why P c kd num = 0)
    (p : ∀ (cr' : Nat → Int32) (pr' ly' hi' ho' : Int32), clC (actC P po sp c kd num) cr' pr' ly' hi' ho' → post cr' pr' ly' hi' ho') : w_X1_act post pl cr pr ly hi (nI po) (nI sp) ho (nI kd) q := by
  have hP := hc.2.1
  have hL := hc.2.2.1
  have hbit : kd = 63 ∨ kd = 61 ∨ kd = 126 ∨ kd = 33 → (cP c).testBit num = true := by
    intro hk
    cases hh : (cP c).testBit num
    · have e : why P c kd num = 1 := by
        unfold why
        rw [if_neg (by omega), if_neg (by omega), if_neg (by omega), if_pos hh]
      omega
    · rfl
  unfold w_X1_act
  rcases hg with rfl | ⟨rfl | rfl, hn⟩ | ⟨rfl | rfl | rfl | rfl, hn⟩
  · refine ⟨fun e => absurd e (by decide), fun _ => ⟨fun _ => ?_, fun e => absurd rfl e⟩⟩
    refine s_passHour hp hc h h1 h2 (fun cr' h' => p _ _ _ _ _ ?_)
    obtain ⟨rfl, rfl, rfl, rfl, h5, h6⟩ := h
    exact h'
  · refine ⟨fun e => absurd e (by decide), fun _ => ⟨fun e => absurd e (by decide), fun _ => ⟨fun _ => ?_, fun e => absurd rfl e⟩⟩⟩
    rw [hq (by decide)]
    have hle : num ≤ cH c := by
      rcases Nat.lt_or_ge (cH c) num with q | q
      · have e : why P c 60 num = 2 := by unfold why; rw [if_neg (by decide), if_pos rfl, if_neg (by omega)]
        omega
      · exact q
    obtain ⟨rfl, rfl, rfl, rfl, h5, h6⟩ := h
    rw [pk_sub hle]
    exact p _ _ _ _ _ ⟨rfl, rfl, rfl, rfl, h5, h6⟩
  · refine ⟨fun e => absurd e (by decide), fun _ => ⟨fun e => absurd e (by decide), fun _ => ⟨fun e => absurd e (by decide), fun _ => ⟨fun e => absurd e (by decide), fun _ => ⟨fun _ => ?_, fun e => absurd rfl e⟩⟩⟩⟩⟩
    obtain ⟨rfl, rfl, rfl, rfl, h5, h6⟩ := h
    rw [hq (by decide), nI_add]
    exact p _ _ _ _ _ ⟨rfl, rfl, rfl, rfl, h5, h6⟩
  · have hb := hbit (Or.inl rfl)
    rw [hq (by decide)]
    obtain ⟨rfl, rfl, rfl, rfl, h5, h6⟩ := h
    refine ⟨fun e => absurd e (by decide), fun _ => ⟨fun e => absurd e (by decide), fun _ => ⟨fun e => absurd e (by decide), fun _ => ⟨fun e => absurd e (by decide), fun _ => ⟨fun e => absurd e (by decide), fun _ => ⟨fun _ => ?_, fun e => absurd rfl e⟩⟩⟩⟩⟩⟩
    have he := h5 num hn hb
    have ha := hc.1 num hn
    have fin : ∀ z : Nat, (2 * po + (if (cL c).testBit num = true then 3 * sp else 0)) = z → post (upd cr num (nI (cC c num - z))) (nI (cP c)) (nI (cL c)) (nI (cH c)) (nI (cT c)) := by
      intro z ez
      refine p _ _ _ _ _ ⟨rfl, rfl, rfl, rfl, fun j hj hbj => ?_, fun j hj => ?_⟩
      · show upd cr num (nI (cC c num - z)) j = nI (nup (cC c) num (cC c num - (2 * po + (if (cL c).testBit num = true then 3 * sp else 0))) j)
        rw [ez]
        by_cases e : j = num
        · subst e; rw [upd_s, nup_s]
        · rw [upd_n e, nup_n e]; exact h5 j hj hbj
      · by_cases e : j = num
        · subst e; exact ⟨_, by omega, upd_s _ _ _⟩
        · rw [upd_n e]; exact h6 j hj
    refine s_liar (by omega) hn (y_01 (fun hl => ?_) (fun hl => ?_))
    · unfold w_X1_act_B127
      have e : (2 : Int32) * nI po + (0 : Int32) = nI (2 * po + 0) := by rw [show (2 : Int32) = nI 2 from rfl, show (0 : Int32) = nI 0 from rfl, pk_mul, nI_add]
      rw [e]
      exact s_spoil hn ha (by omega) he (fin _ (by rw [if_neg hl]))
    · unfold w_X1_act_B127
      have e : (2 : Int32) * nI po + (3 : Int32) * nI sp = nI (2 * po + 3 * sp) := by rw [show (2 : Int32) = nI 2 from rfl, show (3 : Int32) = nI 3 from rfl, pk_mul, pk_mul, nI_add]
      rw [e]
      exact s_spoil hn ha (by omega) he (fin _ (by rw [if_pos hl]))
  · rw [hq (by decide)]
    obtain ⟨rfl, rfl, rfl, rfl, h5, h6⟩ := h
    refine ⟨fun e => absurd e (by decide), fun _ => ⟨fun e => absurd e (by decide), fun _ => ⟨fun e => absurd e (by decide), fun _ => ⟨fun _ => s_refill hn ?_, fun e => absurd rfl e⟩⟩⟩⟩
    refine p _ _ _ _ _ ⟨rfl, rfl, rfl, rfl, fun j hj hbj => ?_, fun j hj => ?_⟩
    · show upd cr num (50 : Int32) j = nI (nup (cC c) num 50 j)
      by_cases e : j = num
      · subst e; rw [upd_s, nup_s]; rfl
      · rw [upd_n e, nup_n e]; exact h5 j hj hbj
    · by_cases e : j = num
      · subst e; exact ⟨50, by omega, upd_s _ _ _⟩
      · rw [upd_n e]; exact h6 j hj
  · rw [hq (by decide)]
    obtain ⟨rfl, rfl, rfl, rfl, h5, h6⟩ := h
    refine ⟨fun e => absurd e (by decide), fun _ => ⟨fun e => absurd e (by decide), fun _ => ⟨fun e => absurd e (by decide), fun _ => ⟨fun e => absurd e (by decide), fun _ => ⟨fun e => absurd e (by decide), fun _ => ⟨fun e => absurd e (by decide), fun _ => ⟨fun _ => ?_, fun e => absurd rfl e⟩⟩⟩⟩⟩⟩⟩
    intro y ey
    rw [ey, y_sh1 num (by omega), y_xor]
    exact p cr _ _ _ _ ⟨rfl, rfl, rfl, rfl, h5, h6⟩
  · rw [hq (by decide)]
    obtain ⟨rfl, rfl, rfl, rfl, h5, h6⟩ := h
    refine ⟨fun _ => ?_, fun e => absurd rfl e⟩
    intro y ey
    rw [ey, y_sh1 num (by omega), y_nd]
    refine p cr _ _ _ _ ⟨rfl, rfl, rfl, rfl, fun j hj hbj => ?_, h6⟩
    have h7 : (nd (cP c) (2 ^ num)).testBit j = true := hbj
    rw [nd_bit] at h7
    exact h5 j hj (by revert h7; cases (cP c).testBit j <;> simp)
theorem s_whyNot {post : Int32 → Prop} {P : Nat → Nat} {c : Ct} {pl cr : Nat → Int32} {pr ly hi ho : Int32} {kd num : Nat} (hp : plC P pl) (hc : okC c) (h : clC c cr pr ly hi ho) (hg : goodA kd num) {q : Int32} (hq : kd ≠ 46 → q = nI num) (p : post (nI (why P c kd num))) : w_X1_whyNot post pl cr pr hi ho (nI kd) q := by
  obtain ⟨rfl, rfl, rfl, rfl, h5, h6⟩ := h
  obtain ⟨g1, g2, g3, g4, g6⟩ := hc
  unfold w_X1_whyNot
  unfold why at p
  rcases hg with rfl | ⟨rfl | rfl, hn⟩ | ⟨hk, hn⟩
  · refine ⟨fun _ => ?_, fun e => absurd rfl e⟩
    rw [if_pos rfl] at p
    refine pk_le 99 (cT c) (fun h => ?_) (fun h => ?_)
    · rw [if_neg (by omega)] at p; exact p
    · rw [if_pos h] at p; exact p
  · refine ⟨fun e => absurd e (by decide), fun _ => ⟨fun _ => ?_, fun e => absurd rfl e⟩⟩
    rw [if_neg (by decide), if_pos rfl] at p
    rw [hq (by decide)]
    by_cases hle : num ≤ cH c
    · rw [if_pos hle] at p
      rw [pk_sub hle]
      exact s_isP (by omega) (y_1 p)
    · rw [if_neg hle] at p
      exact s_isPo (Or.inl (pk_sneg (by omega) (by omega))) (y_0 p)
  · refine ⟨fun e => absurd e (by decide), fun _ => ⟨fun e => absurd e (by decide), fun _ => ⟨fun _ => ?_, fun e => absurd rfl e⟩⟩⟩
    rw [if_neg (by decide), if_neg (by decide), if_pos rfl] at p
    rw [hq (by decide), nI_add]
    by_cases hle : cH c + num ≤ 15
    · rw [if_pos hle] at p
      exact s_isP hle (y_1 p)
    · rw [if_neg hle] at p
      exact s_isPo (Or.inr (nI_lt (by omega) (by omega))) (y_0 p)
  · have n1 : ¬ nI kd = (46 : Int32) := by rcases hk with rfl | rfl | rfl | rfl <;> decide
    have n2 : ¬ nI kd = (60 : Int32) := by rcases hk with rfl | rfl | rfl | rfl <;> decide
    have n3 : ¬ nI kd = (62 : Int32) := by rcases hk with rfl | rfl | rfl | rfl <;> decide
    refine ⟨fun e => absurd e n1, fun _ => ⟨fun e => absurd e n2, fun _ => ⟨fun e => absurd e n3, fun _ => ?_⟩⟩⟩
    rw [if_neg (by omega), if_neg (by omega), if_neg (by omega)] at p
    rw [hq (by omega)]
    refine s_has (by omega) hn (y_01 (fun hb => ?_) (fun hb => ?_))
    · rw [if_pos (by simpa using hb)] at p; exact p
    · rw [if_neg (by rw [hb]; decide)] at p
      have ha := g1 num hn
      unfold w_X1_whyNotTo
      unfold w_X1_creamOf
      refine s_isW hn (y_1 ⟨vp_in_nI hn (by decide), ?_⟩)
      rw [nI_clamp (by omega), h5 num hn hb]
      have tail : (if kd = 61 then (if cC c num < 50 then 0 else 4) else 0) = (if kd = 61 then (if cC c num < 50 then 0 else 4) else 0) := rfl
      rcases hk with rfl | hk
      · rw [if_pos rfl] at p
        refine ⟨fun _ => ?_, fun e => absurd rfl e⟩
        refine s_placesOff hn hp ⟨g1, g2, g3, g4, g6⟩ ?_
        have hd : dist P c num ≤ 30 := by have := (hp num hn).2; unfold dist; omega
        refine pk_le (dist P c num) 1 (fun h => ?_) (fun h => ?_)
        · rw [if_neg (by omega)] at p
          unfold w_X1_whyNotTo_B23
          refine ⟨fun _ => ?_, fun e => absurd rfl e⟩
          refine pk_eq (cC c num) 0 (fun h0 => ?_) (fun h0 => ?_)
          · rw [if_pos h0] at p; exact p
          · rw [if_neg h0] at p
            exact ⟨fun e => absurd e (by decide), fun _ => p⟩
        · rw [if_pos h] at p; exact p
      · have n4 : ¬ nI kd = (63 : Int32) := by rcases hk with rfl | rfl | rfl <;> decide
        rw [if_neg (by omega)] at p
        refine ⟨fun e => absurd e n4, fun _ => ?_⟩
        unfold w_X1_whyNotTo_B23
        refine ⟨fun e => absurd e n4, fun _ => ?_⟩
        unfold w_X1_whyNotTo_B35
        rcases hk with rfl | hk
        · rw [if_pos rfl] at p
          refine ⟨fun _ => ?_, fun e => absurd rfl e⟩
          refine pk_lt (cC c num) 50 (fun h => ?_) (fun h => ?_)
          · rw [if_pos h] at p; exact p
          · rw [if_neg (by omega)] at p; exact p
        · have n5 : ¬ nI kd = (61 : Int32) := by rcases hk with rfl | rfl <;> decide
          rw [if_neg (by omega)] at p
          exact ⟨fun e => absurd e n5, fun _ => p⟩
/-- the first ACT behind which one is OFF that was not, and who -/
def noteS (f : Option (Nat × Nat)) (ac nw : Nat) : Option (Nat × Nat) := if nw = 0 then f else match f with
  | none => some (ac, lob 8 nw)
  | some x => some x
def fA : Option (Nat × Nat) → Int32
  | none => -6
  | some x => nI x.1
def fW : Option (Nat × Nat) → Int32
  | none => -6
  | some x => nI x.2
def fOk (f : Option (Nat × Nat)) : Prop := ∀ x, f = some x → x.1 < 1000 ∧ x.2 < 8
theorem lob_lt {n a : Nat} (hn : n ≤ 8) (h0 : a ≠ 0 → True) : lob n a < 8 := by
  induction n with
  | zero => show 0 < 8; decide
  | succ n ih =>
    rw [lob]
    split
    · omega
    · exact ih (by omega)
theorem noteS_ok {f : Option (Nat × Nat)} {ac nw : Nat} (h : fOk f) (ha : ac < 1000) : fOk (noteS f ac nw) := by
  unfold noteS
  split
  · exact h
  · cases f with
    | none => intro x hx; cases hx; exact ⟨ha, lob_lt (Nat.le_refl 8) (fun _ => trivial)⟩
    | some y => exact h
theorem s_noteOff {post : Int32 → Int32 → Prop} {f : Option (Nat × Nat)} {ac nw : Nat} (hf : fOk f) (hn : nw < 256) (p : post (fA (noteS f ac nw)) (fW (noteS f ac nw))) : w_X3_noteOff post (nI ac) (fA f) (fW f) (nI nw) := by
  unfold w_X3_noteOff
  unfold noteS at p
  refine pk_eq nw 0 (fun h => ?_) (fun h => ?_)
  · rw [if_pos h] at p; exact p
  · rw [if_neg h] at p
    cases f with
    | none => exact ⟨fun _ => s_nTZ (by omega) hn p, fun e => absurd rfl e⟩
    | some x =>
      have := (hf x rfl).1
      refine ⟨fun e => ?_, fun _ => p⟩
      have e2 : nI x.1 = (-6 : Int32) := e
      have e3 := congrArg Int32.toInt e2
      rw [nI_toInt (by omega)] at e3
      have e4 : (-6 : Int32).toInt = -6 := by decide
      omega
theorem s_take {post : (Nat → Int32) → Int32 → Int32 → Int32 → Int32 → Int32 → Int32 → Int32 → Int32 → Prop} {P : Nat → Nat} {c : Ct} {pl cr : Nat → Int32} {pr ly hi ho re : Int32} {po sp kd num ac : Nat} {f : Option (Nat × Nat)} (hp : plC P pl) (hc : okC c) (h : clC c cr pr ly hi ho) (h1 : po ≤ 9) (h2 : sp ≤ 9) (hg : goodA kd num) {q : Int32} (hq : kd ≠ 46 → q = nI num) (hf : fOk f)
    (p0 : why P c kd num = 0 → ∀ (cr' : Nat → Int32) (pr' ly' hi' ho' : Int32), clC (actC P po sp c kd num) cr' pr' ly' hi' ho' → post cr' pr' ly' hi' ho' (nI (ac + 1)) (nI 0) (fA (noteS f ac (nd (off 8 (actC P po sp c kd num)) (off 8 c)))) (fW (noteS f ac (nd (off 8 (actC P po sp c kd num)) (off 8 c)))))
    (p1 : why P c kd num ≠ 0 → post cr pr ly hi ho (nI ac) (nI (why P c kd num)) (fA f) (fW f)) : w_X3_take post pl cr pr ly hi (nI po) (nI sp) ho (nI ac) re (fA f) (fW f) (nI kd) q := by
  unfold w_X3_take
  refine s_whyNot hp hc h hg hq ?_
  have hw5 : why P c kd num ≤ 5 := by unfold why; repeat' split
                                      all_goals omega
  refine pk_eq (why P c kd num) 0 (fun h0 => ?_) (fun h0 => p1 h0)
  refine s_offOnes hc h ?_
  refine s_act hp hc h h1 h2 hg hq h0 (fun cr' pr' ly' hi' ho' h' => ?_)
  have hc' := actC_ok (po := po) (sp := sp) hc hg h0
  refine s_offOnes hc' h' ?_
  rw [y_nd]
  refine s_noteOff hf (y_nd_lt (n := 8) (off_lt 8 _)) ?_
  rw [nI_1, h0]
  exact p0 h0 cr' pr' ly' hi' ho' h'
