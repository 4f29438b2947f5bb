-- the terms' text: THE FAULT; acts one after the other
def txC (t : Nat → Nat) (sg : Nat → Int32) : Prop := ∀ k, k < 60 → sg k = nI (t k) ∧ t k ≤ 126
def sgn (t : Nat → Nat) (k : Nat) : Nat := if k < 60 then t k else 0
theorem sgn_le {t : Nat → Nat} {sg : Nat → Int32} (h : txC t sg) (k : Nat) : sgn t k ≤ 126 := by
  unfold sgn; split
  · exact (h k (by omega)).2
  · omega
abbrev isLt (x : Nat) : Prop := 65 ≤ x ∧ x ≤ 72
abbrev isMv (x : Nat) : Prop := x = 62 ∨ x = 60
abbrev isWs (x : Nat) : Prop := x = 63 ∨ x = 61 ∨ x = 126 ∨ x = 33
abbrev isDg (x : Nat) : Prop := 49 ≤ x ∧ x ≤ 57
abbrev fol (a b : Nat) : Prop := (isMv a ∧ isDg b) ∨ (¬ isMv a ∧ isWs b)
theorem s_signAt {post : Int32 → Prop} {t : Nat → Nat} {sg : Nat → Int32} {k : Nat} (h : txC t sg) (hk : k < 2 ^ 20) (p : post (nI (sgn t k))) : w_X4_signAt post sg (nI k) := by
  unfold w_X4_signAt
  unfold sgn at p
  by_cases h60 : k < 60
  · rw [if_pos h60] at p
    obtain ⟨e, hle⟩ := h k h60
    refine s8_in 0 59 (Nat.zero_le _) (by omega) (by decide) (y_1 ⟨vp_in_nI h60 (by decide), ?_⟩)
    rw [nI_clamp (by omega), e]
    exact ⟨(pk_charN (by omega)).1, p⟩
  · rw [if_neg h60] at p
    exact s8_out (Or.inr (nI_lt (a := 59) (by omega) (by omega))) (y_0 p)
theorem s_isHour {post : Int32 → Prop} {t : Nat → Nat} {sg : Nat → Int32} {k : Nat} (h : txC t sg) (hk : k < 2 ^ 20) (p : post (if sgn t k = 46 then 1 else 0)) : w_X4_isHour post sg (nI k) := by
  unfold w_X4_isHour
  refine s_signAt h hk ?_
  have := sgn_le h k
  refine pk_eq (sgn t k) 46 (fun e => ?_) (fun e => ?_)
  · rw [if_pos e] at p; exact p
  · rw [if_neg e] at p; exact p
theorem s_isMove {post : Int32 → Prop} {t : Nat → Nat} {sg : Nat → Int32} {k : Nat} (h : txC t sg) (hk : k < 2 ^ 20) (p : post (if isMv (sgn t k) then 1 else 0)) : w_X4_isMove post sg (nI k) := by
  unfold w_X4_isMove w_X4_isMove_B20
  refine s_signAt h hk ?_
  have := sgn_le h k
  refine pk_eq (sgn t k) 62 (fun e => ?_) (fun e => ?_)
  · rw [if_pos (Or.inl e)] at p; exact p
  · refine s_signAt h hk ?_
    refine pk_eq (sgn t k) 60 (fun e2 => ?_) (fun e2 => ?_)
    · rw [if_pos (Or.inr e2)] at p; exact p
    · rw [if_neg (fun z => z.elim e e2)] at p; exact p
theorem s_isLetter {post : Int32 → Prop} {t : Nat → Nat} {sg : Nat → Int32} {k : Nat} (h : txC t sg) (hk : k < 2 ^ 20) (p : post (if isLt (sgn t k) then 1 else 0)) : w_X4_isLetter post sg (nI k) := by
  unfold w_X4_isLetter
  refine s_signAt h hk ?_
  have := sgn_le h k
  rw [show (65 : Int32) = nI 65 from rfl]
  by_cases h1 : sgn t k < 65
  · rw [if_neg (fun z => by have := z.1; omega)] at p
    exact s_isWo (Or.inl (pk_sneg (by omega) h1)) p
  · rw [pk_sub (by omega)]
    by_cases h2 : sgn t k ≤ 72
    · rw [if_pos ⟨by omega, h2⟩] at p
      exact s_isW (by omega) p
    · rw [if_neg (fun z => h2 z.2)] at p
      exact s_isWo (Or.inr (nI_lt (by omega) (by omega))) p
theorem s_canFollow {post : Int32 → Prop} {t : Nat → Nat} {sg : Nat → Int32} {k : Nat} (h : txC t sg) (hk : k < 1000) (p : post (if fol (sgn t k) (sgn t (k + 1)) then 1 else 0)) : w_X4_canFollow post sg (nI k) := by
  unfold w_X4_canFollow w_X4_canFollow_B58 w_X4_canFollow_B32
  rw [nI_1]
  refine s_signAt h (by omega) ?_
  refine s_isMove h (by omega) ?_
  have := sgn_le h (k + 1)
  refine y_01 (fun hm => ?_) (fun hm => ?_)
  · refine pk_eq (sgn t (k + 1)) 63 (fun e => ?_) (fun e1 => pk_eq (sgn t (k + 1)) 61 (fun e => ?_) (fun e2 => pk_eq (sgn t (k + 1)) 126 (fun e => ?_) (fun e3 => pk_eq (sgn t (k + 1)) 33 (fun e => ?_) (fun e4 => ?_))))
    · rw [if_pos (Or.inr ⟨hm, Or.inl e⟩)] at p; exact p
    · rw [if_pos (Or.inr ⟨hm, Or.inr (Or.inl e)⟩)] at p; exact p
    · rw [if_pos (Or.inr ⟨hm, Or.inr (Or.inr (Or.inl e))⟩)] at p; exact p
    · rw [if_pos (Or.inr ⟨hm, Or.inr (Or.inr (Or.inr e))⟩)] at p; exact p
    · rw [if_neg (fun z => by rcases z with z | ⟨-, z | z | z | z⟩ <;> first | exact hm z.1 | contradiction)] at p; exact p
  · refine pk_lt (sgn t (k + 1)) 49 (fun e => ?_) (fun e1 => pk_lt 57 (sgn t (k + 1)) (fun e => ?_) (fun e2 => ?_))
    · rw [if_neg (fun z => by rcases z with z | z <;> first | (exact absurd hm z.1; done) | (have := z.2.1; omega))] at p; exact p
    · rw [if_neg (fun z => by rcases z with z | z <;> first | (exact absurd hm z.1; done) | (have := z.2.2; omega))] at p; exact p
    · rw [if_pos (Or.inl ⟨hm, e1, e2⟩)] at p; exact p
theorem s_kindAt {post : Int32 → Prop} {t : Nat → Nat} {sg : Nat → Int32} {k : Nat} (h : txC t sg) (hk : k < 1000) (p : post (nI (if isLt (sgn t k) then sgn t (k + 1) else sgn t k))) : w_X4_kindAt post sg (nI k) := by
  unfold w_X4_kindAt
  refine s_isLetter h (by omega) (y_01 (fun hl => ?_) (fun hl => ?_))
  · rw [if_neg hl] at p; exact s_signAt h (by omega) p
  · rw [if_pos hl] at p; rw [nI_1]; exact s_signAt h (by omega) p
theorem s_numberAt {post : Int32 → Prop} {t : Nat → Nat} {sg : Nat → Int32} {k : Nat} (h : txC t sg) (hk : k < 1000) (p : post (if isLt (sgn t k) then nI (sgn t k - 65) else nI (sgn t (k + 1)) - (48 : Int32))) : w_X4_numberAt post sg (nI k) := by
  unfold w_X4_numberAt
  refine s_isLetter h (by omega) (y_01 (fun hl => ?_) (fun hl => ?_))
  · rw [if_neg hl] at p; rw [nI_1]; exact s_signAt h (by omega) p
  · rw [if_pos hl] at p
    refine s_signAt h (by omega) ?_
    rw [show (65 : Int32) = nI 65 from rfl, pk_sub hl.1]; exact p
/-- THE FAULT from a place on -/
def flt (t : Nat → Nat) (n : Nat) : Nat → Nat → Option Nat
  | 0, _ => none
  | f + 1, a => if n ≤ a then none else if t a = 46 then flt t n f (a + 1) else if ¬ (isMv (t a) ∨ isLt (t a)) then some a else if a + 1 = n then some n else if fol (t a) (t (a + 1)) then flt t n f (a + 2) else some (a + 1)
theorem flt_f (t : Nat → Nat) (n : Nat) : ∀ (f g a : Nat), n - a < f → n - a < g → flt t n f a = flt t n g a := by
  intro f
  induction f with
  | zero => intro g a h; omega
  | succ f ih =>
    intro g a h1 h2
    cases g with
    | zero => omega
    | succ g =>
      rw [flt, flt]
      by_cases hn : n ≤ a
      · rw [if_pos hn, if_pos hn]
      · rw [if_neg hn, if_neg hn, ih g (a + 1) (by omega) (by omega), ih g (a + 2) (by omega) (by omega)]
def fltA (t : Nat → Nat) (n a : Nat) : Option Nat := flt t n (n - a + 1) a
theorem fltA_eq (t : Nat → Nat) (n a : Nat) : fltA t n a = if n ≤ a then none else if t a = 46 then fltA t n (a + 1) else if ¬ (isMv (t a) ∨ isLt (t a)) then some a else if a + 1 = n then some n else if fol (t a) (t (a + 1)) then fltA t n (a + 2) else some (a + 1) := by
  show flt t n (n - a + 1) a = _
  rw [flt]
  by_cases hn : n ≤ a
  · rw [if_pos hn, if_pos hn]
  · rw [if_neg hn, if_neg hn]
    unfold fltA
    rw [flt_f t n (n - a) (n - (a + 1) + 1) (a + 1) (by omega) (by omega), flt_f t n (n - a) (n - (a + 2) + 1) (a + 2) (by omega) (by omega)]
def fI : Option Nat → Int32
  | none => -6
  | some k => nI k
theorem s_fault {post : Int32 → Prop} {t : Nat → Nat} {sg : Nat → Int32} {n : Nat} (h : txC t sg) (hn : n ≤ 60) (p : post (fI (fltA t n 0))) : w_X4_firstFault post sg (nI n) := by
  have key : ∀ N a, n - a < N → a ≤ n → post (fI (fltA t n a)) → w_X4_firstFault_B2 post sg (nI n) N (nI a) := by
    intro N
    induction N with
    | zero => intro a h1; omega
    | succ N ih =>
      intro a h1 h2 p
      unfold w_X4_firstFault_B2
      rw [fltA_eq] at p
      refine pk_le n a (fun h3 => ?_) (fun h3 => ?_)
      · rw [if_pos h3] at p; exact p
      · rw [if_neg (by omega)] at p
        have es : sgn t a = t a := if_pos (by omega)
        refine s_isHour h (by omega) (y_01 (fun hh => ?_) (fun hh => ?_))
        · rw [es] at hh
          rw [if_neg hh] at p
          have cont : (isMv (t a) ∨ isLt (t a)) → w_X4_firstFault_B39 post sg (nI n) (fun x1 => w_X4_firstFault_B2 post sg (nI n) N x1) (nI a) := by
            intro hml
            rw [if_neg (fun z => z hml)] at p
            unfold w_X4_firstFault_B39
            rw [nI_1]
            refine pk_eq (a + 1) n (fun e => ?_) (fun e => ?_)
            · rw [if_pos e] at p; exact p
            · rw [if_neg e] at p
              have es1 : sgn t (a + 1) = t (a + 1) := if_pos (by omega)
              refine s_canFollow h (by omega) (y_01 (fun hf => ?_) (fun hf => ?_))
              · rw [es, es1] at hf
                rw [if_neg hf] at p; exact p
              · rw [es, es1] at hf
                rw [if_pos hf] at p
                unfold w_X4_firstFault_B66
                refine s_isHour h (by omega) (y_01 (fun hh2 => ?_) (fun hh2 => absurd (by rw [es] at hh2; exact hh2) hh))
                unfold w_X4_firstFault_B80
                rw [show (2 : Int32) = nI 2 from rfl, nI_add]
                exact ih (a + 2) (by omega) (by omega) p
          refine s_isMove h (by omega) (y_01 (fun hm => ?_) (fun hm => ?_))
          · rw [es] at hm
            refine s_isLetter h (by omega) (y_01 (fun hl => ?_) (fun hl => ?_))
            · rw [es] at hl
              rw [if_pos (fun z => z.elim hm hl)] at p; exact p
            · rw [es] at hl
              exact cont (Or.inr hl)
          · rw [es] at hm
            exact cont (Or.inl hm)
        · rw [es] at hh
          rw [if_pos hh] at p
          unfold w_X4_firstFault_B66
          refine s_isHour h (by omega) (y_01 (fun hh2 => absurd hh (by rw [es] at hh2; exact hh2)) (fun hh2 => ?_))
          unfold w_X4_firstFault_B80
          rw [show (1 : Int32) = nI 1 from rfl, nI_add]
          exact ih (a + 1) (by omega) (by omega) p
  exact ⟨62, key 62 0 (by omega) (by omega) p⟩

-- the reference's FAULT: a state per sign
theorem r_in {post : Int32 → Prop} {k : Nat} (a b : Nat) (hk : k < 2 ^ 31) (ha : a < 2 ^ 31) (hb : b < 2 ^ 31) (p : post (if a ≤ k ∧ k ≤ b then 1 else 0)) : w_X9_in post (nI k) (nI a) (nI b) := by
  by_cases h : a ≤ k ∧ k ≤ b
  · rw [if_pos h] at p; exact s9_in a b h.1 h.2 hb p
  · rw [if_neg h] at p
    refine s9_out ?_ p
    rcases Nat.lt_or_ge k a with q | q
    · exact Or.inl (nI_lt q ha)
    · exact Or.inr (nI_lt (by omega) hk)
theorem r_fault {post : Int32 → Prop} {t : Nat → Nat} {sg : Nat → Int32} {n : Nat} (h : txC t sg) (hn : n ≤ 60) (p : post (fI (fltA t n 0))) : w_X9_faultOf post (nI n) sg := by
  have key : ∀ N a, n - a < N → a ≤ n →
      (post (fI (fltA t n a)) → w_X9_faultOf_B4 post (nI n) sg N (nI 0) (nI a)) ∧
      (post (if a = n then nI n else if isWs (t a) then fI (fltA t n (a + 1)) else nI a) → w_X9_faultOf_B4 post (nI n) sg N (nI 1) (nI a)) ∧
      (post (if a = n then nI n else if isDg (t a) then fI (fltA t n (a + 1)) else nI a) → w_X9_faultOf_B4 post (nI n) sg N (nI 2) (nI a)) := by
    intro N
    induction N with
    | zero => intro a h1; omega
    | succ N ih =>
      intro a h1 h2
      have back : ∀ (st : Int32) (pp : Prop), (a < n → pp → vp_in (nI a) 60 ∧ w_X9_in (fun r24 => ((sg (nI a).toNatClampNeg) = (62 : Int32) → w_X9_faultOf_B41 post (nI n) sg (fun x1 x2 => w_X9_faultOf_B4 post (nI n) sg N x1 x2) st (nI a) (sg (nI a).toNatClampNeg) r24) ∧ (¬ (sg (nI a).toNatClampNeg) = (62 : Int32) → ((sg (nI a).toNatClampNeg) = (60 : Int32) → w_X9_faultOf_B41 post (nI n) sg (fun x1 x2 => w_X9_faultOf_B4 post (nI n) sg N x1 x2) st (nI a) (sg (nI a).toNatClampNeg) r24) ∧ (¬ (sg (nI a).toNatClampNeg) = (60 : Int32) → w_X9_faultOf_B46 post (nI n) sg (fun x1 x2 => w_X9_faultOf_B4 post (nI n) sg N x1 x2) st (nI a) (sg (nI a).toNatClampNeg) r24 (0 : Int32)))) (sg (nI a).toNatClampNeg) (65 : Int32) (72 : Int32)) → (¬ a < n → pp → (st = 0 → post (-6 : Int32)) ∧ (¬ st = 0 → post (nI n))) → pp → w_X9_faultOf_B4 post (nI n) sg (N + 1) st (nI a) := by
        intro st pp f1 f2 hpp
        unfold w_X9_faultOf_B4
        exact pk_le n a (fun h3 => f2 (by omega) hpp) (fun h3 => f1 (by omega) hpp)
      -- where the sign at a is looked at: by what it is
      have look : ∀ (st : Int32), a < n → (∀ (lt mv : Bool), lt = decide (isLt (t a)) → mv = decide (isMv (t a)) → w_X9_faultOf_B46 post (nI n) sg (fun x1 x2 => w_X9_faultOf_B4 post (nI n) sg N x1 x2) st (nI a) (nI (t a)) (if lt = true then 1 else 0) (if mv = true then 1 else 0)) → vp_in (nI a) 60 ∧ w_X9_in (fun r24 => ((sg (nI a).toNatClampNeg) = (62 : Int32) → w_X9_faultOf_B41 post (nI n) sg (fun x1 x2 => w_X9_faultOf_B4 post (nI n) sg N x1 x2) st (nI a) (sg (nI a).toNatClampNeg) r24) ∧ (¬ (sg (nI a).toNatClampNeg) = (62 : Int32) → ((sg (nI a).toNatClampNeg) = (60 : Int32) → w_X9_faultOf_B41 post (nI n) sg (fun x1 x2 => w_X9_faultOf_B4 post (nI n) sg N x1 x2) st (nI a) (sg (nI a).toNatClampNeg) r24) ∧ (¬ (sg (nI a).toNatClampNeg) = (60 : Int32) → w_X9_faultOf_B46 post (nI n) sg (fun x1 x2 => w_X9_faultOf_B4 post (nI n) sg N x1 x2) st (nI a) (sg (nI a).toNatClampNeg) r24 (0 : Int32)))) (sg (nI a).toNatClampNeg) (65 : Int32) (72 : Int32) := by
        intro st ha g
        obtain ⟨e, hle⟩ := h a (by omega)
        refine ⟨vp_in_nI (by omega) (by decide), ?_⟩
        rw [nI_clamp (by omega), e]
        have g := g (decide (isLt (t a))) (decide (isMv (t a))) rfl rfl
        refine r_in 65 72 (by omega) (by decide) (by decide) ?_
        simp only [decide_eq_true_eq] at g
        unfold w_X9_faultOf_B41
        refine pk_eq (t a) 62 (fun e1 => ?_) (fun e1 => pk_eq (t a) 60 (fun e2 => ?_) (fun e2 => ?_))
        · rw [if_pos (show isMv (t a) from Or.inl e1)] at g; exact g
        · rw [if_pos (show isMv (t a) from Or.inr e2)] at g; exact g
        · rw [if_neg (show ¬ isMv (t a) from fun z => z.elim e1 e2)] at g; exact g
      refine ⟨?_, ?_, ?_⟩
      · refine back (nI 0) _ (fun ha p => look (nI 0) ha (fun lt mv el em => ?_)) (fun ha p => ?_)
        · rw [fltA_eq, if_neg (by omega)] at p
          have hle := (h a (by omega)).2
          have stop : ¬ t a = 46 → ¬ (isMv (t a) ∨ isLt (t a)) → post (nI a) := fun q1 q2 => by
            rw [if_neg q1, if_pos q2] at p; exact p
          unfold w_X9_faultOf_B46 w_X9_faultOf_B68 w_X9_faultOf_B121 w_X9_faultOf_B157
          refine ⟨fun _ => ?_, fun z => absurd rfl z⟩
          have s1 : ∀ {A B : Prop}, A → ((1 : Int32) = 0 → B) ∧ (¬ (1 : Int32) = 0 → A) := fun q => ⟨fun z => absurd z (by decide), fun _ => q⟩
          have z0 : ∀ {A B : Prop}, A → (nI 0 = 0 → A) ∧ (¬ nI 0 = 0 → B) := fun q => ⟨fun _ => q, fun z => absurd rfl z⟩
          have two : (isMv (t a) ∨ isLt (t a)) → ¬ t a = 46 → post (if a + 1 = n then nI n else if fol (t a) (t (a + 1)) then fI (fltA t n (a + 2)) else nI (a + 1)) := by
            intro q1 q2
            rw [if_neg q2, if_neg (fun z => z q1)] at p
            by_cases e1 : a + 1 = n
            · rw [if_pos e1] at p; rw [if_pos e1]; exact p
            · rw [if_neg e1] at p; rw [if_neg e1]
              by_cases e2 : fol (t a) (t (a + 1))
              · rw [if_pos e2] at p; rw [if_pos e2]; exact p
              · rw [if_neg e2] at p; rw [if_neg e2]; exact p
          cases lt
          · have nl : ¬ isLt (t a) := of_decide_eq_false el.symm
            refine ⟨fun _ => ?_, fun z => absurd rfl z⟩
            cases mv
            · have nm : ¬ isMv (t a) := of_decide_eq_false em.symm
              refine ⟨fun _ => ?_, fun z => absurd rfl z⟩
              refine pk_eq (t a) 46 (fun e => ?_) (fun e => ?_)
              · rw [if_pos e] at p
                refine s1 (z0 ⟨fun _ => ⟨fun _ => ?_, fun z => absurd rfl z⟩, fun z => absurd rfl z⟩)
                rw [nI_1]
                exact (ih (a + 1) (by omega) (by omega)).1 p
              · exact ⟨fun _ => stop e (fun z => z.elim nm nl), fun z => absurd rfl z⟩
            · have ym : isMv (t a) := of_decide_eq_true em.symm
              refine ⟨fun z => absurd z (by decide), fun _ => ?_⟩
              have n46 : ¬ t a = 46 := by rcases ym with z | z <;> omega
              refine s1 (z0 ⟨fun _ => ⟨fun z => absurd z (by decide), fun _ => ?_⟩, fun z => absurd rfl z⟩)
              rw [nI_1]
              refine (ih (a + 1) (by omega) (by omega)).2.2 ?_
              have p := two (Or.inl ym) n46
              by_cases e1 : a + 1 = n
              · rw [if_pos e1] at p; rw [if_pos e1]; exact p
              · rw [if_neg e1] at p; rw [if_neg e1]
                by_cases e2 : isDg (t (a + 1))
                · rw [if_pos (Or.inl ⟨ym, e2⟩)] at p; rw [if_pos e2]; exact p
                · rw [if_neg (fun z => by rcases z with z | z <;> first | exact e2 z.2 | exact absurd ym z.1)] at p; rw [if_neg e2]; exact p
          · have yl : isLt (t a) := of_decide_eq_true el.symm
            refine ⟨fun z => absurd z (by decide), fun _ => ?_⟩
            have n46 : ¬ t a = 46 := by have := yl.1; omega
            have nm : ¬ isMv (t a) := fun z => by have := yl.1; rcases z with z | z <;> omega
            refine s1 (z0 ⟨fun z => absurd z (by decide), fun _ => ?_⟩)
            rw [nI_1]
            refine (ih (a + 1) (by omega) (by omega)).2.1 ?_
            have p := two (Or.inr yl) n46
            by_cases e1 : a + 1 = n
            · rw [if_pos e1] at p; rw [if_pos e1]; exact p
            · rw [if_neg e1] at p; rw [if_neg e1]
              by_cases e2 : isWs (t (a + 1))
              · rw [if_pos (Or.inr ⟨nm, e2⟩)] at p; rw [if_pos e2]; exact p
              · rw [if_neg (fun z => by rcases z with z | z <;> first | exact e2 z.2 | exact absurd z.1 nm)] at p; rw [if_neg e2]; exact p
        · rw [fltA_eq, if_pos (by omega)] at p
          exact ⟨fun _ => p, fun z => absurd rfl z⟩
      · refine back (nI 1) _ (fun ha p => look (nI 1) ha (fun lt mv el em => ?_)) (fun ha p => ?_)
        · rw [if_neg (by omega)] at p
          have hle := (h a (by omega)).2
          unfold w_X9_faultOf_B46 w_X9_faultOf_B105 w_X9_faultOf_B121 w_X9_faultOf_B157
          refine ⟨fun z => absurd z (by decide), fun _ => ⟨fun _ => ?_, fun z => absurd rfl z⟩⟩
          have go : ∀ {B C : Prop}, isWs (t a) → ((1 : Int32) = 0 → C) ∧ (¬ (1 : Int32) = 0 → (nI 1 = 0 → B) ∧ (¬ nI 1 = 0 → w_X9_faultOf_B4 post (nI n) sg N (0 : Int32) (nI a + 1))) := by
            intro B C hw
            rw [if_pos hw] at p
            refine ⟨fun z => absurd z (by decide), fun _ => ⟨fun z => absurd z (by decide), fun _ => ?_⟩⟩
            rw [nI_1]
            exact (ih (a + 1) (by omega) (by omega)).1 p
          refine pk_eq (t a) 63 (fun e => go (Or.inl e)) (fun e1 => pk_eq (t a) 61 (fun e => go (Or.inr (Or.inl e))) (fun e2 => pk_eq (t a) 126 (fun e => go (Or.inr (Or.inr (Or.inl e)))) (fun e3 => pk_eq (t a) 33 (fun e => go (Or.inr (Or.inr (Or.inr e)))) (fun e4 => ?_))))
          rw [if_neg (fun z => by rcases z with z | z | z | z <;> contradiction)] at p
          exact ⟨fun _ => p, fun z => absurd rfl z⟩
        · rw [if_pos (by omega)] at p
          exact ⟨fun z => absurd z (by decide), fun _ => p⟩
      · refine back (nI 2) _ (fun ha p => look (nI 2) ha (fun lt mv el em => ?_)) (fun ha p => ?_)
        · rw [if_neg (by omega)] at p
          have hle := (h a (by omega)).2
          unfold w_X9_faultOf_B46 w_X9_faultOf_B121 w_X9_faultOf_B157
          refine ⟨fun z => absurd z (by decide), fun _ => ⟨fun z => absurd z (by decide), fun _ => ?_⟩⟩
          refine r_in 49 57 (by omega) (by decide) (by decide) (y_01 (fun hd => ?_) (fun hd => ?_))
          · rw [if_neg hd] at p; exact p
          · rw [if_pos hd] at p
            refine ⟨fun z => absurd z (by decide), fun _ => ?_⟩
            rw [nI_1]
            exact (ih (a + 1) (by omega) (by omega)).1 p
        · rw [if_pos (by omega)] at p
          exact ⟨fun z => absurd z (by decide), fun _ => p⟩
  exact ⟨62, (key 62 0 (by omega) (by omega)).1 p⟩
