-- plain facts on ints that are small naturals, and on bits
theorem y_rng (x : Int32) (a b : Nat) (ha : a < 2 ^ 31 := by decide) (hb : b < 2 ^ 31 := by decide) : (∃ k : Nat, a ≤ k ∧ k ≤ b ∧ x = nI k) ∨ (x < nI a ∨ nI b < x) := by
  by_cases h0 : x < 0
  · refine Or.inr (Or.inl ?_)
    rw [Int32.lt_iff_toInt_lt] at h0 ⊢
    rw [nI_toInt ha]
    have : (0 : Int32).toInt = 0 := by decide
    omega
  · obtain ⟨j, hj, rfl⟩ := nI_of h0
    by_cases h1 : b < j
    · exact Or.inr (Or.inr (nI_lt h1 hj))
    · by_cases h2 : j < a
      · exact Or.inr (Or.inl (nI_lt h2 ha))
      · exact Or.inl ⟨j, by omega, by omega, rfl⟩
/-- a number 0 to b, or none -/
theorem y_rng0 (x : Int32) (b : Nat) (hb : b < 2 ^ 31 := by decide) : (∃ k : Nat, k ≤ b ∧ x = nI k) ∨ (x < nI 0 ∨ nI b < x) := by
  rcases y_rng x 0 b (by decide) hb with ⟨k, -, h, e⟩ | h
  · exact Or.inl ⟨k, h, e⟩
  · exact Or.inr h
theorem y_sh1 : ∀ k, k < 31 → (1 : Int32) <<< (nI k &&& 31) = nI (2 ^ k) := by decide +kernel
theorem y_c31 : ∀ k, k < 32 → ((nI k &&& 31).toBitVec.smod 32).toNat = k := by decide +kernel
theorem y_or (a b : Nat) : nI a ||| nI b = nI (a ||| b) := by
  apply Int32.toBitVec_inj.mp
  show BitVec.ofNat 32 a ||| BitVec.ofNat 32 b = BitVec.ofNat 32 (a ||| b)
  apply BitVec.eq_of_getLsbD_eq
  intro i hi
  simp [BitVec.getLsbD_ofNat, hi]
theorem y_and (a b : Nat) : nI a &&& nI b = nI (a &&& b) := by
  apply Int32.toBitVec_inj.mp
  show BitVec.ofNat 32 a &&& BitVec.ofNat 32 b = BitVec.ofNat 32 (a &&& b)
  apply BitVec.eq_of_getLsbD_eq
  intro i hi
  simp [BitVec.getLsbD_ofNat, hi]
theorem y_xor (a b : Nat) : nI a ^^^ nI b = nI (a ^^^ b) := by
  apply Int32.toBitVec_inj.mp
  show BitVec.ofNat 32 a ^^^ BitVec.ofNat 32 b = BitVec.ofNat 32 (a ^^^ b)
  apply BitVec.eq_of_getLsbD_eq
  intro i hi
  simp [BitVec.getLsbD_ofNat, hi]
/-- a without b -/
def nd (a b : Nat) : Nat := a ^^^ (a &&& b)
theorem nd_bit (a b i : Nat) : (nd a b).testBit i = (a.testBit i && !b.testBit i) := by
  unfold nd
  rw [Nat.testBit_xor, Nat.testBit_and]
  cases a.testBit i <;> cases b.testBit i <;> rfl
theorem y_nd (a b : Nat) : nI a &&& (nI b ^^^ (-1 : Int32)) = nI (nd a b) := by
  apply Int32.toBitVec_inj.mp
  show BitVec.ofNat 32 a &&& (BitVec.ofNat 32 b ^^^ BitVec.allOnes 32) = BitVec.ofNat 32 (nd a b)
  apply BitVec.eq_of_getLsbD_eq
  intro i hi
  rw [BitVec.getLsbD_and, BitVec.getLsbD_xor, BitVec.getLsbD_allOnes, BitVec.getLsbD_ofNat, BitVec.getLsbD_ofNat, BitVec.getLsbD_ofNat, nd_bit]
  simp [hi]
theorem y_bit {n k : Nat} (hn : n < 2 ^ 31) (hk : k < 31) : (nI n >>> (nI k &&& 31)) &&& (1 : Int32) = nI (n / 2 ^ k % 2) := by
  rw [pk_shrN hn _ k (y_c31 k (by omega))]
  have h := pk_andN (n := n / 2 ^ k) (Nat.lt_of_le_of_lt (Nat.div_le_self _ _) (by omega)) (m := 1) 1 (by decide)
  exact h
theorem y_tb (n k : Nat) : n.testBit k = decide (n / 2 ^ k % 2 = 1) := by
  rw [Nat.testBit_eq_decide_div_mod_eq]
theorem y_b1 {n k : Nat} (hn : n < 2 ^ 31) (hk : k < 31) : (nI n >>> (nI k &&& 31)) &&& (1 : Int32) = 1 ↔ n.testBit k = true := by
  rw [y_bit hn hk, y_tb, show (1 : Int32) = nI 1 from rfl, nI_eq (by omega) (by decide)]
  simp
/-- a branch on a bit -/
theorem y_pb {n k : Nat} {A B : Prop} (hn : n < 2 ^ 31) (hk : k < 31) (f : n.testBit k = true → A) (g : n.testBit k = false → B) : ((nI n >>> (nI k &&& 31)) &&& (1 : Int32) = 1 → A) ∧ (¬ (nI n >>> (nI k &&& 31)) &&& (1 : Int32) = 1 → B) := by
  rw [y_b1 hn hk]
  refine ⟨f, fun h => g ?_⟩
  cases hh : n.testBit k
  · rfl
  · exact absurd hh h
/-- an answer that is 1 or 0 -/
theorem y_01 {c : Prop} [Decidable c] {A B : Prop} (f : ¬ c → A) (g : c → B) : ((if c then (1 : Int32) else 0) = 0 → A) ∧ (¬ (if c then (1 : Int32) else 0) = 0 → B) := by
  by_cases h : c
  · rw [if_pos h]; exact ⟨fun e => absurd e (by decide), fun _ => g h⟩
  · rw [if_neg h]; exact ⟨fun _ => f h, fun e => absurd rfl e⟩
theorem y_1 {A B : Prop} (g : B) : ((1 : Int32) = 0 → A) ∧ (¬ (1 : Int32) = 0 → B) := ⟨fun e => absurd e (by decide), fun _ => g⟩
theorem y_0 {A B : Prop} (f : A) : ((0 : Int32) = 0 → A) ∧ (¬ (0 : Int32) = 0 → B) := ⟨fun _ => f, fun e => absurd rfl e⟩
theorem y_lt_bit {a n : Nat} (h : ∀ i, n ≤ i → a.testBit i = false) : a < 2 ^ n := Nat.lt_pow_two_of_testBit a h
theorem y_bit_hi {a n i : Nat} (h : a < 2 ^ n) (hi : n ≤ i) : a.testBit i = false := Nat.testBit_lt_two_pow (Nat.lt_of_lt_of_le h (Nat.pow_le_pow_right (by decide) hi))
theorem y_or_lt {a b n : Nat} (ha : a < 2 ^ n) (hb : b < 2 ^ n) : a ||| b < 2 ^ n := Nat.or_lt_two_pow ha hb
theorem y_nd_lt {a b n : Nat} (ha : a < 2 ^ n) : nd a b < 2 ^ n := y_lt_bit fun i hi => by rw [nd_bit, y_bit_hi ha hi]; rfl
theorem y_xor_lt {a b n : Nat} (ha : a < 2 ^ n) (hb : b < 2 ^ n) : a ^^^ b < 2 ^ n := Nat.xor_lt_two_pow ha hb
theorem y_and_lt {a b n : Nat} (ha : a < 2 ^ n) : a &&& b < 2 ^ n := Nat.lt_of_le_of_lt Nat.and_le_left ha
theorem y_pow_lt {k n : Nat} (h : k < n) : 2 ^ k < 2 ^ n := Nat.pow_lt_pow_right (by decide) h
theorem y_pow_bit (k i : Nat) : (2 ^ k).testBit i = decide (k = i) := Nat.testBit_two_pow
/-- how many bits of twelve -/
def pop : Nat → Nat → Nat
  | 0, _ => 0
  | n + 1, a => pop n a + (if a.testBit n then 1 else 0)
theorem pop_le (n a : Nat) : pop n a ≤ n := by
  induction n with
  | zero => exact Nat.le_refl _
  | succ n ih => rw [pop]; split <;> omega
def bcI (p0 : Int32) : Int32 :=
  let y9 := (p0 - ((p0.toUInt32 >>> ((1 : Int32).toUInt32 &&& Int32.toUInt32 31)).toInt32 &&& (1431655765 : Int32)))
  let y23 := ((y9 &&& (858993459 : Int32)) + ((y9.toUInt32 >>> ((2 : Int32).toUInt32 &&& Int32.toUInt32 31)).toInt32 &&& (858993459 : Int32)))
  let y33 := ((y23 + (y23.toUInt32 >>> ((4 : Int32).toUInt32 &&& Int32.toUInt32 31)).toInt32) &&& (252645135 : Int32))
  let y40 := (y33 + (y33.toUInt32 >>> ((8 : Int32).toUInt32 &&& Int32.toUInt32 31)).toInt32)
  let y47 := (y40 + (y40.toUInt32 >>> ((16 : Int32).toUInt32 &&& Int32.toUInt32 31)).toInt32)
  y47 &&& (63 : Int32)
theorem bcI_pop {a : Nat} (h : a < 4096) : bcI (nI a) = nI (pop 12 a) := co_dec (P := fun a => bcI (nI a) = nI (pop 12 a)) (N := 4096) (by decide +kernel) h
theorem s_bitCount {post : Int32 → Prop} {a : Nat} (h : a < 4096) (hp : post (nI (pop 12 a))) : w_J6_bitCount_0f7a4 post (nI a) := by
  rw [← bcI_pop h] at hp
  unfold w_J6_bitCount_0f7a4
  intro y9 e9 y23 e23 y33 e33 y40 e40 y47 e47
  subst e47; subst e40; subst e33; subst e23; subst e9
  exact hp
def tzI (p0 : Int32) : Int32 :=
  let y := ((p0 ^^^ (-1 : Int32)) &&& (p0 - (1 : Int32)))
  if 0 < y then
    (if y ≤ 4 then 1 + (y.toUInt32 >>> ((1 : Int32).toUInt32 &&& Int32.toUInt32 31)).toInt32
     else if y ≤ 16 then (1 + 2) + ((y.toUInt32 >>> ((2 : Int32).toUInt32 &&& Int32.toUInt32 31)).toInt32.toUInt32 >>> ((1 : Int32).toUInt32 &&& Int32.toUInt32 31)).toInt32
     else
       let z := (y.toUInt32 >>> ((4 : Int32).toUInt32 &&& Int32.toUInt32 31)).toInt32
       if z ≤ 4 then (1 + 4) + (z.toUInt32 >>> ((1 : Int32).toUInt32 &&& Int32.toUInt32 31)).toInt32
       else ((1 + 4) + 2) + ((z.toUInt32 >>> ((2 : Int32).toUInt32 &&& Int32.toUInt32 31)).toInt32.toUInt32 >>> ((1 : Int32).toUInt32 &&& Int32.toUInt32 31)).toInt32)
  else y &&& 32
/-- the lowest bit of eight -/
def lob : Nat → Nat → Nat
  | 0, _ => 0
  | n + 1, a => if a.testBit (8 - (n + 1)) then 8 - (n + 1) else lob n a
theorem tzI_lob {a : Nat} (h : a < 255) : ((nI (a + 1) ^^^ (-1 : Int32)) &&& (nI (a + 1) - (1 : Int32))) ≤ 256 ∧ tzI (nI (a + 1)) = nI (lob 8 (a + 1)) := co_dec (P := fun a => ((nI (a + 1) ^^^ (-1 : Int32)) &&& (nI (a + 1) - (1 : Int32))) ≤ 256 ∧ tzI (nI (a + 1)) = nI (lob 8 (a + 1))) (N := 255) (by decide +kernel) h
theorem s_nTZ {post : Int32 → Prop} {a : Nat} (h0 : 0 < a) (h : a < 256) (hp : post (nI (lob 8 a))) : w_J6_numberOfTrailingZeros_0f7a4 post (nI a) := by
  obtain ⟨b, rfl⟩ : ∃ b, a = b + 1 := ⟨a - 1, by omega⟩
  obtain ⟨h256, he⟩ := tzI_lob (a := b) (by omega)
  rw [← he] at hp
  unfold w_J6_numberOfTrailingZeros_0f7a4
  intro y ey
  unfold tzI at hp
  rw [← ey] at hp h256
  simp only at hp
  refine ⟨fun c1 => ?_, fun c1 => ?_⟩
  · rw [if_pos c1] at hp
    have c2 : y ≤ (65536 : Int32) := Int32.le_trans h256 (by decide)
    refine ⟨fun _ => ?_, fun c => absurd c2 c⟩
    unfold w_J6_numberOfTrailingZeros_0f7a4_B34
    refine ⟨fun _ => ?_, fun c => absurd h256 c⟩
    unfold w_J6_numberOfTrailingZeros_0f7a4_B49
    refine ⟨fun c3 => ?_, fun c3 => ?_⟩
    · unfold w_J6_numberOfTrailingZeros_0f7a4_B62
      refine ⟨fun c4 => ?_, fun c4 => ?_⟩
      · rw [if_pos c4] at hp
        exact hp
      · rw [if_neg c4, if_pos c3] at hp
        intro y73 e73
        subst e73
        exact hp
    · have c4 : ¬ y ≤ 4 := fun c => c3 (Int32.le_trans c (by decide))
      rw [if_neg c4, if_neg c3] at hp
      intro y61 e61
      rw [← e61] at hp
      unfold w_J6_numberOfTrailingZeros_0f7a4_B62
      refine ⟨fun c5 => ?_, fun c5 => ?_⟩
      · rw [if_pos c5] at hp
        exact hp
      · rw [if_neg c5] at hp
        intro y73 e73
        subst e73
        exact hp
  · rw [if_neg c1] at hp
    exact hp
theorem s_bits {post : Int32 → Prop} {a : Nat} (h : a < 2 ^ 31) (hp : post (nI (pop 12 a))) : w_X9_bits post (nI a) := by
  have key : ∀ n k, 12 - k < n → k ≤ 12 → w_X9_bits_B4 post (nI a) n (nI (pop k a)) (nI k) := by
    intro n
    induction n with
    | zero => intro k h1; omega
    | succ n ih =>
      intro k h1 h2
      unfold w_X9_bits_B4
      refine pk_le 12 k (fun h => ?_) (fun h => ?_)
      · rw [show k = 12 by omega]; exact hp
      · intro y17 e17
        rw [y_bit (by omega) (by omega), nI_add] at e17
        have e : nI (pop k a + a / 2 ^ k % 2) = nI (pop (k + 1) a) := by
          rw [pop, y_tb]
          rcases Nat.mod_two_eq_zero_or_one (a / 2 ^ k) with q | q <;> simp [q]
        rw [e17, e, nI_1]
        exact ih (k + 1) (by omega) (by omega)
  exact ⟨13, key 13 0 (by omega) (by omega)⟩
