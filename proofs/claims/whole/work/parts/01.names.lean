-- the words of the tables, out of the skeleton
def lw_okq (q : MethodName × Nat) : Prop := (q.1.cls ≠ "java/lang/invoke/MethodHandle" ∧ q.1.cls ≠ "java/lang/invoke/VarHandle") ∧ Cond.instantiable q.1.cls q.2 ∈ tables_1 ∧ Cond.privateMethod q.1 ∈ tables_1 ∧ Cond.instanceMethod q.1 ∈ tables_1
theorem lw_p0 : lw_okq (⟨"SauceredMilk$Pad", "signAt", "(I)C"⟩, 2) := ⟨⟨by decide +kernel, by decide +kernel⟩, List.mem_of_getElem? (i := 112) (by decide +kernel), List.mem_of_getElem? (i := 277) (by decide +kernel), List.mem_of_getElem? (i := 278) (by decide +kernel)⟩
theorem lw_p1 : lw_okq (⟨"SauceredMilk$Pad", "isMove", "(I)Z"⟩, 2) := ⟨⟨by decide +kernel, by decide +kernel⟩, List.mem_of_getElem? (i := 112) (by decide +kernel), List.mem_of_getElem? (i := 281) (by decide +kernel), List.mem_of_getElem? (i := 282) (by decide +kernel)⟩
theorem lw_p2 : lw_okq (⟨"SauceredMilk$Pad", "isLetter", "(I)Z"⟩, 2) := ⟨⟨by decide +kernel, by decide +kernel⟩, List.mem_of_getElem? (i := 112) (by decide +kernel), List.mem_of_getElem? (i := 285) (by decide +kernel), List.mem_of_getElem? (i := 286) (by decide +kernel)⟩
theorem lw_p3 : lw_okq (⟨"SauceredMilk$Pad", "canFollow", "(I)Z"⟩, 2) := ⟨⟨by decide +kernel, by decide +kernel⟩, List.mem_of_getElem? (i := 112) (by decide +kernel), List.mem_of_getElem? (i := 290) (by decide +kernel), List.mem_of_getElem? (i := 291) (by decide +kernel)⟩
theorem lw_p4 : lw_okq (⟨"SauceredMilk$Hearing", "begin", "(LSauceredMilk$Court;)V"⟩, 5) := ⟨⟨by decide +kernel, by decide +kernel⟩, List.mem_of_getElem? (i := 128) (by decide +kernel), List.mem_of_getElem? (i := 302) (by decide +kernel), List.mem_of_getElem? (i := 303) (by decide +kernel)⟩
theorem lw_p5 : lw_okq (⟨"SauceredMilk$Hearing", "take", "(CI)V"⟩, 5) := ⟨⟨by decide +kernel, by decide +kernel⟩, List.mem_of_getElem? (i := 128) (by decide +kernel), List.mem_of_getElem? (i := 322) (by decide +kernel), List.mem_of_getElem? (i := 323) (by decide +kernel)⟩
theorem lw_p6 : lw_okq (⟨"SauceredMilk$Court", "whyNotTo", "(CI)I"⟩, 8) := ⟨⟨by decide +kernel, by decide +kernel⟩, List.mem_of_getElem? (i := 30) (by decide +kernel), List.mem_of_getElem? (i := 335) (by decide +kernel), List.mem_of_getElem? (i := 336) (by decide +kernel)⟩
theorem lw_p7 : lw_okq (⟨"SauceredMilk$Court", "placesOff", "(I)I"⟩, 8) := ⟨⟨by decide +kernel, by decide +kernel⟩, List.mem_of_getElem? (i := 30) (by decide +kernel), List.mem_of_getElem? (i := 343) (by decide +kernel), List.mem_of_getElem? (i := 344) (by decide +kernel)⟩
theorem lw_p8 : lw_okq (⟨"SauceredMilk$Court", "passHour", "()V"⟩, 8) := ⟨⟨by decide +kernel, by decide +kernel⟩, List.mem_of_getElem? (i := 30) (by decide +kernel), List.mem_of_getElem? (i := 358) (by decide +kernel), List.mem_of_getElem? (i := 359) (by decide +kernel)⟩
theorem lw_p9 : lw_okq (⟨"SauceredMilk$Court", "spoil", "(II)V"⟩, 8) := ⟨⟨by decide +kernel, by decide +kernel⟩, List.mem_of_getElem? (i := 30) (by decide +kernel), List.mem_of_getElem? (i := 373) (by decide +kernel), List.mem_of_getElem? (i := 374) (by decide +kernel)⟩
theorem lw_p10 : lw_okq (⟨"SauceredMilk$Court", "refill", "(I)V"⟩, 8) := ⟨⟨by decide +kernel, by decide +kernel⟩, List.mem_of_getElem? (i := 30) (by decide +kernel), List.mem_of_getElem? (i := 380) (by decide +kernel), List.mem_of_getElem? (i := 381) (by decide +kernel)⟩
theorem lw_p11 : lw_okq (⟨"SauceredMilk$Hearing", "noteOff", "(I)V"⟩, 5) := ⟨⟨by decide +kernel, by decide +kernel⟩, List.mem_of_getElem? (i := 128) (by decide +kernel), List.mem_of_getElem? (i := 384) (by decide +kernel), List.mem_of_getElem? (i := 385) (by decide +kernel)⟩
theorem lw_p12 : lw_okq (⟨"SauceredMilk$Bowls", "withFirst", "(II)I"⟩, 1) := ⟨⟨by decide +kernel, by decide +kernel⟩, List.mem_of_getElem? (i := 157) (by decide +kernel), List.mem_of_getElem? (i := 430) (by decide +kernel), List.mem_of_getElem? (i := 431) (by decide +kernel)⟩
theorem lw_p13 : lw_okq (⟨"SauceredMilk$Town", "besideAny", "(I)I"⟩, 2) := ⟨⟨by decide +kernel, by decide +kernel⟩, List.mem_of_getElem? (i := 67) (by decide +kernel), List.mem_of_getElem? (i := 456) (by decide +kernel), List.mem_of_getElem? (i := 457) (by decide +kernel)⟩
theorem lw_p14 : lw_okq (⟨"SauceredMilk", "toldOfWitness", "(II)I"⟩, 6) := ⟨⟨by decide +kernel, by decide +kernel⟩, List.mem_of_getElem? (i := 16) (by decide +kernel), List.mem_of_getElem? (i := 623) (by decide +kernel), List.mem_of_getElem? (i := 624) (by decide +kernel)⟩
theorem lw_p15 : lw_okq (⟨"SauceredMilkModel", "faultOf", "()I"⟩, 21) := ⟨⟨by decide +kernel, by decide +kernel⟩, List.mem_of_getElem? (i := 631) (by decide +kernel), List.mem_of_getElem? (i := 739) (by decide +kernel), List.mem_of_getElem? (i := 740) (by decide +kernel)⟩
def lw_privs_1 : List (MethodName × Nat) := [(⟨"SauceredMilk$Pad", "signAt", "(I)C"⟩, 2), (⟨"SauceredMilk$Pad", "isMove", "(I)Z"⟩, 2), (⟨"SauceredMilk$Pad", "isLetter", "(I)Z"⟩, 2), (⟨"SauceredMilk$Pad", "canFollow", "(I)Z"⟩, 2), (⟨"SauceredMilk$Hearing", "begin", "(LSauceredMilk$Court;)V"⟩, 5), (⟨"SauceredMilk$Hearing", "take", "(CI)V"⟩, 5), (⟨"SauceredMilk$Court", "whyNotTo", "(CI)I"⟩, 8), (⟨"SauceredMilk$Court", "placesOff", "(I)I"⟩, 8), (⟨"SauceredMilk$Court", "passHour", "()V"⟩, 8), (⟨"SauceredMilk$Court", "spoil", "(II)V"⟩, 8), (⟨"SauceredMilk$Court", "refill", "(I)V"⟩, 8), (⟨"SauceredMilk$Hearing", "noteOff", "(I)V"⟩, 5), (⟨"SauceredMilk$Bowls", "withFirst", "(II)I"⟩, 1), (⟨"SauceredMilk$Town", "besideAny", "(I)I"⟩, 2), (⟨"SauceredMilk", "toldOfWitness", "(II)I"⟩, 6), (⟨"SauceredMilkModel", "faultOf", "()I"⟩, 21)]
theorem lw_r1 : ∀ q ∈ lw_privs_1, lw_okq q := List.forall_mem_cons.mpr ⟨lw_p0, List.forall_mem_cons.mpr ⟨lw_p1, List.forall_mem_cons.mpr ⟨lw_p2, List.forall_mem_cons.mpr ⟨lw_p3, List.forall_mem_cons.mpr ⟨lw_p4, List.forall_mem_cons.mpr ⟨lw_p5, List.forall_mem_cons.mpr ⟨lw_p6, List.forall_mem_cons.mpr ⟨lw_p7, List.forall_mem_cons.mpr ⟨lw_p8, List.forall_mem_cons.mpr ⟨lw_p9, List.forall_mem_cons.mpr ⟨lw_p10, List.forall_mem_cons.mpr ⟨lw_p11, List.forall_mem_cons.mpr ⟨lw_p12, List.forall_mem_cons.mpr ⟨lw_p13, List.forall_mem_cons.mpr ⟨lw_p14, List.forall_mem_cons.mpr ⟨lw_p15, fun _ h => absurd h List.not_mem_nil⟩⟩⟩⟩⟩⟩⟩⟩⟩⟩⟩⟩⟩⟩⟩⟩
theorem lw_p16 : lw_okq (⟨"SauceredMilkModel", "goTerms", "()I"⟩, 21) := ⟨⟨by decide +kernel, by decide +kernel⟩, List.mem_of_getElem? (i := 631) (by decide +kernel), List.mem_of_getElem? (i := 747) (by decide +kernel), List.mem_of_getElem? (i := 748) (by decide +kernel)⟩
theorem lw_p17 : lw_okq (⟨"SauceredMilkModel", "asNow", "()V"⟩, 21) := ⟨⟨by decide +kernel, by decide +kernel⟩, List.mem_of_getElem? (i := 631) (by decide +kernel), List.mem_of_getElem? (i := 751) (by decide +kernel), List.mem_of_getElem? (i := 752) (by decide +kernel)⟩
theorem lw_p18 : lw_okq (⟨"SauceredMilkModel", "offOnes", "()I"⟩, 21) := ⟨⟨by decide +kernel, by decide +kernel⟩, List.mem_of_getElem? (i := 631) (by decide +kernel), List.mem_of_getElem? (i := 755) (by decide +kernel), List.mem_of_getElem? (i := 756) (by decide +kernel)⟩
theorem lw_p19 : lw_okq (⟨"SauceredMilkModel", "sits", "(I)Z"⟩, 21) := ⟨⟨by decide +kernel, by decide +kernel⟩, List.mem_of_getElem? (i := 631) (by decide +kernel), List.mem_of_getElem? (i := 759) (by decide +kernel), List.mem_of_getElem? (i := 760) (by decide +kernel)⟩
theorem lw_p20 : lw_okq (⟨"SauceredMilkModel", "endHour", "()I"⟩, 21) := ⟨⟨by decide +kernel, by decide +kernel⟩, List.mem_of_getElem? (i := 631) (by decide +kernel), List.mem_of_getElem? (i := 766) (by decide +kernel), List.mem_of_getElem? (i := 767) (by decide +kernel)⟩
theorem lw_p21 : lw_okq (⟨"SauceredMilkModel", "hourly", "(I)I"⟩, 21) := ⟨⟨by decide +kernel, by decide +kernel⟩, List.mem_of_getElem? (i := 631) (by decide +kernel), List.mem_of_getElem? (i := 770) (by decide +kernel), List.mem_of_getElem? (i := 771) (by decide +kernel)⟩
theorem lw_p22 : lw_okq (⟨"SauceredMilkModel", "farFrom", "(I)I"⟩, 21) := ⟨⟨by decide +kernel, by decide +kernel⟩, List.mem_of_getElem? (i := 631) (by decide +kernel), List.mem_of_getElem? (i := 774) (by decide +kernel), List.mem_of_getElem? (i := 775) (by decide +kernel)⟩
theorem lw_p23 : lw_okq (⟨"SauceredMilkModel", "lose", "(II)V"⟩, 21) := ⟨⟨by decide +kernel, by decide +kernel⟩, List.mem_of_getElem? (i := 631) (by decide +kernel), List.mem_of_getElem? (i := 778) (by decide +kernel), List.mem_of_getElem? (i := 779) (by decide +kernel)⟩
theorem lw_p24 : lw_okq (⟨"SauceredMilkModel", "step", "(I)I"⟩, 21) := ⟨⟨by decide +kernel, by decide +kernel⟩, List.mem_of_getElem? (i := 631) (by decide +kernel), List.mem_of_getElem? (i := 782) (by decide +kernel), List.mem_of_getElem? (i := 783) (by decide +kernel)⟩
theorem lw_p25 : lw_okq (⟨"SauceredMilkModel", "witnessAct", "(II)I"⟩, 21) := ⟨⟨by decide +kernel, by decide +kernel⟩, List.mem_of_getElem? (i := 631) (by decide +kernel), List.mem_of_getElem? (i := 786) (by decide +kernel), List.mem_of_getElem? (i := 787) (by decide +kernel)⟩
theorem lw_p26 : lw_okq (⟨"SauceredMilkModel", "bend", "(I)I"⟩, 21) := ⟨⟨by decide +kernel, by decide +kernel⟩, List.mem_of_getElem? (i := 631) (by decide +kernel), List.mem_of_getElem? (i := 790) (by decide +kernel), List.mem_of_getElem? (i := 791) (by decide +kernel)⟩
theorem lw_p27 : lw_okq (⟨"SauceredMilkModel", "fill", "(I)I"⟩, 21) := ⟨⟨by decide +kernel, by decide +kernel⟩, List.mem_of_getElem? (i := 631) (by decide +kernel), List.mem_of_getElem? (i := 794) (by decide +kernel), List.mem_of_getElem? (i := 795) (by decide +kernel)⟩
theorem lw_p28 : lw_okq (⟨"SauceredMilkModel", "thinkAgain", "(I)I"⟩, 21) := ⟨⟨by decide +kernel, by decide +kernel⟩, List.mem_of_getElem? (i := 631) (by decide +kernel), List.mem_of_getElem? (i := 798) (by decide +kernel), List.mem_of_getElem? (i := 799) (by decide +kernel)⟩
theorem lw_p29 : lw_okq (⟨"SauceredMilkModel", "letGo", "(I)I"⟩, 21) := ⟨⟨by decide +kernel, by decide +kernel⟩, List.mem_of_getElem? (i := 631) (by decide +kernel), List.mem_of_getElem? (i := 802) (by decide +kernel), List.mem_of_getElem? (i := 803) (by decide +kernel)⟩
theorem lw_p30 : lw_okq (⟨"SauceredMilkModel", "barOfTerms", "()I"⟩, 21) := ⟨⟨by decide +kernel, by decide +kernel⟩, List.mem_of_getElem? (i := 631) (by decide +kernel), List.mem_of_getElem? (i := 810) (by decide +kernel), List.mem_of_getElem? (i := 811) (by decide +kernel)⟩
theorem lw_p31 : lw_okq (⟨"SauceredMilkModel", "isThere", "(I)Z"⟩, 21) := ⟨⟨by decide +kernel, by decide +kernel⟩, List.mem_of_getElem? (i := 631) (by decide +kernel), List.mem_of_getElem? (i := 818) (by decide +kernel), List.mem_of_getElem? (i := 819) (by decide +kernel)⟩
def lw_privs_2 : List (MethodName × Nat) := [(⟨"SauceredMilkModel", "goTerms", "()I"⟩, 21), (⟨"SauceredMilkModel", "asNow", "()V"⟩, 21), (⟨"SauceredMilkModel", "offOnes", "()I"⟩, 21), (⟨"SauceredMilkModel", "sits", "(I)Z"⟩, 21), (⟨"SauceredMilkModel", "endHour", "()I"⟩, 21), (⟨"SauceredMilkModel", "hourly", "(I)I"⟩, 21), (⟨"SauceredMilkModel", "farFrom", "(I)I"⟩, 21), (⟨"SauceredMilkModel", "lose", "(II)V"⟩, 21), (⟨"SauceredMilkModel", "step", "(I)I"⟩, 21), (⟨"SauceredMilkModel", "witnessAct", "(II)I"⟩, 21), (⟨"SauceredMilkModel", "bend", "(I)I"⟩, 21), (⟨"SauceredMilkModel", "fill", "(I)I"⟩, 21), (⟨"SauceredMilkModel", "thinkAgain", "(I)I"⟩, 21), (⟨"SauceredMilkModel", "letGo", "(I)I"⟩, 21), (⟨"SauceredMilkModel", "barOfTerms", "()I"⟩, 21), (⟨"SauceredMilkModel", "isThere", "(I)Z"⟩, 21)]
theorem lw_r2 : ∀ q ∈ lw_privs_2, lw_okq q := List.forall_mem_cons.mpr ⟨lw_p16, List.forall_mem_cons.mpr ⟨lw_p17, List.forall_mem_cons.mpr ⟨lw_p18, List.forall_mem_cons.mpr ⟨lw_p19, List.forall_mem_cons.mpr ⟨lw_p20, List.forall_mem_cons.mpr ⟨lw_p21, List.forall_mem_cons.mpr ⟨lw_p22, List.forall_mem_cons.mpr ⟨lw_p23, List.forall_mem_cons.mpr ⟨lw_p24, List.forall_mem_cons.mpr ⟨lw_p25, List.forall_mem_cons.mpr ⟨lw_p26, List.forall_mem_cons.mpr ⟨lw_p27, List.forall_mem_cons.mpr ⟨lw_p28, List.forall_mem_cons.mpr ⟨lw_p29, List.forall_mem_cons.mpr ⟨lw_p30, List.forall_mem_cons.mpr ⟨lw_p31, fun _ h => absurd h List.not_mem_nil⟩⟩⟩⟩⟩⟩⟩⟩⟩⟩⟩⟩⟩⟩⟩⟩
theorem lw_p32 : lw_okq (⟨"SauceredMilkModel", "freeCells", "(I)I"⟩, 21) := ⟨⟨by decide +kernel, by decide +kernel⟩, List.mem_of_getElem? (i := 631) (by decide +kernel), List.mem_of_getElem? (i := 839) (by decide +kernel), List.mem_of_getElem? (i := 840) (by decide +kernel)⟩
theorem lw_p33 : lw_okq (⟨"SauceredMilkModel", "stepsBy", "(III)I"⟩, 21) := ⟨⟨by decide +kernel, by decide +kernel⟩, List.mem_of_getElem? (i := 631) (by decide +kernel), List.mem_of_getElem? (i := 843) (by decide +kernel), List.mem_of_getElem? (i := 844) (by decide +kernel)⟩
theorem lw_p34 : lw_okq (⟨"SauceredMilkModel", "layRows", "(I)V"⟩, 21) := ⟨⟨by decide +kernel, by decide +kernel⟩, List.mem_of_getElem? (i := 631) (by decide +kernel), List.mem_of_getElem? (i := 855) (by decide +kernel), List.mem_of_getElem? (i := 856) (by decide +kernel)⟩
theorem lw_p35 : lw_okq (⟨"SauceredMilkModel", "isFit", "(I)Z"⟩, 21) := ⟨⟨by decide +kernel, by decide +kernel⟩, List.mem_of_getElem? (i := 631) (by decide +kernel), List.mem_of_getElem? (i := 877) (by decide +kernel), List.mem_of_getElem? (i := 878) (by decide +kernel)⟩
def lw_privs_3 : List (MethodName × Nat) := [(⟨"SauceredMilkModel", "freeCells", "(I)I"⟩, 21), (⟨"SauceredMilkModel", "stepsBy", "(III)I"⟩, 21), (⟨"SauceredMilkModel", "layRows", "(I)V"⟩, 21), (⟨"SauceredMilkModel", "isFit", "(I)Z"⟩, 21)]
theorem lw_r3 : ∀ q ∈ lw_privs_3, lw_okq q := List.forall_mem_cons.mpr ⟨lw_p32, List.forall_mem_cons.mpr ⟨lw_p33, List.forall_mem_cons.mpr ⟨lw_p34, List.forall_mem_cons.mpr ⟨lw_p35, fun _ h => absurd h List.not_mem_nil⟩⟩⟩⟩
def lw_privs : List (MethodName × Nat) := lw_privs_1 ++ (lw_privs_2 ++ (lw_privs_3))
def lw_tbl : List Cond := k2_sels lw_privs ++ tables_1
theorem lw_privs_ok : ∀ q ∈ lw_privs, lw_okq q := by
  show ∀ q ∈ lw_privs_1 ++ (lw_privs_2 ++ (lw_privs_3)), lw_okq q
  exact List.forall_mem_append.mpr ⟨lw_r1, List.forall_mem_append.mpr ⟨lw_r2, lw_r3⟩⟩
def RX0 : String := "SauceredMilk$Bowls"
def TX0 : u_T := fun k => match k with
  | _ => ("SauceredMilk$Bowls", "fewest", "[I", true)
def tyX0 : Nat → FieldType := fun k => match k with
  | _ => .array .int
abbrev wsX00 : List Cond := u_ws RX0 TX0 1
theorem nmX0 : ∀ a, a < 1 → ∀ b, b < 1 → a ≠ b → (TX0 a).2.1 ≠ (TX0 b).2.1 := by decide +kernel
theorem tyX0_ok : ∀ k, k < 1 → parseFieldDescriptor (TX0 k).2.2.1 = some (tyX0 k) := by decide +kernel
abbrev cX0_init : ByteArray := prog_2_method_1_code
def yX0_init : MethodName := ⟨RX0, "<init>", "()V"⟩
abbrev cX0_weigh : ByteArray := prog_2_method_2_code
def yX0_weigh : MethodName := ⟨RX0, "weigh", "(II)V"⟩
abbrev cX0_fewestFor : ByteArray := prog_2_method_3_code
def yX0_fewestFor : MethodName := ⟨RX0, "fewestFor", "(I)I"⟩
abbrev cX0_leastFirst : ByteArray := prog_2_method_4_code
def yX0_leastFirst : MethodName := ⟨RX0, "leastFirst", "(II)I"⟩
abbrev cX0_withFirst : ByteArray := prog_2_method_5_code
def yX0_withFirst : MethodName := ⟨RX0, "withFirst", "(II)I"⟩
def RX1 : String := "SauceredMilk$Court"
def TX1 : u_T := fun k => match k with
  | 0 => ("SauceredMilk$Court", "places", "[I", true)
  | 1 => ("SauceredMilk$Court", "creams", "[I", true)
  | 2 => ("SauceredMilk$Court", "present", "I", false)
  | 3 => ("SauceredMilk$Court", "lying", "I", false)
  | 4 => ("SauceredMilk$Court", "his", "I", false)
  | 5 => ("SauceredMilk$Court", "power", "I", false)
  | 6 => ("SauceredMilk$Court", "spite", "I", false)
  | _ => ("SauceredMilk$Court", "hour", "I", false)
def tyX1 : Nat → FieldType := fun k => match k with
  | 0 => .array .int
  | 1 => .array .int
  | 2 => .int
  | 3 => .int
  | 4 => .int
  | 5 => .int
  | 6 => .int
  | _ => .int
abbrev wsX10 : List Cond := u_ws RX1 TX1 8
theorem nmX1 : ∀ a, a < 8 → ∀ b, b < 8 → a ≠ b → (TX1 a).2.1 ≠ (TX1 b).2.1 := by decide +kernel
theorem tyX1_ok : ∀ k, k < 8 → parseFieldDescriptor (TX1 k).2.2.1 = some (tyX1 k) := by decide +kernel
abbrev cX1_init : ByteArray := prog_3_method_1_code
def yX1_init : MethodName := ⟨RX1, "<init>", "()V"⟩
abbrev cX1_become : ByteArray := prog_3_method_2_code
def yX1_become : MethodName := ⟨RX1, "become", "(LSauceredMilk$Court;)V"⟩
abbrev cX1_seat : ByteArray := prog_3_method_3_code
def yX1_seat : MethodName := ⟨RX1, "seat", "(IIZI)V"⟩
abbrev cX1_has : ByteArray := prog_3_method_4_code
def yX1_has : MethodName := ⟨RX1, "has", "(I)Z"⟩
abbrev cX1_isLiar : ByteArray := prog_3_method_5_code
def yX1_isLiar : MethodName := ⟨RX1, "isLiar", "(I)Z"⟩
abbrev cX1_liars : ByteArray := prog_3_method_6_code
def yX1_liars : MethodName := ⟨RX1, "liars", "()I"⟩
abbrev cX1_placeOf : ByteArray := prog_3_method_7_code
def yX1_placeOf : MethodName := ⟨RX1, "placeOf", "(I)I"⟩
abbrev cX1_creamOf : ByteArray := prog_3_method_8_code
def yX1_creamOf : MethodName := ⟨RX1, "creamOf", "(I)I"⟩
abbrev cX1_offOnes : ByteArray := prog_3_method_9_code
def yX1_offOnes : MethodName := ⟨RX1, "offOnes", "()I"⟩
abbrev cX1_creamInAll : ByteArray := prog_3_method_10_code
def yX1_creamInAll : MethodName := ⟨RX1, "creamInAll", "()I"⟩
abbrev cX1_lossInAnHour : ByteArray := prog_3_method_11_code
def yX1_lossInAnHour : MethodName := ⟨RX1, "lossInAnHour", "(I)I"⟩
abbrev cX1_whyNot : ByteArray := prog_3_method_12_code
def yX1_whyNot : MethodName := ⟨RX1, "whyNot", "(CI)I"⟩
abbrev cX1_whyNotTo : ByteArray := prog_3_method_13_code
def yX1_whyNotTo : MethodName := ⟨RX1, "whyNotTo", "(CI)I"⟩
abbrev cX1_act : ByteArray := prog_3_method_14_code
def yX1_act : MethodName := ⟨RX1, "act", "(CI)V"⟩
abbrev cX1_passHour : ByteArray := prog_3_method_15_code
def yX1_passHour : MethodName := ⟨RX1, "passHour", "()V"⟩
abbrev cX1_spoil : ByteArray := prog_3_method_16_code
def yX1_spoil : MethodName := ⟨RX1, "spoil", "(II)V"⟩
abbrev cX1_refill : ByteArray := prog_3_method_17_code
def yX1_refill : MethodName := ⟨RX1, "refill", "(I)V"⟩
abbrev cX1_placesOff : ByteArray := prog_3_method_18_code
def yX1_placesOff : MethodName := ⟨RX1, "placesOff", "(I)I"⟩
def RX2 : String := "SauceredMilk$Guesses"
def TX2 : u_T := fun k => match k with
  | 0 => ("SauceredMilk$Guesses", "fitting", "[I", true)
  | 1 => ("SauceredMilk$Guesses", "tally", "[I", true)
  | _ => ("SauceredMilk$Guesses", "count", "I", false)
def tyX2 : Nat → FieldType := fun k => match k with
  | 0 => .array .int
  | 1 => .array .int
  | _ => .int
abbrev wsX20 : List Cond := u_ws RX2 TX2 3
theorem nmX2 : ∀ a, a < 3 → ∀ b, b < 3 → a ≠ b → (TX2 a).2.1 ≠ (TX2 b).2.1 := by decide +kernel
theorem tyX2_ok : ∀ k, k < 3 → parseFieldDescriptor (TX2 k).2.2.1 = some (tyX2 k) := by decide +kernel
abbrev cX2_init : ByteArray := prog_4_method_1_code
def yX2_init : MethodName := ⟨RX2, "<init>", "()V"⟩
abbrev cX2_gather : ByteArray := prog_4_method_2_code
def yX2_gather : MethodName := ⟨RX2, "gather", "(LSauceredMilk$Sights;)V"⟩
abbrev cX2_guessAt : ByteArray := prog_4_method_3_code
def yX2_guessAt : MethodName := ⟨RX2, "guessAt", "(I)I"⟩
abbrev cX2_bestSaucer : ByteArray := prog_4_method_4_code
def yX2_bestSaucer : MethodName := ⟨RX2, "bestSaucer", "()I"⟩
abbrev cX2_leftAtMost : ByteArray := prog_4_method_5_code
def yX2_leftAtMost : MethodName := ⟨RX2, "leftAtMost", "(I)I"⟩
def RX3 : String := "SauceredMilk$Hearing"
def TX3 : u_T := fun k => match k with
  | 0 => ("SauceredMilk$Hearing", "court", "LSauceredMilk$Court;", true)
  | 1 => ("SauceredMilk$Hearing", "acts", "I", false)
  | 2 => ("SauceredMilk$Hearing", "reason", "I", false)
  | 3 => ("SauceredMilk$Hearing", "firstOffAct", "I", false)
  | _ => ("SauceredMilk$Hearing", "firstOffWitness", "I", false)
def tyX3 : Nat → FieldType := fun k => match k with
  | 0 => .object "SauceredMilk$Court"
  | 1 => .int
  | 2 => .int
  | 3 => .int
  | _ => .int
abbrev wsX30 : List Cond := u_ws RX3 TX3 5
theorem nmX3 : ∀ a, a < 5 → ∀ b, b < 5 → a ≠ b → (TX3 a).2.1 ≠ (TX3 b).2.1 := by decide +kernel
theorem tyX3_ok : ∀ k, k < 5 → parseFieldDescriptor (TX3 k).2.2.1 = some (tyX3 k) := by decide +kernel
abbrev cX3_init : ByteArray := prog_5_method_1_code
def yX3_init : MethodName := ⟨RX3, "<init>", "()V"⟩
abbrev cX3_hear : ByteArray := prog_5_method_2_code
def yX3_hear : MethodName := ⟨RX3, "hear", "(LSauceredMilk$Court;LSauceredMilk$Pad;)V"⟩
abbrev cX3_draw : ByteArray := prog_5_method_3_code
def yX3_draw : MethodName := ⟨RX3, "draw", "(LSauceredMilk$Court;II)V"⟩
abbrev cX3_begin : ByteArray := prog_5_method_4_code
def yX3_begin : MethodName := ⟨RX3, "begin", "(LSauceredMilk$Court;)V"⟩
abbrev cX3_take : ByteArray := prog_5_method_5_code
def yX3_take : MethodName := ⟨RX3, "take", "(CI)V"⟩
abbrev cX3_noteOff : ByteArray := prog_5_method_6_code
def yX3_noteOff : MethodName := ⟨RX3, "noteOff", "(I)V"⟩
abbrev cX3_drawnKind : ByteArray := prog_5_method_7_code
def yX3_drawnKind : MethodName := ⟨RX3, "drawnKind", "(I)C"⟩
abbrev cX3_drawnNumber : ByteArray := prog_5_method_8_code
def yX3_drawnNumber : MethodName := ⟨RX3, "drawnNumber", "(CI)I"⟩
def RX4 : String := "SauceredMilk$Pad"
def TX4 : u_T := fun k => match k with
  | 0 => ("SauceredMilk$Pad", "signs", "[C", true)
  | _ => ("SauceredMilk$Pad", "count", "I", false)
def tyX4 : Nat → FieldType := fun k => match k with
  | 0 => .array .char
  | _ => .int
abbrev wsX40 : List Cond := u_ws RX4 TX4 2
theorem nmX4 : ∀ a, a < 2 → ∀ b, b < 2 → a ≠ b → (TX4 a).2.1 ≠ (TX4 b).2.1 := by decide +kernel
theorem tyX4_ok : ∀ k, k < 2 → parseFieldDescriptor (TX4 k).2.2.1 = some (tyX4 k) := by decide +kernel
abbrev cX4_init : ByteArray := prog_6_method_1_code
def yX4_init : MethodName := ⟨RX4, "<init>", "()V"⟩
abbrev cX4_write : ByteArray := prog_6_method_2_code
def yX4_write : MethodName := ⟨RX4, "write", "(C)V"⟩
abbrev cX4_firstFault : ByteArray := prog_6_method_3_code
def yX4_firstFault : MethodName := ⟨RX4, "firstFault", "()I"⟩
abbrev cX4_canFollow : ByteArray := prog_6_method_4_code
def yX4_canFollow : MethodName := ⟨RX4, "canFollow", "(I)Z"⟩
abbrev cX4_kindAt : ByteArray := prog_6_method_5_code
def yX4_kindAt : MethodName := ⟨RX4, "kindAt", "(I)C"⟩
abbrev cX4_numberAt : ByteArray := prog_6_method_6_code
def yX4_numberAt : MethodName := ⟨RX4, "numberAt", "(I)I"⟩
abbrev cX4_isHour : ByteArray := prog_6_method_7_code
def yX4_isHour : MethodName := ⟨RX4, "isHour", "(I)Z"⟩
abbrev cX4_isMove : ByteArray := prog_6_method_8_code
def yX4_isMove : MethodName := ⟨RX4, "isMove", "(I)Z"⟩
abbrev cX4_isLetter : ByteArray := prog_6_method_9_code
def yX4_isLetter : MethodName := ⟨RX4, "isLetter", "(I)Z"⟩
abbrev cX4_signAt : ByteArray := prog_6_method_10_code
def yX4_signAt : MethodName := ⟨RX4, "signAt", "(I)C"⟩
def RX5 : String := "SauceredMilk$Sights"
def TX5 : u_T := fun k => match k with
  | 0 => ("SauceredMilk$Sights", "saucers", "[I", true)
  | 1 => ("SauceredMilk$Sights", "losses", "[I", true)
  | _ => ("SauceredMilk$Sights", "count", "I", false)
def tyX5 : Nat → FieldType := fun k => match k with
  | 0 => .array .int
  | 1 => .array .int
  | _ => .int
abbrev wsX50 : List Cond := u_ws RX5 TX5 3
theorem nmX5 : ∀ a, a < 3 → ∀ b, b < 3 → a ≠ b → (TX5 a).2.1 ≠ (TX5 b).2.1 := by decide +kernel
theorem tyX5_ok : ∀ k, k < 3 → parseFieldDescriptor (TX5 k).2.2.1 = some (tyX5 k) := by decide +kernel
abbrev cX5_init : ByteArray := prog_7_method_1_code
def yX5_init : MethodName := ⟨RX5, "<init>", "()V"⟩
abbrev cX5_become : ByteArray := prog_7_method_2_code
def yX5_become : MethodName := ⟨RX5, "become", "(LSauceredMilk$Sights;)V"⟩
abbrev cX5_keep : ByteArray := prog_7_method_3_code
def yX5_keep : MethodName := ⟨RX5, "keep", "(II)V"⟩
abbrev cX5_allowGuess : ByteArray := prog_7_method_4_code
def yX5_allowGuess : MethodName := ⟨RX5, "allowGuess", "(I)Z"⟩
abbrev cX5_lossIf : ByteArray := prog_7_method_5_code
def yX5_lossIf : MethodName := ⟨RX5, "lossIf", "(II)I"⟩
def RX6 : String := "SauceredMilk$Town"
def TX6 : u_T := fun k => match k with
  | 0 => ("SauceredMilk$Town", "ways", "[I", true)
  | _ => ("SauceredMilk$Town", "milky", "I", false)
def tyX6 : Nat → FieldType := fun k => match k with
  | 0 => .array .int
  | _ => .int
abbrev wsX60 : List Cond := u_ws RX6 TX6 2
theorem nmX6 : ∀ a, a < 2 → ∀ b, b < 2 → a ≠ b → (TX6 a).2.1 ≠ (TX6 b).2.1 := by decide +kernel
theorem tyX6_ok : ∀ k, k < 2 → parseFieldDescriptor (TX6 k).2.2.1 = some (tyX6 k) := by decide +kernel
abbrev cX6_init : ByteArray := prog_8_method_1_code
def yX6_init : MethodName := ⟨RX6, "<init>", "()V"⟩
abbrev cX6_become : ByteArray := prog_8_method_2_code
def yX6_become : MethodName := ⟨RX6, "become", "(LSauceredMilk$Town;)V"⟩
abbrev cX6_lead : ByteArray := prog_8_method_3_code
def yX6_lead : MethodName := ⟨RX6, "lead", "(IIZ)V"⟩
abbrev cX6_countWays : ByteArray := prog_8_method_4_code
def yX6_countWays : MethodName := ⟨RX6, "countWays", "()I"⟩
abbrev cX6_waysFrom : ByteArray := prog_8_method_5_code
def yX6_waysFrom : MethodName := ⟨RX6, "waysFrom", "(I)I"⟩
abbrev cX6_safeCells : ByteArray := prog_8_method_6_code
def yX6_safeCells : MethodName := ⟨RX6, "safeCells", "(I)I"⟩
abbrev cX6_besideAny : ByteArray := prog_8_method_7_code
def yX6_besideAny : MethodName := ⟨RX6, "besideAny", "(I)I"⟩
abbrev cX6_steps : ByteArray := prog_8_method_8_code
def yX6_steps : MethodName := ⟨RX6, "steps", "(III)I"⟩
abbrev cX6_firstCell : ByteArray := prog_8_method_9_code
def yX6_firstCell : MethodName := ⟨RX6, "firstCell", "(III)I"⟩
abbrev cX6_fewestToEmpty : ByteArray := prog_8_method_10_code
def yX6_fewestToEmpty : MethodName := ⟨RX6, "fewestToEmpty", "(II)I"⟩
def RX7 : String := "SauceredMilk$World"
def TX7 : u_T := fun k => match k with
  | 0 => ("SauceredMilk$World", "court", "LSauceredMilk$Court;", true)
  | 1 => ("SauceredMilk$World", "town", "LSauceredMilk$Town;", true)
  | _ => ("SauceredMilk$World", "sights", "LSauceredMilk$Sights;", true)
def tyX7 : Nat → FieldType := fun k => match k with
  | 0 => .object "SauceredMilk$Court"
  | 1 => .object "SauceredMilk$Town"
  | _ => .object "SauceredMilk$Sights"
abbrev wsX70 : List Cond := u_ws RX7 TX7 3
theorem nmX7 : ∀ a, a < 3 → ∀ b, b < 3 → a ≠ b → (TX7 a).2.1 ≠ (TX7 b).2.1 := by decide +kernel
theorem tyX7_ok : ∀ k, k < 3 → parseFieldDescriptor (TX7 k).2.2.1 = some (tyX7 k) := by decide +kernel
abbrev cX7_init : ByteArray := prog_9_method_1_code
def yX7_init : MethodName := ⟨RX7, "<init>", "()V"⟩
abbrev cX7_become : ByteArray := prog_9_method_2_code
def yX7_become : MethodName := ⟨RX7, "become", "(LSauceredMilk$World;)V"⟩
def RX8 : String := "SauceredMilk"
def TX8 : u_T := fun k => match k with
  | 0 => ("SauceredMilk", "world", "LSauceredMilk$World;", true)
  | 1 => ("SauceredMilk", "images", "[LSauceredMilk$World;", true)
  | 2 => ("SauceredMilk", "pad", "LSauceredMilk$Pad;", true)
  | 3 => ("SauceredMilk", "hearing", "LSauceredMilk$Hearing;", true)
  | 4 => ("SauceredMilk", "bowls", "LSauceredMilk$Bowls;", true)
  | _ => ("SauceredMilk", "guesses", "LSauceredMilk$Guesses;", true)
def tyX8 : Nat → FieldType := fun k => match k with
  | 0 => .object "SauceredMilk$World"
  | 1 => .array (.object "SauceredMilk$World")
  | 2 => .object "SauceredMilk$Pad"
  | 3 => .object "SauceredMilk$Hearing"
  | 4 => .object "SauceredMilk$Bowls"
  | _ => .object "SauceredMilk$Guesses"
abbrev wsX80 : List Cond := u_ws RX8 TX8 6
theorem nmX8 : ∀ a, a < 6 → ∀ b, b < 6 → a ≠ b → (TX8 a).2.1 ≠ (TX8 b).2.1 := by decide +kernel
theorem tyX8_ok : ∀ k, k < 6 → parseFieldDescriptor (TX8 k).2.2.1 = some (tyX8 k) := by decide +kernel
abbrev cX8_init : ByteArray := prog_1_method_1_code
def yX8_init : MethodName := ⟨RX8, "<init>", "()V"⟩
abbrev cX8_witness : ByteArray := prog_1_method_2_code
def yX8_witness : MethodName := ⟨RX8, "witness", "(IIZI)I"⟩
abbrev cX8_he : ByteArray := prog_1_method_3_code
def yX8_he : MethodName := ⟨RX8, "he", "(III)I"⟩
abbrev cX8_way : ByteArray := prog_1_method_4_code
def yX8_way : MethodName := ⟨RX8, "way", "(IIZ)I"⟩
abbrev cX8_milk : ByteArray := prog_1_method_5_code
def yX8_milk : MethodName := ⟨RX8, "milk", "(I)I"⟩
abbrev cX8_say : ByteArray := prog_1_method_6_code
def yX8_say : MethodName := ⟨RX8, "say", "(I)I"⟩
abbrev cX8_wipe : ByteArray := prog_1_method_7_code
def yX8_wipe : MethodName := ⟨RX8, "wipe", "()I"⟩
abbrev cX8_fault : ByteArray := prog_1_method_8_code
def yX8_fault : MethodName := ⟨RX8, "fault", "()I"⟩
abbrev cX8_judge : ByteArray := prog_1_method_9_code
def yX8_judge : MethodName := ⟨RX8, "judge", "(I)I"⟩
abbrev cX8_done : ByteArray := prog_1_method_10_code
def yX8_done : MethodName := ⟨RX8, "done", "()I"⟩
abbrev cX8_behind : ByteArray := prog_1_method_11_code
def yX8_behind : MethodName := ⟨RX8, "behind", "(II)I"⟩
abbrev cX8_then : ByteArray := prog_1_method_12_code
def yX8_then : MethodName := ⟨RX8, "then", "(I)I"⟩
abbrev cX8_lasts : ByteArray := prog_1_method_13_code
def yX8_lasts : MethodName := ⟨RX8, "lasts", "(I)I"⟩
abbrev cX8_trials : ByteArray := prog_1_method_14_code
def yX8_trials : MethodName := ⟨RX8, "trials", "(III)I"⟩
abbrev cX8_round : ByteArray := prog_1_method_15_code
def yX8_round : MethodName := ⟨RX8, "round", "(III)I"⟩
abbrev cX8_shun : ByteArray := prog_1_method_16_code
def yX8_shun : MethodName := ⟨RX8, "shun", "(III)I"⟩
abbrev cX8_apart : ByteArray := prog_1_method_17_code
def yX8_apart : MethodName := ⟨RX8, "apart", "(II)I"⟩
abbrev cX8_row : ByteArray := prog_1_method_18_code
def yX8_row : MethodName := ⟨RX8, "row", "(III)I"⟩
abbrev cX8_countRows : ByteArray := prog_1_method_19_code
def yX8_countRows : MethodName := ⟨RX8, "countRows", "(II)I"⟩
abbrev cX8_choose : ByteArray := prog_1_method_20_code
def yX8_choose : MethodName := ⟨RX8, "choose", "(II)I"⟩
abbrev cX8_nthRow : ByteArray := prog_1_method_21_code
def yX8_nthRow : MethodName := ⟨RX8, "nthRow", "(III)I"⟩
abbrev cX8_seen : ByteArray := prog_1_method_22_code
def yX8_seen : MethodName := ⟨RX8, "seen", "(IZI)I"⟩
abbrev cX8_forget : ByteArray := prog_1_method_23_code
def yX8_forget : MethodName := ⟨RX8, "forget", "()I"⟩
abbrev cX8_so : ByteArray := prog_1_method_24_code
def yX8_so : MethodName := ⟨RX8, "so", "(I)I"⟩
abbrev cX8_ask : ByteArray := prog_1_method_25_code
def yX8_ask : MethodName := ⟨RX8, "ask", "(I)I"⟩
abbrev cX8_jugs : ByteArray := prog_1_method_26_code
def yX8_jugs : MethodName := ⟨RX8, "jugs", "(III)I"⟩
abbrev cX8_odds : ByteArray := prog_1_method_27_code
def yX8_odds : MethodName := ⟨RX8, "odds", "(IIIII)J"⟩
abbrev cX8_year : ByteArray := prog_1_method_28_code
def yX8_year : MethodName := ⟨RX8, "year", "(III)I"⟩
abbrev cX8_image : ByteArray := prog_1_method_29_code
def yX8_image : MethodName := ⟨RX8, "image", "(I)I"⟩
abbrev cX8_restore : ByteArray := prog_1_method_30_code
def yX8_restore : MethodName := ⟨RX8, "restore", "(I)I"⟩
abbrev cX8_told : ByteArray := prog_1_method_31_code
def yX8_told : MethodName := ⟨RX8, "told", "(I)I"⟩
abbrev cX8_toldOfWitness : ByteArray := prog_1_method_32_code
def yX8_toldOfWitness : MethodName := ⟨RX8, "toldOfWitness", "(II)I"⟩
abbrev cX8_leastWinningTimes : ByteArray := prog_1_method_33_code
def yX8_leastWinningTimes : MethodName := ⟨RX8, "leastWinningTimes", "(II)I"⟩
abbrev cX8_nextWins : ByteArray := prog_1_method_34_code
def yX8_nextWins : MethodName := ⟨RX8, "nextWins", "(II)Z"⟩
abbrev cX8_power : ByteArray := prog_1_method_35_code
def yX8_power : MethodName := ⟨RX8, "power", "(II)J"⟩
abbrev cX8_commonDivisor : ByteArray := prog_1_method_36_code
def yX8_commonDivisor : MethodName := ⟨RX8, "commonDivisor", "(JJ)J"⟩
abbrev cX8_within : ByteArray := prog_1_method_37_code
def yX8_within : MethodName := ⟨RX8, "within", "(III)Z"⟩
abbrev cX8_isWitness : ByteArray := prog_1_method_38_code
def yX8_isWitness : MethodName := ⟨RX8, "isWitness", "(I)Z"⟩
abbrev cX8_isPlace : ByteArray := prog_1_method_39_code
def yX8_isPlace : MethodName := ⟨RX8, "isPlace", "(I)Z"⟩
abbrev cX8_isCell : ByteArray := prog_1_method_40_code
def yX8_isCell : MethodName := ⟨RX8, "isCell", "(I)Z"⟩
abbrev cX8_asNumber : ByteArray := prog_1_method_41_code
def yX8_asNumber : MethodName := ⟨RX8, "asNumber", "(Z)I"⟩
abbrev cX8_lossAt : ByteArray := prog_1_method_42_code
def yX8_lossAt : MethodName := ⟨RX8, "lossAt", "(IZII)I"⟩
def RX9 : String := "SauceredMilkModel"
def TX9 : u_T := fun k => match k with
  | 0 => ("SauceredMilkModel", "book", "[I", true)
  | 1 => ("SauceredMilkModel", "now", "[I", true)
  | 2 => ("SauceredMilkModel", "places", "[I", true)
  | 3 => ("SauceredMilkModel", "power", "I", false)
  | 4 => ("SauceredMilkModel", "spite", "I", false)
  | 5 => ("SauceredMilkModel", "ways", "[I", true)
  | 6 => ("SauceredMilkModel", "milky", "I", false)
  | 7 => ("SauceredMilkModel", "sights", "I", false)
  | 8 => ("SauceredMilkModel", "sight", "[I", true)
  | 9 => ("SauceredMilkModel", "signs", "I", false)
  | 10 => ("SauceredMilkModel", "pad", "[I", true)
  | 11 => ("SauceredMilkModel", "offAt", "I", false)
  | 12 => ("SauceredMilkModel", "offWho", "I", false)
  | 13 => ("SauceredMilkModel", "reason", "I", false)
  | 14 => ("SauceredMilkModel", "acts", "I", false)
  | 15 => ("SauceredMilkModel", "enough", "[I", true)
  | 16 => ("SauceredMilkModel", "rows", "[I", true)
  | 17 => ("SauceredMilkModel", "counts", "[I", true)
  | 18 => ("SauceredMilkModel", "pours", "[I", true)
  | 19 => ("SauceredMilkModel", "image", "[I", true)
  | _ => ("SauceredMilkModel", "isKept", "[Z", true)
def tyX9 : Nat → FieldType := fun k => match k with
  | 0 => .array .int
  | 1 => .array .int
  | 2 => .array .int
  | 3 => .int
  | 4 => .int
  | 5 => .array .int
  | 6 => .int
  | 7 => .int
  | 8 => .array .int
  | 9 => .int
  | 10 => .array .int
  | 11 => .int
  | 12 => .int
  | 13 => .int
  | 14 => .int
  | 15 => .array .int
  | 16 => .array .int
  | 17 => .array .int
  | 18 => .array .int
  | 19 => .array .int
  | _ => .array .boolean
abbrev wsX90 : List Cond := u_ws RX9 TX9 21
theorem nmX9 : ∀ a, a < 21 → ∀ b, b < 21 → a ≠ b → (TX9 a).2.1 ≠ (TX9 b).2.1 := by decide +kernel
theorem tyX9_ok : ∀ k, k < 21 → parseFieldDescriptor (TX9 k).2.2.1 = some (tyX9 k) := by decide +kernel
abbrev cX9_init : ByteArray := prog_11_method_1_code
def yX9_init : MethodName := ⟨RX9, "<init>", "()V"⟩
abbrev cX9_in : ByteArray := prog_11_method_2_code
def yX9_in : MethodName := ⟨RX9, "in", "(III)Z"⟩
abbrev cX9_has : ByteArray := prog_11_method_3_code
def yX9_has : MethodName := ⟨RX9, "has", "(II)Z"⟩
abbrev cX9_bits : ByteArray := prog_11_method_4_code
def yX9_bits : MethodName := ⟨RX9, "bits", "(I)I"⟩
abbrev cX9_isCell : ByteArray := prog_11_method_5_code
def yX9_isCell : MethodName := ⟨RX9, "isCell", "(I)Z"⟩
abbrev cX9_isThere : ByteArray := prog_11_method_6_code
def yX9_isThere : MethodName := ⟨RX9, "isThere", "(I)Z"⟩
abbrev cX9_witness : ByteArray := prog_11_method_7_code
def yX9_witness : MethodName := ⟨RX9, "witness", "(IIZI)I"⟩
abbrev cX9_he : ByteArray := prog_11_method_8_code
def yX9_he : MethodName := ⟨RX9, "he", "(III)I"⟩
abbrev cX9_way : ByteArray := prog_11_method_9_code
def yX9_way : MethodName := ⟨RX9, "way", "(IIZ)I"⟩
abbrev cX9_milk : ByteArray := prog_11_method_10_code
def yX9_milk : MethodName := ⟨RX9, "milk", "(I)I"⟩
abbrev cX9_say : ByteArray := prog_11_method_11_code
def yX9_say : MethodName := ⟨RX9, "say", "(I)I"⟩
abbrev cX9_wipe : ByteArray := prog_11_method_12_code
def yX9_wipe : MethodName := ⟨RX9, "wipe", "()I"⟩
abbrev cX9_faultOf : ByteArray := prog_11_method_13_code
def yX9_faultOf : MethodName := ⟨RX9, "faultOf", "()I"⟩
abbrev cX9_fault : ByteArray := prog_11_method_14_code
def yX9_fault : MethodName := ⟨RX9, "fault", "()I"⟩
abbrev cX9_asNow : ByteArray := prog_11_method_15_code
def yX9_asNow : MethodName := ⟨RX9, "asNow", "()V"⟩
abbrev cX9_sits : ByteArray := prog_11_method_16_code
def yX9_sits : MethodName := ⟨RX9, "sits", "(I)Z"⟩
abbrev cX9_offOnes : ByteArray := prog_11_method_17_code
def yX9_offOnes : MethodName := ⟨RX9, "offOnes", "()I"⟩
abbrev cX9_farFrom : ByteArray := prog_11_method_18_code
def yX9_farFrom : MethodName := ⟨RX9, "farFrom", "(I)I"⟩
abbrev cX9_lose : ByteArray := prog_11_method_19_code
def yX9_lose : MethodName := ⟨RX9, "lose", "(II)V"⟩
abbrev cX9_step : ByteArray := prog_11_method_20_code
def yX9_step : MethodName := ⟨RX9, "step", "(I)I"⟩
abbrev cX9_bend : ByteArray := prog_11_method_21_code
def yX9_bend : MethodName := ⟨RX9, "bend", "(I)I"⟩
abbrev cX9_fill : ByteArray := prog_11_method_22_code
def yX9_fill : MethodName := ⟨RX9, "fill", "(I)I"⟩
abbrev cX9_thinkAgain : ByteArray := prog_11_method_23_code
def yX9_thinkAgain : MethodName := ⟨RX9, "thinkAgain", "(I)I"⟩
abbrev cX9_letGo : ByteArray := prog_11_method_24_code
def yX9_letGo : MethodName := ⟨RX9, "letGo", "(I)I"⟩
abbrev cX9_hourly : ByteArray := prog_11_method_25_code
def yX9_hourly : MethodName := ⟨RX9, "hourly", "(I)I"⟩
abbrev cX9_endHour : ByteArray := prog_11_method_26_code
def yX9_endHour : MethodName := ⟨RX9, "endHour", "()I"⟩
abbrev cX9_witnessAct : ByteArray := prog_11_method_27_code
def yX9_witnessAct : MethodName := ⟨RX9, "witnessAct", "(II)I"⟩
abbrev cX9_goTerms : ByteArray := prog_11_method_28_code
def yX9_goTerms : MethodName := ⟨RX9, "goTerms", "()I"⟩
abbrev cX9_judge : ByteArray := prog_11_method_29_code
def yX9_judge : MethodName := ⟨RX9, "judge", "(I)I"⟩
abbrev cX9_barOfTerms : ByteArray := prog_11_method_30_code
def yX9_barOfTerms : MethodName := ⟨RX9, "barOfTerms", "()I"⟩
abbrev cX9_done : ByteArray := prog_11_method_31_code
def yX9_done : MethodName := ⟨RX9, "done", "()I"⟩
abbrev cX9_behind : ByteArray := prog_11_method_32_code
def yX9_behind : MethodName := ⟨RX9, "behind", "(II)I"⟩
abbrev cX9_then : ByteArray := prog_11_method_33_code
def yX9_then : MethodName := ⟨RX9, "then", "(I)I"⟩
abbrev cX9_lasts : ByteArray := prog_11_method_34_code
def yX9_lasts : MethodName := ⟨RX9, "lasts", "(I)I"⟩
abbrev cX9_trials : ByteArray := prog_11_method_35_code
def yX9_trials : MethodName := ⟨RX9, "trials", "(III)I"⟩
abbrev cX9_freeCells : ByteArray := prog_11_method_36_code
def yX9_freeCells : MethodName := ⟨RX9, "freeCells", "(I)I"⟩
abbrev cX9_stepsBy : ByteArray := prog_11_method_37_code
def yX9_stepsBy : MethodName := ⟨RX9, "stepsBy", "(III)I"⟩
abbrev cX9_round : ByteArray := prog_11_method_38_code
def yX9_round : MethodName := ⟨RX9, "round", "(III)I"⟩
abbrev cX9_shun : ByteArray := prog_11_method_39_code
def yX9_shun : MethodName := ⟨RX9, "shun", "(III)I"⟩
abbrev cX9_layRows : ByteArray := prog_11_method_40_code
def yX9_layRows : MethodName := ⟨RX9, "layRows", "(I)V"⟩
abbrev cX9_apart : ByteArray := prog_11_method_41_code
def yX9_apart : MethodName := ⟨RX9, "apart", "(II)I"⟩
abbrev cX9_row : ByteArray := prog_11_method_42_code
def yX9_row : MethodName := ⟨RX9, "row", "(III)I"⟩
abbrev cX9_seen : ByteArray := prog_11_method_43_code
def yX9_seen : MethodName := ⟨RX9, "seen", "(IZI)I"⟩
abbrev cX9_forget : ByteArray := prog_11_method_44_code
def yX9_forget : MethodName := ⟨RX9, "forget", "()I"⟩
abbrev cX9_lossOf : ByteArray := prog_11_method_45_code
def yX9_lossOf : MethodName := ⟨RX9, "lossOf", "(III)I"⟩
abbrev cX9_isFit : ByteArray := prog_11_method_46_code
def yX9_isFit : MethodName := ⟨RX9, "isFit", "(I)Z"⟩
abbrev cX9_so : ByteArray := prog_11_method_47_code
def yX9_so : MethodName := ⟨RX9, "so", "(I)I"⟩
abbrev cX9_ask : ByteArray := prog_11_method_48_code
def yX9_ask : MethodName := ⟨RX9, "ask", "(I)I"⟩
abbrev cX9_jugs : ByteArray := prog_11_method_49_code
def yX9_jugs : MethodName := ⟨RX9, "jugs", "(III)I"⟩
abbrev cX9_odds : ByteArray := prog_11_method_50_code
def yX9_odds : MethodName := ⟨RX9, "odds", "(IIIII)J"⟩
abbrev cX9_year : ByteArray := prog_11_method_51_code
def yX9_year : MethodName := ⟨RX9, "year", "(III)I"⟩
abbrev cX9_image : ByteArray := prog_11_method_52_code
def yX9_image : MethodName := ⟨RX9, "image", "(I)I"⟩
abbrev cX9_restore : ByteArray := prog_11_method_53_code
def yX9_restore : MethodName := ⟨RX9, "restore", "(I)I"⟩
abbrev cX9_told : ByteArray := prog_11_method_54_code
def yX9_told : MethodName := ⟨RX9, "told", "(I)I"⟩
def RJ6 : String := "java/lang/Integer"
def TJ6 : u_T := fun k => match k with
  | _ => ("", "", "", false)
def tyJ6 : Nat → FieldType := fun k => match k with
  | _ => .int
abbrev wsJ60 : List Cond := u_ws RJ6 TJ6 0
theorem nmJ6 : ∀ a, a < 0 → ∀ b, b < 0 → a ≠ b → (TJ6 a).2.1 ≠ (TJ6 b).2.1 := by decide +kernel
theorem tyJ6_ok : ∀ k, k < 0 → parseFieldDescriptor (TJ6 k).2.2.1 = some (tyJ6 k) := by decide +kernel
abbrev cJ6_numberOfTrailingZeros_0f7a4 : ByteArray := prog_12_method_48_code
def yJ6_numberOfTrailingZeros_0f7a4 : MethodName := ⟨RJ6, "numberOfTrailingZeros", "(I)I"⟩
abbrev cJ6_bitCount_0f7a4 : ByteArray := prog_12_method_49_code
def yJ6_bitCount_0f7a4 : MethodName := ⟨RJ6, "bitCount", "(I)I"⟩
def RJ9 : String := "java/lang/Math"
def TJ9 : u_T := fun k => match k with
  | _ => ("", "", "", false)
def tyJ9 : Nat → FieldType := fun k => match k with
  | _ => .int
abbrev wsJ90 : List Cond := u_ws RJ9 TJ9 0
theorem nmJ9 : ∀ a, a < 0 → ∀ b, b < 0 → a ≠ b → (TJ9 a).2.1 ≠ (TJ9 b).2.1 := by decide +kernel
theorem tyJ9_ok : ∀ k, k < 0 → parseFieldDescriptor (TJ9 k).2.2.1 = some (tyJ9 k) := by decide +kernel
abbrev cJ9_abs_0f7a4 : ByteArray := prog_13_method_59_code
def yJ9_abs_0f7a4 : MethodName := ⟨RJ9, "abs", "(I)I"⟩
abbrev cJ9_max_7cf53 : ByteArray := prog_13_method_65_code
def yJ9_max_7cf53 : MethodName := ⟨RJ9, "max", "(II)I"⟩
abbrev cJ9_min_7cf53 : ByteArray := prog_13_method_69_code
def yJ9_min_7cf53 : MethodName := ⟨RJ9, "min", "(II)I"⟩
def RJ10 : String := "java/lang/System"
def TJ10 : u_T := fun k => match k with
  | _ => ("", "", "", false)
def tyJ10 : Nat → FieldType := fun k => match k with
  | _ => .int
abbrev wsJ100 : List Cond := u_ws RJ10 TJ10 0
theorem nmJ10 : ∀ a, a < 0 → ∀ b, b < 0 → a ≠ b → (TJ10 a).2.1 ≠ (TJ10 b).2.1 := by decide +kernel
theorem tyJ10_ok : ∀ k, k < 0 → parseFieldDescriptor (TJ10 k).2.2.1 = some (tyJ10 k) := by decide +kernel
def RJ7 : String := "java/util/Arrays"
def TJ7 : u_T := fun k => match k with
  | _ => ("", "", "", false)
def tyJ7 : Nat → FieldType := fun k => match k with
  | _ => .int
abbrev wsJ70 : List Cond := u_ws RJ7 TJ7 0
theorem nmJ7 : ∀ a, a < 0 → ∀ b, b < 0 → a ≠ b → (TJ7 a).2.1 ≠ (TJ7 b).2.1 := by decide +kernel
theorem tyJ7_ok : ∀ k, k < 0 → parseFieldDescriptor (TJ7 k).2.2.1 = some (tyJ7 k) := by decide +kernel
abbrev cJ7_fill_53178 : ByteArray := prog_15_method_103_code
def yJ7_fill_53178 : MethodName := ⟨RJ7, "fill", "([II)V"⟩
def RL : String := "SauceredMilkLaw"
abbrev cL_law : ByteArray := code
def yL_law : MethodName := ⟨RL, "law", "([I)Z"⟩
abbrev vwCl : List vw_C := [(RX0, TX0, 1), (RX1, TX1, 8), (RX2, TX2, 3), (RX3, TX3, 5), (RX4, TX4, 2), (RX5, TX5, 3), (RX6, TX6, 2), (RX7, TX7, 3), (RX8, TX8, 6), (RX9, TX9, 21)]
