/-! BITS: masks as numbers (the first rows began as rows of kit/laws/BITS.to-paste) -/
theorem s_l : ∀ n, n < 32 → ((nI n &&& 31).toBitVec.smod 32).toNat = n := by decide +kernel
theorem nx_and (a b : Nat) : nI a &&& nI b = nI (a &&& b) := by
  apply Int32.toBitVec_inj.1
  show BitVec.ofNat 32 a &&& BitVec.ofNat 32 b = BitVec.ofNat 32 (a &&& b)
  apply BitVec.eq_of_getLsbD_eq
  intro i hi
  simp [hi]
theorem nx_xor (a b : Nat) : nI a ^^^ nI b = nI (a ^^^ b) := by
  apply Int32.toBitVec_inj.1
  show BitVec.ofNat 32 a ^^^ BitVec.ofNat 32 b = BitVec.ofNat 32 (a ^^^ b)
  apply BitVec.eq_of_getLsbD_eq
  intro i hi
  simp [hi]
theorem nx_or (a b : Nat) : nI a ||| nI b = nI (a ||| b) := by
  apply Int32.toBitVec_inj.1
  show BitVec.ofNat 32 a ||| BitVec.ofNat 32 b = BitVec.ofNat 32 (a ||| b)
  apply BitVec.eq_of_getLsbD_eq
  intro i hi
  simp [hi]
theorem i32_nI (n : Nat) : i32 (n : Int) = nI n := by
  apply Int32.toBitVec_inj.1
  show BitVec.ofInt 32 (n : Int) = BitVec.ofNat 32 n
  exact BitVec.ofInt_natCast 32 n
theorem i32_ti (x : Int32) : i32 x.toInt = x := Int32.ofInt_toInt x
theorem b_ior_n {a b : Nat} (ha : a < 2 ^ 31) (hb : b < 2 ^ 31) : b_ior (a : Int) (b : Int) = ((a ||| b : Nat) : Int) := by
  unfold b_ior
  rw [i32_nI, i32_nI, nx_or, nI_toInt (Nat.or_lt_two_pow ha hb)]
theorem b_iand_n {a b : Nat} (ha : a < 2 ^ 31) : b_iand (a : Int) (b : Int) = ((a &&& b : Nat) : Int) := by
  unfold b_iand
  rw [i32_nI, i32_nI, nx_and, nI_toInt (Nat.lt_of_le_of_lt Nat.and_le_left ha)]
theorem b_ixor_n {a b : Nat} (ha : a < 2 ^ 31) (hb : b < 2 ^ 31) : b_ixor (a : Int) (b : Int) = ((a ^^^ b : Nat) : Int) := by
  unfold b_ixor
  rw [i32_nI, i32_nI, nx_xor, nI_toInt (Nat.xor_lt_two_pow ha hb)]
theorem b_ishr_n {m r : Nat} (hm : m < 2 ^ 31) (hr : r < 32) : b_ishr (m : Int) (r : Int) = ((m / 2 ^ r : Nat) : Int) := by
  unfold b_ishr
  rw [i32_nI, i32_nI, pk_shrN hm _ r (s_l r hr), nI_toInt (Nat.lt_of_le_of_lt (Nat.div_le_self _ _) hm)]
theorem b_ishl_n {r : Nat} (hr : r < 31) : b_ishl 1 (r : Int) = ((2 ^ r : Nat) : Int) := by
  have h31 : 2 ^ r < 2 ^ 31 := Nat.pow_lt_pow_right (by decide) hr
  unfold b_ishl
  have e : i32 1 = nI 1 := i32_nI 1
  rw [e, i32_nI, pk_shlN (n := 1) _ r (s_l r (by omega)) (by omega), Nat.one_mul, nI_toInt h31]
theorem b_bit {m r : Nat} (hm : m < 2 ^ 31) (hr : r < 32) : b_iand (b_ishr (m : Int) (r : Int)) 1 = if m.testBit r then 1 else 0 := by
  rw [b_ishr_n hm hr]
  have e : b_iand ((m / 2 ^ r : Nat) : Int) ((1 : Nat) : Int) = _ := b_iand_n (Nat.lt_of_le_of_lt (Nat.div_le_self _ _) hm)
  rw [show (1 : Int) = ((1 : Nat) : Int) from rfl, e, Nat.and_one_is_mod, Nat.testBit_eq_decide_div_mod_eq]
  generalize m / 2 ^ r = z
  by_cases q : z % 2 = 1
  · simp [q]
  · have : z % 2 = 0 := by omega
    simp [this]
theorem b_ior_0 {a : Nat} (ha : a < 2 ^ 31) : b_ior (a : Int) 0 = (a : Int) := by
  have := b_ior_n (b := 0) ha (by decide)
  rwa [Nat.or_zero] at this
theorem tb_pow (r i : Nat) : (2 ^ r).testBit i = decide (r = i) := Nat.testBit_two_pow
/-- a mask whose bits stand below n -/
theorem tb_lt {m n i : Nat} (h : m < 2 ^ n) (hb : m.testBit i = true) : i < n := by
  rcases Nat.lt_or_ge i n with q | q
  · exact q
  · have : m < 2 ^ i := Nat.lt_of_lt_of_le h (Nat.pow_le_pow_right (by decide) q)
    rw [Nat.testBit_lt_two_pow this] at hb
    cases hb
theorem cnt_mono {p q : Nat → Bool} : ∀ {n : Nat}, (∀ i, i < n → p i = true → q i = true) → cnt p n ≤ cnt q n
  | 0, _ => Nat.le_refl _
  | n + 1, h => by
    have := cnt_mono (p := p) (q := q) (n := n) (fun i hi => h i (by omega))
    have h2 := h n (by omega)
    rw [cnt_s, cnt_s]
    by_cases c : p n = true
    · rw [if_pos c, if_pos (h2 c)]
      omega
    · rw [if_neg c]
      omega
theorem cnt_lt {p q : Nat → Bool} : ∀ {n : Nat}, (∀ i, i < n → p i = true → q i = true) → (∃ i, i < n ∧ q i = true ∧ p i = false) → cnt p n < cnt q n
  | 0, _, ⟨i, h, _⟩ => by omega
  | n + 1, h, ⟨i, h1, h2, h3⟩ => by
    have m := cnt_mono (p := p) (q := q) (n := n) (fun i hi => h i (by omega))
    rw [cnt_s, cnt_s]
    by_cases c : i = n
    · subst c
      rw [if_neg (by rw [h3]; decide), if_pos h2]
      omega
    · have := cnt_lt (p := p) (q := q) (n := n) (fun i hi => h i (by omega)) ⟨i, by omega, h2, h3⟩
      have h4 := h n (by omega)
      by_cases c2 : p n = true
      · rw [if_pos c2, if_pos (h4 c2)]
        omega
      · rw [if_neg c2]
        omega
/-- more bits -/
def sb (a b : Nat) : Prop := ∀ i, a.testBit i = true → b.testBit i = true
theorem sb.rf {a : Nat} : sb a a := fun _ h => h
theorem sb.tr {a b c : Nat} (x : sb a b) (y : sb b c) : sb a c := fun i h => y i (x i h)
theorem sb.eq {a b : Nat} (x : sb a b) (y : sb b a) : a = b := Nat.eq_of_testBit_eq fun i => by
  by_cases c : a.testBit i = true
  · rw [c, x i c]
  · by_cases d : b.testBit i = true
    · exact absurd (y i d) c
    · rw [Bool.not_eq_true] at c d
      rw [c, d]
theorem sb.or {a b : Nat} : sb a (a ||| b) := fun i h => by rw [Nat.testBit_or, h, Bool.true_or]
theorem sb.or2 {a b c : Nat} (x : sb a c) (y : sb b c) : sb (a ||| b) c := fun i h => by
  rw [Nat.testBit_or, Bool.or_eq_true] at h
  exact h.elim (x i) (y i)
theorem sb.cnt {a b n : Nat} (x : sb a b) (hb : b < 2 ^ n) (hne : a ≠ b) : cnt a.testBit n < cnt b.testBit n := by
  refine cnt_lt (fun i _ => x i) (Classical.byContradiction fun q => hne (x.eq fun i h => ?_))
  cases c : a.testBit i with
  | true => rfl
  | false => exact absurd ⟨i, tb_lt hb h, h, c⟩ q
