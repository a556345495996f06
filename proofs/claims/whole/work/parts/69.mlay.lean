/-! THE REFERENCE: isAhead -/
def btb (x : Int32) (i : Nat) : Bool := x.toBitVec.getLsbD i
theorem btb_and (x y : Int32) (i : Nat) : btb (x &&& y) i = (btb x i && btb y i) := by unfold btb; rw [Int32.toBitVec_and, BitVec.getLsbD_and]
theorem btb_ext {x y : Int32} (h : ∀ i, i < 32 → btb x i = btb y i) : x = y := Int32.toBitVec_inj.mp (BitVec.eq_of_getLsbD_eq (fun i hi => h i hi))
theorem btb_n (n i : Nat) (hi : i < 32) : btb (nI n) i = n.testBit i := by
  show (BitVec.ofNat 32 n).getLsbD i = _
  rw [BitVec.getLsbD_ofNat, decide_eq_true hi, Bool.true_and]
theorem low_bit1 : ∀ a : Nat, a < 64 → ∀ c : Nat, c < 64 → (64 * a + c = 0 ∨ (∃ d, d < 12 ∧ (64 * a + c) % 2 ^ (d + 1) = 2 ^ d ∧ b_iand ((64 * a + c : Nat) : Int) (b_ineg ((64 * a + c : Nat) : Int)) = ((2 ^ d : Nat) : Int))) := by decide +kernel
theorem low_bit (z : Nat) (h : z < 4096) : z = 0 ∨ (∃ d, d < 12 ∧ z % 2 ^ (d + 1) = 2 ^ d ∧ b_iand (z : Int) (b_ineg (z : Int)) = ((2 ^ d : Nat) : Int)) := by
  have := low_bit1 (z / 64) (by omega) (z % 64) (by omega)
  rwa [show 64 * (z / 64) + z % 64 = z by omega] at this
theorem hi_mask : ∀ d, d < 12 → ∀ i, i < 32 → btb (i32 (b_iand (b_ineg ((2 ^ d : Nat) : Int)) (b_ixor ((2 ^ d : Nat) : Int) (-1)))) i = decide (d < i) := by decide +kernel
theorem iand_assoc (x y z : Int) : b_iand (b_iand x y) z = b_iand x (b_iand y z) := by
  unfold b_iand
  rw [i32_ti, i32_ti, Int32.and_assoc]
theorem hi_zero {d x : Nat} (hd : d < 12) (hx : x < 4096) : b_iand (b_iand (x : Int) (b_ineg ((2 ^ d : Nat) : Int))) (b_ixor ((2 ^ d : Nat) : Int) (-1)) = 0 ↔ ∀ i, d < i → x.testBit i = false := by
  rw [iand_assoc]
  have hm := hi_mask d hd
  generalize b_iand (b_ineg ((2 ^ d : Nat) : Int)) (b_ixor ((2 ^ d : Nat) : Int) (-1)) = m at *
  unfold b_iand
  rw [i32_nI]
  constructor
  · intro h i hi
    have h0 : nI x &&& i32 m = 0 := by
      have := congrArg i32 h
      rwa [i32_ti] at this
    rcases Nat.lt_or_ge i 32 with q | q
    · have := congrArg (fun v => btb v i) h0
      simp only [btb_and, btb_n x i q, hm i q, decide_eq_true hi, Bool.and_true] at this
      rw [this]
      exact BitVec.getLsbD_zero
    · exact Nat.testBit_lt_two_pow (Nat.lt_of_lt_of_le (Nat.lt_of_lt_of_le hx (by decide : 4096 ≤ 2 ^ 32)) (Nat.pow_le_pow_right (by decide) q))
  · intro h
    have h0 : nI x &&& i32 m = 0 := btb_ext (fun i hi => by
      rw [btb_and, btb_n x i hi, hm i hi]
      by_cases q : d < i
      · rw [h i q, Bool.false_and]
        exact BitVec.getLsbD_zero.symm
      · rw [decide_eq_false q, Bool.and_false]
        exact BitVec.getLsbD_zero.symm)
    rw [h0]
    rfl
theorem and_bit {d x : Nat} (hx : x < 4096) : b_iand (x : Int) ((2 ^ d : Nat) : Int) = 0 ↔ x.testBit d = false := by
  rw [b_iand_n (Nat.lt_of_lt_of_le hx (by decide))]
  constructor
  · intro h
    have h : x &&& 2 ^ d = 0 := by omega
    have := congrArg (fun v => v.testBit d) h
    simp only [Nat.testBit_and, tb_pow, decide_true, Bool.and_true, Nat.zero_testBit] at this
    exact this
  · intro h
    have : x &&& 2 ^ d = 0 := Nat.eq_of_testBit_eq (fun i => by
      rw [Nat.testBit_and, tb_pow, Nat.zero_testBit]
      by_cases q : d = i
      · rw [← q, h, Bool.false_and]
      · rw [decide_eq_false q, Bool.and_false])
    rw [this]
    rfl
section MLY
variable {st : St} {P : Int → Hp → Prop}
theorem sg_app (f : Nat → Bool) : ∀ (a c j : Nat), sg f (a + c) j = sg f a j ++ sg f c (j + a)
  | 0, c, j => by
    rw [Nat.zero_add]
    rfl
  | a + 1, c, j => by
    rw [show a + 1 + c = (a + c) + 1 by omega, sg, sg, sg_app f a c (j + 1), show j + 1 + a = j + (a + 1) by omega]
    split <;> rfl
theorem sg_nil {f : Nat → Bool} {k j : Nat} : sg f k j = [] ↔ ∀ i, j ≤ i → i < j + k → f i = false := by
  constructor
  · intro h i h1 h2
    obtain ⟨a, rfl⟩ : ∃ a, i = j + a := ⟨i - j, by omega⟩
    obtain ⟨c, rfl⟩ : ∃ c, k = a + (c + 1) := ⟨k - a - 1, by omega⟩
    rw [sg_app] at h
    have h := (List.append_eq_nil_iff.mp h).2
    rw [sg] at h
    cases q : f (j + a) with
    | false => rfl
    | true => rw [q, if_pos rfl] at h; cases h
  · intro h
    rw [sg_congr (f' := fun _ => false) h, sg_no]
/-- which of two lists of masks comes first: by the least bit that isn't in both -/
theorem lx_bm {n x y d : Nat} (hd : d < n) (hlow : ∀ i, i < d → x.testBit i = y.testBit i) (hx : x < 2 ^ n) (hy : y < 2 ^ n) :
    (x.testBit d = true → y.testBit d = false → (lx (bm n x) (bm n y) ↔ ¬ ∀ i, d < i → y.testBit i = false)) ∧ (x.testBit d = false → y.testBit d = true → (lx (bm n x) (bm n y) ↔ ∀ i, d < i → x.testBit i = false)) := by
  obtain ⟨c, rfl⟩ : ∃ c, n = d + (c + 1) := ⟨n - d - 1, by omega⟩
  have e0 : sg x.testBit d 0 = sg y.testBit d 0 := sg_congr (fun i _ hi => hlow i (by omega))
  have big : ∀ z, z < 2 ^ (d + (c + 1)) → (sg z.testBit c (d + 1) = [] ↔ ∀ i, d < i → z.testBit i = false) := fun z hz => by
    rw [sg_nil]
    constructor
    · intro h i hi
      by_cases q : i < d + 1 + c
      · exact h i (by omega) q
      · cases e : z.testBit i with
        | false => rfl
        | true =>
          have := tb_lt hz e
          omega
    · exact fun h i h1 _ => h i (by omega)
  show (_ → _ → (lx (sg x.testBit (d + (c + 1)) 0) (sg y.testBit (d + (c + 1)) 0) ↔ _)) ∧ (_ → _ → (lx (sg x.testBit (d + (c + 1)) 0) (sg y.testBit (d + (c + 1)) 0) ↔ _))
  rw [sg_app x.testBit d (c + 1) 0, sg_app y.testBit d (c + 1) 0, e0, lx_app, Nat.zero_add, sg, sg]
  refine ⟨fun hx1 hy0 => ?_, fun hx0 hy1 => ?_⟩
  · rw [if_pos hx1, hy0, if_neg (by decide), ← big y hy]
    constructor
    · intro h q
      rw [q] at h
      exact lx_n h
    · exact fun h => lx_hd h
  · rw [if_pos hy1, hx0, if_neg (by decide), ← big x hx]
    constructor
    · intro h
      rcases lx_hd2 (j := d) (f := x.testBit) (k := c) (x := sg y.testBit c (d + 1)) with q | q
      · exact absurd h q
      · exact q
    · intro h
      rw [h]
      exact lx_nc
theorem m_isAhead {n x y : Nat} {h : Hp} (hn : n ≤ 12) (hx : x < 2 ^ n) (hy : y < 2 ^ n) (hne : x ≠ y) (p : P (b2 (lx (bm n x) (bm n y))) h) : Cl shM mX9_isAhead [pI (x : Int), pI (y : Int)] h P := by
  have h12 : 2 ^ n ≤ 4096 := Nat.pow_le_pow_right (n := 2) (by decide) hn
  have hxy : x ^^^ y < 2 ^ n := Nat.xor_lt_two_pow hx hy
  have hz : x ^^^ y ≠ 0 := fun q => hne (Nat.eq_of_testBit_eq fun i => by
    have := congrArg (fun v => v.testBit i) q
    simp only [Nat.testBit_xor, Nat.zero_testBit] at this
    revert this
    cases x.testBit i <;> cases y.testBit i <;> simp)
  obtain ⟨d, hd, hmod, hlow⟩ := (low_bit (x ^^^ y) (by omega)).resolve_left hz
  have tz : ∀ i, i < d + 1 → (x ^^^ y).testBit i = decide (d = i) := fun i hi => by
    have := congrArg (fun v => v.testBit i) hmod
    simp only [Nat.testBit_mod_two_pow, decide_eq_true hi, Bool.true_and, tb_pow] at this
    exact this
  have hdn : d < n := tb_lt hxy (by rw [tz d (by omega), decide_eq_true rfl])
  have low : ∀ i, i < d → x.testBit i = y.testBit i := fun i hi => by
    have := tz i (by omega)
    rw [Nat.testBit_xor, decide_eq_false (by omega)] at this
    revert this
    cases x.testBit i <;> cases y.testBit i <;> simp
  have hdd : (x.testBit d ^^ y.testBit d) = true := by
    rw [← Nat.testBit_xor, tz d (by omega), decide_eq_true rfl]
  obtain ⟨l1, l2⟩ := lx_bm hdn low hx hy
  have ex : b_ixor (x : Int) (y : Int) = ((x ^^^ y : Nat) : Int) := b_ixor_n (by omega) (by omega)
  refine sX9_isAhead_0 ?_
  rw [ex, hlow, hi_zero hd (by omega), hi_zero hd (by omega), and_bit (by omega)]
  refine ⟨fun c => ?_, fun c => ?_⟩
  · have cy : y.testBit d = true := by
      rw [c, Bool.false_xor] at hdd
      exact hdd
    have l := l2 c cy
    refine ⟨fun c2 => ?_, fun c2 => ?_⟩
    · rwa [b2, if_neg (fun q => c2 (l.mp q))] at p
    · rwa [b2, if_pos (l.mpr c2)] at p
  · have c : x.testBit d = true := by
      cases q : x.testBit d with
      | true => rfl
      | false => exact absurd q c
    have cy : y.testBit d = false := by
      rw [c] at hdd
      cases q : y.testBit d with
      | false => rfl
      | true => rw [q] at hdd; cases hdd
    have l := l1 c cy
    refine ⟨fun c2 => ?_, fun c2 => ?_⟩
    · rwa [b2, if_neg (fun q => l.mp q c2)] at p
    · rwa [b2, if_pos (l.mpr c2)] at p
/-- what is laid out -/
def loM (st : St) (L : List Nat) (b : Int) : Nat := bsN (GL st L) (WL st L) b L.length (2 ^ L.length - 1)
def loB (st : St) (L : List Nat) (b : Int) : List Nat := bm L.length (loM st L b)
def loX (st : St) (L : List Nat) (b : Int) : Int × (Int × List Int) := (gl (GL st L) (loB st L b), wl (WL st L) (loB st L b), (loB st L b).map (fun x => ((L.getD x 0 : Nat) : Int)))
theorem wl_sg {W : Nat → Int} {n : Nat} (hW : ∀ i, i < n → 1 ≤ W i ∧ W i ≤ 800) (f : Nat → Bool) : ∀ k, k ≤ n → 0 ≤ wl W (sg f k 0) ∧ wl W (sg f k 0) ≤ 800 * (k : Int)
  | 0, _ => by
    show 0 ≤ (0 : Int) ∧ (0 : Int) ≤ _
    omega
  | k + 1, hk => by
    have := wl_sg hW f k (by omega)
    have h2 := hW k (by omega)
    rw [sg_snoc, Nat.zero_add]
    split
    · rw [wl_snoc]
      omega
    · rw [List.append_nil]
      omega
theorem bsN_s {G W : Nat → Int} {b : Int} {n s : Nat} : bsN G W b n (s + 1) = if btr G W b n (s + 1) (bsN G W b n s) then s + 1 else bsN G W b n s := rfl
theorem m_layout2 {g : Hp} {b : Int} {L : List Nat} (hL : L.length ≤ 12) (hW : ∀ i, i < L.length → 1 ≤ WL st L i ∧ WL st L i ≤ 800) (hb : 0 ≤ b ∧ b ≤ 1000) (K : LKm st L g) (p : ∀ g', mf g g' → LM (some (loX st L b)) g' → P ((loB st L b).length : Int) g') : Ok shM 0 0 mX9_layout 52 [some (pR 0), none, some (pI b), some (pI 0), some (pI 0), some (pI 0), some (pI 1), none, none, none] [] g P := by
  have h12 : 2 ^ L.length ≤ 4096 := Nat.pow_le_pow_right (n := 2) (by decide) hL
  have hpos : 0 < 2 ^ L.length := Nat.two_pow_pos _
  have e31 : 4096 < 2 ^ 31 := by decide
  have l262 : ∀ (d k : Nat) (g1 : Hp), k + d = L.length → mf g g1 → g1.2.1 0 37 = (L.length : Int) → (∀ (i s : Nat), L[i]? = some s → g1.1 24 i = (s : Int)) → (g1.2.1 0 41 = 1 ∧ g1.2.1 0 42 = gl (GL st L) (loB st L b) ∧ g1.2.1 0 43 = wl (WL st L) (loB st L b) ∧ g1.2.1 0 44 = ((sg (loM st L b).testBit k 0).length : Int)) → (∀ (i x : Nat), (sg (loM st L b).testBit k 0)[i]? = some x → g1.1 27 i = ((L.getD x 0 : Nat) : Int)) → Ok shM 0 0 mX9_layout 262 [some (pR 0), none, none, some (pI (loM st L b : Int)), none, none, some (pI (k : Int)), none, none, none] [] g1 P := by
    have hM : loM st L b < 4096 := by
      have := bsN_le (G := GL st L) (W := WL st L) (b := b) L.length (2 ^ L.length - 1)
      unfold loM
      omega
    intro d
    induction d with
    | zero =>
      intro k g1 hk m e37 e24 e4 e27
      have e : k = L.length := hk
      subst e
      refine sX9_layout_262 ?_
      rw [e37, e4.2.2.2]
      refine ⟨fun _ => p g1 m ⟨e4.1, e4.2.1, e4.2.2.1, ?_, fun i z hz => ?_⟩, fun c => absurd (Int.le_refl _) c⟩
      · rw [e4.2.2.2]
        show _ = ((List.map _ (loB st L b)).length : Int)
        rw [List.length_map]
        rfl
      · have hz : (List.map (fun x => ((L.getD x 0 : Nat) : Int)) (loB st L b))[i]? = some z := hz
        rw [List.getElem?_map] at hz
        cases q : (loB st L b)[i]? with
        | none => rw [q] at hz; cases hz
        | some x =>
          rw [q] at hz
          cases hz
          exact e27 i x q
    | succ d ih =>
      intro k g1 hk m e37 e24 e4 e27
      have hsn := sg_snoc (loM st L b).testBit k 0
      rw [Nat.zero_add] at hsn
      have hlen := sg_len (loM st L b).testBit k 0
      refine sX9_layout_262 ?_
      rw [e37, b_bit (by omega) (by omega), e4.2.2.2]
      refine ⟨fun c => absurd c (by omega), fun _ => ⟨fun c => ⟨by unfold inR; omega, ?_⟩, fun c => ⟨k, rfl, by omega, (sg (loM st L b).testBit k 0).length, rfl, by omega, by unfold inR; omega, by unfold inR; omega, ?_⟩⟩⟩
      · have hf : (loM st L b).testBit k = false := by
          cases q : (loM st L b).testBit k with
          | false => rfl
          | true => rw [q, if_pos rfl] at c; exact absurd rfl c
        rw [hf, if_neg (by decide), List.append_nil] at hsn
        exact ih (k + 1) g1 (by omega) m e37 e24 (by rw [hsn]; exact e4) (by rw [hsn]; exact e27)
      · have hf : (loM st L b).testBit k = true := by
          cases q : (loM st L b).testBit k with
          | true => rfl
          | false => rw [q, if_neg (by decide)] at c; exact absurd c (by decide)
        rw [hf, if_pos rfl] at hsn
        have ek : g1.1 24 k = ((L.getD k 0 : Nat) : Int) := e24 k _ (getD_some (by omega))
        rw [ek]
        refine ih (k + 1) _ (by omega) ((m.A (by decide)).I (Or.inr (by decide))) ?_ (fun i s hi => ?_) ⟨?_, ?_, ?_, ?_⟩ ?_
        · rw [hI_at, if_neg (by omega)]
          exact e37
        · rw [hI_a, hA_at, if_neg (by omega)]
          exact e24 i s hi
        · rw [hI_at, if_neg (by omega)]
          exact e4.1
        · rw [hI_at, if_neg (by omega)]
          exact e4.2.1
        · rw [hI_at, if_neg (by omega)]
          exact e4.2.2.1
        · rw [hI_at, if_pos ⟨rfl, rfl⟩, hsn, List.length_append]
          rfl
        · rw [hsn]
          refine lk_snoc (p := fun i x => _ = ((L.getD x 0 : Nat) : Int)) (fun i x hi => ?_) ?_
          · have := (List.getElem?_eq_some_iff.mp hi).1
            rw [hI_a, hA_at, if_neg (by omega)]
            exact e27 i x hi
          · rw [hI_a, hA_at, if_pos ⟨rfl, rfl⟩]
  have l52 : ∀ (d s m : Nat), s + d = 2 ^ L.length - 1 → m = bsN (GL st L) (WL st L) b L.length s → Ok shM 0 0 mX9_layout 52 [some (pR 0), none, some (pI b), some (pI (m : Int)), some (pI (gl (GL st L) (bm L.length m))), some (pI (wl (WL st L) (bm L.length m))), some (pI ((s : Int) + 1)), none, none, none] [] g P := by
    intro d
    induction d with
    | zero =>
      intro s m hs hm
      have e : s = 2 ^ L.length - 1 := hs
      have em : m = loM st L b := by rw [hm, e]; rfl
      refine sX9_layout_52 ?_
      rw [K.1, b_ishl_n (by omega)]
      refine ⟨fun _ => ?_, fun c => absurd (show ((2 ^ L.length : Nat) : Int) ≤ (s : Int) + 1 by omega) c⟩
      rw [em]
      refine l262 L.length 0 _ (by omega) ((((mf.rf.I (Or.inr (by decide))).I (Or.inr (by decide))).I (Or.inr (by decide))).I (Or.inr (by decide))) ?_ (fun i s hi => (K.2 i s hi).1) ⟨?_, ?_, ?_, ?_⟩ (fun i x hi => by cases hi)
      · rw [hI_at, if_neg (by omega), hI_at, if_neg (by omega), hI_at, if_neg (by omega), hI_at, if_neg (by omega)]
        exact K.1
      · rw [hI_at, if_neg (by omega), hI_at, if_neg (by omega), hI_at, if_neg (by omega), hI_at, if_pos ⟨rfl, rfl⟩]
      · rw [hI_at, if_neg (by omega), hI_at, if_neg (by omega), hI_at, if_pos ⟨rfl, rfl⟩]
        rfl
      · rw [hI_at, if_neg (by omega), hI_at, if_pos ⟨rfl, rfl⟩]
        rfl
      · rw [hI_at, if_pos ⟨rfl, rfl⟩]
        rfl
    | succ d ih =>
      intro s m hs hm
      have hms : m ≤ s := by
        rw [hm]
        exact bsN_le _ _
      have nx1 : btr (GL st L) (WL st L) b L.length (s + 1) m → inR (((s : Int) + 1) + 1) ∧ Ok shM 0 0 mX9_layout 52 [some (pR 0), none, some (pI b), some (pI ((s : Int) + 1)), some (pI (gl (GL st L) (bm L.length (s + 1)))), some (pI (wl (WL st L) (bm L.length (s + 1)))), some (pI (((s : Int) + 1) + 1)), none, none, none] [] g P := fun c => by
        refine ⟨by unfold inR; omega, ?_⟩
        exact ih (s + 1) (s + 1) (by omega) (by rw [bsN_s, ← hm, if_pos c])
      have nx0 : ¬ btr (GL st L) (WL st L) b L.length (s + 1) m → inR (((s : Int) + 1) + 1) ∧ Ok shM 0 0 mX9_layout 52 [some (pR 0), none, some (pI b), some (pI (m : Int)), some (pI (gl (GL st L) (bm L.length m))), some (pI (wl (WL st L) (bm L.length m))), some (pI (((s : Int) + 1) + 1)), none, none, none] [] g P := fun c => by
        refine ⟨by unfold inR; omega, ?_⟩
        exact ih (s + 1) m (by omega) (by rw [bsN_s, ← hm, if_neg c])
      refine sX9_layout_52 ?_
      rw [K.1, b_ishl_n (by omega)]
      refine ⟨fun c => absurd c (by omega), fun _ => ?_⟩
      have l72 : ∀ (e k : Nat), k + e = L.length → Ok shM 0 0 mX9_layout 72 [some (pR 0), none, some (pI b), some (pI (m : Int)), some (pI (gl (GL st L) (bm L.length m))), some (pI (wl (WL st L) (bm L.length m))), some (pI ((s : Int) + 1)), some (pI (gl (GL st L) (sg (s + 1).testBit k 0))), some (pI (wl (WL st L) (sg (s + 1).testBit k 0))), some (pI (k : Int))] [] g P := by
        intro e
        induction e with
        | zero =>
          intro k hk
          have ek : k = L.length := hk
          subst ek
          have a0 : ¬ btr (GL st L) (WL st L) b L.length (s + 1) m → Ok shM 0 0 mX9_layout 189 [some (pR 0), none, some (pI b), some (pI (m : Int)), some (pI (gl (GL st L) (bm L.length m))), some (pI (wl (WL st L) (bm L.length m))), some (pI ((s : Int) + 1)), some (pI (gl (GL st L) (bm L.length (s + 1)))), some (pI (wl (WL st L) (bm L.length (s + 1)))), none] [pI 0] g P := fun c =>
            sX9_layout_189 ⟨fun _ => sX9_layout_202 ⟨fun _ => sX9_layout_215 ⟨fun _ => sX9_layout_229 (nx0 c), fun q => absurd rfl q⟩, fun q => absurd rfl q⟩, fun q => absurd rfl q⟩
          have a1 : btr (GL st L) (WL st L) b L.length (s + 1) m → Ok shM 0 0 mX9_layout 189 [some (pR 0), none, some (pI b), some (pI (m : Int)), some (pI (gl (GL st L) (bm L.length m))), some (pI (wl (WL st L) (bm L.length m))), some (pI ((s : Int) + 1)), some (pI (gl (GL st L) (bm L.length (s + 1)))), some (pI (wl (WL st L) (bm L.length (s + 1)))), none] [pI 1] g P := fun c =>
            sX9_layout_189 ⟨fun q => absurd q (by decide), fun _ => sX9_layout_202 ⟨fun q => absurd q (by decide), fun _ => sX9_layout_215 ⟨fun q => absurd q (by decide), fun _ => sX9_layout_229 (nx1 c)⟩⟩⟩
          rw [show sg (s + 1).testBit L.length 0 = bm L.length (s + 1) from rfl]
          refine sX9_layout_72 ?_
          rw [K.1]
          refine ⟨fun _ => ⟨fun c1 => a0 (fun q => absurd q.1 (by omega)), fun c1 => ⟨fun c2 => a1 ⟨by omega, Or.inl (Or.inl c2)⟩, fun c2 => ⟨fun c3 => a0 (fun q => ?_), fun c3 => ⟨fun c4 => a1 ⟨by omega, Or.inl (Or.inr ⟨c3, c4⟩)⟩, fun c4 => ⟨fun c5 => a0 (fun q => ?_), fun c5 => ?_⟩⟩⟩⟩⟩, fun c => absurd (Int.le_refl _) c⟩
          · have := q.2
            unfold vb ve at this
            omega
          · have := q.2
            unfold vb ve at this
            omega
          · have := m_isAhead (P := fun r1 h1 => ((r1 = 0) → Ok shM 0 0 mX9_layout 189 [some (pR 0), none, some (pI b), some (pI (m : Int)), some (pI (gl (GL st L) (bm L.length m))), some (pI (wl (WL st L) (bm L.length m))), some (pI ((s : Int) + 1)), some (pI (gl (GL st L) (bm L.length (s + 1)))), some (pI (wl (WL st L) (bm L.length (s + 1)))), none] [pI 0] h1 P) ∧ ((¬ r1 = 0) → Ok shM 0 0 mX9_layout 189 [some (pR 0), none, some (pI b), some (pI (m : Int)), some (pI (gl (GL st L) (bm L.length m))), some (pI (wl (WL st L) (bm L.length m))), some (pI ((s : Int) + 1)), some (pI (gl (GL st L) (bm L.length (s + 1)))), some (pI (wl (WL st L) (bm L.length (s + 1)))), none] [pI 1] h1 P)) (n := L.length) (x := s + 1) (y := m) (h := g) hL (by omega) (by omega) (by omega) ⟨fun q => a0 (fun z => ?_), fun q => a1 ⟨by omega, Or.inr ⟨⟨c3, c5⟩, b2_n0.mp q⟩⟩⟩
            · exact this
            · have q := b2_0.mp q
              rcases z.2 with v | v
              · unfold vb at v
                omega
              · exact q v.2
        | succ e ih2 =>
          intro k hk
          have hsn := sg_snoc (s + 1).testBit k 0
          rw [Nat.zero_add] at hsn
          have hw := wl_sg hW (s + 1).testBit k (by omega)
          have hWk := hW k (by omega)
          have gk := K.g (i := k) (by omega)
          have nx := ih2 (k + 1) (by omega)
          refine sX9_layout_72 ?_
          rw [K.1, show ((s : Int) + 1) = ((s + 1 : Nat) : Int) from rfl, b_bit (by omega) (by omega)]
          refine ⟨fun c => absurd c (by omega), fun _ => ⟨fun c => ⟨by unfold inR; omega, by unfold inR; omega, ?_⟩, fun c => ⟨k, rfl, by omega, ?_⟩⟩⟩
          · have hf : (s + 1).testBit k = false := by
              cases q : (s + 1).testBit k with
              | false => rfl
              | true => rw [q, if_pos rfl] at c; exact absurd rfl c
            rw [hf, if_neg (by decide), List.append_nil] at hsn
            rw [Int.add_zero, Int.add_zero, wr_id (gl_in _)]
            rw [hsn] at nx
            exact nx
          · have hf : (s + 1).testBit k = true := by
              cases q : (s + 1).testBit k with
              | true => rfl
              | false => rw [q, if_neg (by decide)] at c; exact absurd c (by decide)
            rw [hf, if_pos rfl] at hsn
            rw [gk.2.1, gk.2.2]
            refine ⟨by unfold inR; omega, by unfold inR; omega, ?_⟩
            rw [hsn, gl_snoc, wl_snoc] at nx
            exact nx
      exact l72 L.length 0 (by omega)
  have := l52 (2 ^ L.length - 1) 0 0 (by omega) rfl
  rw [bm_0] at this
  exact this
theorem c_layOut {h : Hp} (w : WS st) (R : RelC st h) (r : Int) {b : Int} (hb : 0 ≤ b ∧ b ≤ 1000) : Cl shC mX0_layOut [pR 40, pI r, pI b] h (fun q h' => q = ((loB st (lkN (sT st) r (mk (sT st))) b).length : Int) ∧ RelC (sT st, sN st, sW st, sU st, sQ st, some (loX st (lkN (sT st) r (mk (sT st))) b)) h') := by
  refine sX0_layOut_0 (c_lookAt w R r (fun h1 x e44 e40 K => ?_))
  have hl := lk_len (sT st) r (mk (sT st))
  have hW : ∀ i, i < (lkN (sT st) r (mk (sT st))).length → 1 ≤ WL st (lkN (sT st) r (mk (sT st))) i ∧ WL st (lkN (sT st) r (mk (sT st))) i ≤ 800 := fun i hi => WL_b w hi
  generalize lkN (sT st) r (mk (sT st)) = L at *
  have K1 : LKc st L (hI h1 40 9 0) := K.kp (by rw [hI_at, if_neg (by omega)]) (fun _ _ _ => rfl)
  have Q1 : PK [] (hI h1 40 9 0) := ⟨by rw [hI_at, if_pos ⟨rfl, rfl⟩]; rfl, fun i x hi => by cases hi⟩
  refine c_takePicked (p := []) K1 hl Q1 (by decide) (fun x hx => by cases hx) (fun h2 c2 K2 Q2 L2 => ?_)
  have hc := cst_12 hl
  refine c_dfs (h0 := h1) hl hW hb L.length 0 [] [] h2 0 (by omega) (Nat.le_refl _) (fun x hx => by cases hx) ⟨Int.le_refl _, Int.le_refl _⟩ (by omega) (fun f hf => ?_) ⟨(cf.rf.I).tr c2, K2, Q2, L2⟩ (fun h3 T3 B hT d I => ?_)
  · cases q : sg f L.length 0 with
    | nil => exact absurd q hf
    | cons a y => exact lx_nc
  · obtain ⟨c3, K3, Q3, L3⟩ := I
    have eB : B = loB st L b := best_same hb.1 d
    have hr : h3.2.1 40 12 = ((loB st L b).length : Int) := by
      rw [← eB]
      exact L3.2.2.1
    have fin : RelC (sT st, sN st, sW st, sU st, sQ st, some (loX st L b)) h3 := by
      refine (x.tr c3).rel R ⟨?_, ?_, ?_, fun i z hz => ?_⟩
      · show h3.2.1 40 10 = gl (GL st L) (loB st L b)
        rw [← eB]
        exact L3.1
      · show h3.2.1 40 11 = wl (WL st L) (loB st L b)
        rw [← eB]
        exact L3.2.1
      · show h3.2.1 40 12 = (((loB st L b).map (fun x => ((L.getD x 0 : Nat) : Int))).length : Int)
        rw [List.length_map]
        exact hr
      · have hz : (List.map (fun x => ((L.getD x 0 : Nat) : Int)) (loB st L b))[i]? = some z := hz
        rw [List.getElem?_map] at hz
        cases q : (loB st L b)[i]? with
        | none => rw [q] at hz; cases hz
        | some y =>
          rw [q] at hz
          cases hz
          exact L3.2.2.2 i y (by rw [eB]; exact q)
    refine sX0_layOut_27 ⟨fun q => absurd q (by omega), fun _ => ?_⟩
    rw [K3.1, Q3.1]
    exact ⟨fun q => absurd q (by omega), fun _ => ⟨fun _ => ⟨hr, fin⟩, fun q => absurd (Int.le_refl _) q⟩⟩
theorem sim_layout (w : WS st) (r b : Int) : Sim st mX8_layout mX9_layout [pI r, pI b] := by
  intro h g R M
  have hm := w.1.m
  by_cases ok : (0 ≤ r ∧ r < (rt (sT st) : Int)) ∧ 0 ≤ b ∧ b ≤ 1000
  · obtain ⟨k, hk1, hk2, hk3⟩ := m_routI w.1 M.1 ok.1
    by_cases hb : bdI (sT st) r = -4
    · refine ⟨-2, st, w, sX8_layout_0 (c_refusal R.1 r b (fun q => absurd ok q) (fun _ _ => ⟨fun c => absurd c (by decide), fun _ => ⟨rfl, R⟩⟩) (fun _ q => absurd hb q)), sX9_layout_0 (m_isRoutine M.1 r ⟨fun q => absurd ok.1 (b2_0.mp q), fun _ => m_in b 0 1000 ⟨fun _ => ⟨k, hk1, hk2, ?_⟩, fun q => absurd ok.2 (b2_0.mp q)⟩⟩)⟩
      rw [hk3]
      exact ⟨fun q => absurd hb q, fun _ => ⟨rfl, M⟩⟩
    · have hl := lk_len (sT st) r (mk (sT st))
      refine ⟨((loB st (lkN (sT st) r (mk (sT st))) b).length : Int), (sT st, sN st, sW st, sU st, sQ st, some (loX st (lkN (sT st) r (mk (sT st))) b)), ⟨w.1, w.2.1, w.2.2.1, w.2.2.2.1, w.2.2.2.2.1, fun x hx => ?_⟩, sX8_layout_0 (c_refusal R.1 r b (fun q => absurd ok q) (fun _ q => absurd q hb) (fun _ _ => ⟨fun _ => c_layOut w R r ok.2, fun c => absurd rfl c⟩)), sX9_layout_0 (m_isRoutine M.1 r ⟨fun q => absurd ok.1 (b2_0.mp q), fun _ => m_in b 0 1000 ⟨fun _ => ⟨k, hk1, hk2, ?_⟩, fun q => absurd ok.2 (b2_0.mp q)⟩⟩)⟩
      · have hx : some (loX st (lkN (sT st) r (mk (sT st))) b) = some x := hx
        cases hx
        show (List.map _ (loB st _ b)).length ≤ 12
        rw [List.length_map]
        exact Nat.le_trans (sg_len _ _ _) hl
      · rw [hk3]
        refine ⟨fun _ => m_looks w M (by omega) (fun g1 x _ _ K => ?_), fun q => absurd q hb⟩
        exact m_layout2 hl (fun i hi => WL_b w hi) ok.2 K (fun g2 x2 LL => ⟨rfl, (x.tr x2).rel M LL⟩)
  · refine ⟨-1, st, w, sX8_layout_0 (c_refusal R.1 r b (fun _ => ⟨fun c => absurd c (by decide), fun _ => ⟨rfl, R⟩⟩) (fun q => absurd q ok) (fun q => absurd q ok)), sX9_layout_0 (m_isRoutine M.1 r ⟨fun _ => ⟨rfl, M⟩, fun q => m_in b 0 1000 ⟨fun q2 => absurd ⟨b2_n0.mp q, b2_n0.mp q2⟩ ok, fun _ => ⟨rfl, M⟩⟩⟩)⟩
end MLY
