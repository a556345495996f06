/-! java.util.Arrays.fill of ints -/
def filA (h : Hp) (a lo hi : Nat) (z : Int) : Hp := (fun a' i => if a' = a ∧ lo ≤ i ∧ i < hi then z else h.1 a' i, h.2)
theorem filA_st {h : Hp} {a lo i : Nat} {z : Int} (hl : lo ≤ i) : hA (filA h a lo i z) a i z = filA h a lo (i + 1) z := by
  unfold hA filA
  congr 1
  funext a' j
  show (if a' = a ∧ j = i then z else if a' = a ∧ lo ≤ j ∧ j < i then z else h.1 a' j) = _
  by_cases ha : a' = a
  · by_cases hj : j = i
    · rw [if_pos ⟨ha, hj⟩, if_pos ⟨ha, by omega, by omega⟩]
    · rw [if_neg (fun q => hj q.2)]
      by_cases h2 : lo ≤ j ∧ j < i
      · rw [if_pos ⟨ha, h2⟩, if_pos ⟨ha, by omega, by omega⟩]
      · rw [if_neg (fun q => h2 q.2), if_neg (fun q => h2 (by omega))]
  · rw [if_neg (fun q => ha q.1), if_neg (fun q => ha q.1), if_neg (fun q => ha q.1)]
theorem filA_0 {h : Hp} {a lo : Nat} {z : Int} : filA h a lo lo z = h := by
  unfold filA
  have : (fun a' i => if a' = a ∧ lo ≤ i ∧ i < lo then z else h.1 a' i) = h.1 := by
    funext a' j
    rw [if_neg (by omega)]
  rw [this]
theorem fill_5 {Sg : Nat → List Sh} {a n : Nat} {z : Int} {h : Hp} {Post : Int → Hp → Prop} (hs : (Sg h.2.2)[a]? = some (shA n)) (hn : n < 2147483648) (K : Post 0 (filA h a 0 n z)) : ∀ (d i : Nat), i + d = n →
    Ok Sg 0 0 mJ7_fill_53178 5 [some (pR a), some (pI z), some (pI i), some (pI n)] [] (filA h a 0 i z) Post := by
  intro d
  induction d with
  | zero =>
    intro i hi
    have hin : i = n := by omega
    subst hin
    refine Ok.iload_n (pc' := 6) rfl dJ7_fill_53178_5 rfl ?_
    refine Ok.iload_n (pc' := 7) rfl dJ7_fill_53178_6 rfl ?_
    refine Ok.icmp_ge (tgt := 20) dJ7_fill_53178_7 rfl rfl (fun c1 => ?_) (fun c1 => absurd (Int.le_refl _) c1)
    exact Ok.vret dJ7_fill_53178_20 rfl (by decide) K
  | succ d ih =>
    intro i hi
    refine Ok.iload_n (pc' := 6) rfl dJ7_fill_53178_5 rfl ?_
    refine Ok.iload_n (pc' := 7) rfl dJ7_fill_53178_6 rfl ?_
    refine Ok.icmp_ge (tgt := 20) dJ7_fill_53178_7 rfl rfl (fun c1 => absurd c1 (by omega)) (fun c1 => ?_)
    refine Ok.aload_n (pc' := 11) rfl dJ7_fill_53178_10 rfl ?_
    refine Ok.iload_n (pc' := 12) rfl dJ7_fill_53178_11 rfl ?_
    refine Ok.iload_n (pc' := 13) rfl dJ7_fill_53178_12 rfl ?_
    refine Ok.iast (pc' := 14) dJ7_fill_53178_13 rfl hs hn (k := i) rfl (by omega) ?_
    refine Ok.iinc (pc' := 17) (ls' := [some (pR a), some (pI z), some (pI ((i : Int) + 1)), some (pI n)]) dJ7_fill_53178_14 rfl rfl (by decide) rfl rfl (by unfold inR; omega) ?_
    refine Ok.goto (tgt := 5) dJ7_fill_53178_17 rfl ?_
    rw [filA_st (Nat.zero_le _)]
    exact ih (i + 1) (by omega)
theorem c_fill {Sg : Nat → List Sh} {a n : Nat} {z : Int} {h : Hp} {Post : Int → Hp → Prop} (hs : (Sg h.2.2)[a]? = some (shA n)) (hn : n < 2147483648) (K : Post 0 (filA h a 0 n z)) : Cl Sg mJ7_fill_53178 [pR a, pI z] h Post := by
  show Ok Sg 0 0 mJ7_fill_53178 0 [some (pR a), some (pI z), none, none] [] h Post
  refine Ok.iconst (pc' := 1) in_0 dJ7_fill_53178_0 rfl ?_
  refine Ok.istore_n (pc' := 2) (ls' := [some (pR a), some (pI z), some (pI 0), none]) dJ7_fill_53178_1 rfl (by decide) rfl rfl ?_
  refine Ok.aload_n (pc' := 3) rfl dJ7_fill_53178_2 rfl ?_
  refine Ok.alen (pc' := 4) dJ7_fill_53178_3 rfl hs hn ?_
  refine Ok.istore_n (pc' := 5) (ls' := [some (pR a), some (pI z), some (pI 0), some (pI n)]) dJ7_fill_53178_4 rfl (by decide) rfl rfl ?_
  have k := fill_5 hs hn K n 0 (by omega)
  rw [filA_0] at k
  exact k
theorem c_rangeCheck {Sg : Nat → List Sh} {n lo hi : Int} {h : Hp} {Post : Int → Hp → Prop} (h1 : lo ≤ hi) (h2 : 0 ≤ lo) (h3 : hi ≤ n) (K : Post 0 h) : Cl Sg mJ7_rangeCheck_23922 [pI n, pI lo, pI hi] h Post := by
  show Ok Sg 0 0 mJ7_rangeCheck_23922 0 [some (pI n), some (pI lo), some (pI hi)] [] h Post
  refine Ok.iload_n (pc' := 1) rfl dJ7_rangeCheck_23922_0 rfl ?_
  refine Ok.iload_n (pc' := 2) rfl dJ7_rangeCheck_23922_1 rfl ?_
  refine Ok.icmp_le (tgt := 46) dJ7_rangeCheck_23922_2 rfl rfl (fun c1 => ?_) (fun c1 => absurd h1 c1)
  refine Ok.iload_n (pc' := 47) rfl dJ7_rangeCheck_23922_46 rfl ?_
  refine Ok.if_ge (tgt := 59) dJ7_rangeCheck_23922_47 rfl rfl (fun c1 => ?_) (fun c1 => absurd h2 c1)
  refine Ok.iload_n (pc' := 60) rfl dJ7_rangeCheck_23922_59 rfl ?_
  refine Ok.iload_n (pc' := 61) rfl dJ7_rangeCheck_23922_60 rfl ?_
  refine Ok.icmp_le (tgt := 73) dJ7_rangeCheck_23922_61 rfl rfl (fun c1 => ?_) (fun c1 => absurd h3 c1)
  exact Ok.vret dJ7_rangeCheck_23922_73 rfl (by decide) K
theorem fill_10 {Sg : Nat → List Sh} {a n lo hi : Nat} {z : Int} {h : Hp} {Post : Int → Hp → Prop} (hs : (Sg h.2.2)[a]? = some (shA n)) (hn : n < 2147483648) (hh : hi ≤ n) (K : Post 0 (filA h a lo hi z)) : ∀ (d i : Nat), i + d = hi → lo ≤ i →
    Ok Sg 0 0 mJ7_fill_fda19 10 [some (pR a), some (pI lo), some (pI hi), some (pI z), some (pI i)] [] (filA h a lo i z) Post := by
  intro d
  induction d with
  | zero =>
    intro i hi' hl
    have hin : i = hi := by omega
    subst hin
    refine Ok.iload (pc' := 12) rfl dJ7_fill_fda19_10 rfl ?_
    refine Ok.iload_n (pc' := 13) rfl dJ7_fill_fda19_12 rfl ?_
    refine Ok.icmp_ge (tgt := 27) dJ7_fill_fda19_13 rfl rfl (fun c1 => ?_) (fun c1 => absurd (Int.le_refl _) c1)
    exact Ok.vret dJ7_fill_fda19_27 rfl (by decide) K
  | succ d ih =>
    intro i hi' hl
    refine Ok.iload (pc' := 12) rfl dJ7_fill_fda19_10 rfl ?_
    refine Ok.iload_n (pc' := 13) rfl dJ7_fill_fda19_12 rfl ?_
    refine Ok.icmp_ge (tgt := 27) dJ7_fill_fda19_13 rfl rfl (fun c1 => absurd c1 (by omega)) (fun c1 => ?_)
    refine Ok.aload_n (pc' := 17) rfl dJ7_fill_fda19_16 rfl ?_
    refine Ok.iload (pc' := 19) rfl dJ7_fill_fda19_17 rfl ?_
    refine Ok.iload_n (pc' := 20) rfl dJ7_fill_fda19_19 rfl ?_
    refine Ok.iast (pc' := 21) dJ7_fill_fda19_20 rfl hs hn (k := i) rfl (by omega) ?_
    refine Ok.iinc (pc' := 24) (ls' := [some (pR a), some (pI lo), some (pI hi), some (pI z), some (pI ((i : Int) + 1))]) dJ7_fill_fda19_21 rfl rfl (by decide) rfl rfl (by unfold inR; omega) ?_
    refine Ok.goto (tgt := 10) dJ7_fill_fda19_24 rfl ?_
    rw [filA_st hl]
    exact ih (i + 1) (by omega) (by omega)
theorem c_fillIn {Sg : Nat → List Sh} {a n lo hi : Nat} {x y z : Int} {h : Hp} {Post : Int → Hp → Prop} (hx : x = (lo : Int)) (hy : y = (hi : Int)) (hs : (Sg h.2.2)[a]? = some (shA n)) (hn : n < 2147483648) (h1 : lo ≤ hi) (h2 : hi ≤ n) (K : Post 0 (filA h a lo hi z)) : Cl Sg mJ7_fill_fda19 [pR a, pI x, pI y, pI z] h Post := by
  subst hx; subst hy
  show Ok Sg 0 0 mJ7_fill_fda19 0 [some (pR a), some (pI lo), some (pI hi), some (pI z), none] [] h Post
  refine Ok.aload_n (pc' := 1) rfl dJ7_fill_fda19_0 rfl ?_
  refine Ok.alen (pc' := 2) dJ7_fill_fda19_1 rfl hs hn ?_
  refine Ok.iload_n (pc' := 3) rfl dJ7_fill_fda19_2 rfl ?_
  refine Ok.iload_n (pc' := 4) rfl dJ7_fill_fda19_3 rfl ?_
  refine Ok.callS (pc' := 7) (av := [pI n, pI lo, pI hi]) (rest := []) dJ7_fill_fda19_4 rfl (by decide) cvJ7_fill_fda19_13 rfl rfl (leb rfl) (leb rfl) (c_rangeCheck (Post := fun q h' => q = 0 ∧ h' = h) (by omega) (by omega) (by omega) ⟨rfl, rfl⟩) (fun q h' K2 => ?_)
  obtain ⟨rfl, rfl⟩ := K2
  refine Ok.iload_n (pc' := 8) rfl dJ7_fill_fda19_7 rfl ?_
  refine Ok.istore (pc' := 10) (ls' := [some (pR a), some (pI lo), some (pI hi), some (pI z), some (pI lo)]) dJ7_fill_fda19_8 rfl (by decide) rfl rfl ?_
  have k := fill_10 hs hn h2 K (hi - lo) lo (by omega) (Nat.le_refl _)
  rw [filA_0] at k
  exact k
