/-! BOTH SIDES: drop -/
section SDR
variable {t : TV} {h : Hp} {P : Int → Hp → Prop}
theorem bitv {m r : Nat} (hm : m < 2 ^ 10) (hr : r < 32) : b_iand (b_ishr (m : Int) (r : Int)) 1 = if m.testBit r then 1 else 0 := b_bit (Nat.lt_of_lt_of_le hm (by decide)) hr
theorem ior_pow {m : Nat} {z : Int} (hm : m < 2 ^ 10) (hz : 0 ≤ z ∧ z < 10) : b_ior (m : Int) (b_ishl 1 z) = ((m ||| 2 ^ z.toNat : Nat) : Int) := by
  obtain ⟨k, hk⟩ := Int.eq_ofNat_of_zero_le hz.1
  subst hk
  have h10 : 2 ^ k < 2 ^ 10 := Nat.pow_lt_pow_right (by decide) (by omega)
  rw [b_ishl_n (by omega), b_ior_n (Nat.lt_of_lt_of_le hm (by decide)) (Nat.lt_of_lt_of_le h10 (by decide))]
  rfl
theorem c_calledBy (w : WF t) (R : RC t h) {a : Nat} (ha : a < 2 ^ 10) (p : ∀ h', fr 9 13 h h' → P (cb t a : Int) h') : Cl shC mX1_calledBy [pR 1, pI (a : Int)] h P := by
  have hm := R.m
  have l48 : ∀ (v : Nat) (z : Int), v < rt t → (∀ h2, fr 9 13 h h2 → Ok shC 0 0 mX1_calledBy 4 [some (pR 1), some (pI (a : Int)), some (pI (crL t (plist t z) (cbN t a v) : Int)), some (pI ((v : Int) + 1)), none, none] [] h2 P) → ∀ (h1 : Hp), fr 9 13 h h1 → h1.2.1 9 4 = ((plist t z).length : Int) → DA h1 10 11 (plist t z) → ∀ (D2 D1 : List (Nat × Nat)), D1 ++ D2 = plist t z → Ok shC 0 0 mX1_calledBy 48 [some (pR 1), some (pI (a : Int)), some (pI (crL t D1 (cbN t a v) : Int)), some (pI (v : Int)), some (pI (D1.length : Int)), none] [] h1 P := by
    intro v z hv next h1 x hs hD D2
    have hlen := plist_len (t := t) (z := z) w.trr
    have R1 := R.wk isW9 x
    induction D2 with
    | nil =>
      intro D1 he
      rw [List.append_nil] at he
      subst he
      exact sX1_calledBy_48 ⟨fun _ => ⟨by unfold inR; omega, next h1 x⟩, fun c => absurd (by rw [hs]; exact Int.le_refl _) c⟩
    | cons q D2 ih =>
      intro D1 he
      have hl : D1.length < (plist t z).length := by rw [← he]; simp
      have hq : (plist t z)[D1.length]? = some q := by rw [← he]; simp
      have hqm := plist_at w (List.mem_of_getElem? hq)
      have hcl : crL t D1 (cbN t a v) < 2 ^ 10 := crL_lt (fun x hx => bdy_nm w z x (by rw [← he]; exact List.mem_append_left _ hx)) _ (cbN_lt w a v)
      have this1 := ih (D1 ++ [q]) (by rw [← he]; simp)
      rw [crL_snoc, List.length_append] at this1
      refine sX1_calledBy_48 ⟨fun c => absurd c (by omega), fun _ => ⟨D1.length, rfl, by omega, ?_⟩⟩
      rw [(hD _ _ hq).1]
      refine c_kindOf R1 _ ?_
      rw [kdI_at hqm.1]
      refine ⟨fun c => ⟨by unfold inR; omega, ?_⟩, fun c => c_numberOf R1 _ ⟨by unfold inR; omega, ?_⟩⟩
      · rw [if_neg c] at this1
        rw [b_ior_0 (Nat.lt_of_lt_of_le hcl (by decide))]
        exact this1
      · rw [if_pos c] at this1
        have hn := (w.nmr hqm.1 hqm.2).2 c
        rw [nmI_at hqm.1, ior_pow hcl ⟨hn.1, by omega⟩]
        exact this1
  have l4 : ∀ (n v : Nat) (h1 : Hp), v + n = rt t → fr 9 13 h h1 → Ok shC 0 0 mX1_calledBy 4 [some (pR 1), some (pI (a : Int)), some (pI (cbN t a v : Int)), some (pI (v : Int)), none, none] [] h1 P := by
    intro n
    induction n with
    | zero =>
      intro v h1 hv x
      have R1 := R.wk isW9 x
      have e : v = rt t := hv
      subst e
      refine sX1_calledBy_4 ?_
      rw [R1.2.1]
      exact ⟨fun _ => p h1 x, fun c => absurd (Int.le_refl _) c⟩
    | succ n ih =>
      intro v h1 hv x
      have R1 := R.wk isW9 x
      refine sX1_calledBy_4 ?_
      rw [R1.2.1, bitv ha (by omega)]
      have nx := fun h2 (x2 : fr 9 13 h h2) => ih (v + 1) h2 (by omega) x2
      refine ⟨fun c => absurd c (by omega), fun _ => ⟨fun c => ?_, fun c => ?_⟩⟩
      · have hb : ¬ a.testBit v = true := fun q => c (by rw [if_pos q])
        have e4 : plist t (-4) = [] := if_neg (by unfold al; omega)
        refine c_over isW9 R1 (-4) w.trr (fun h2 x2 hs hD => ?_)
        rw [e4] at hs hD
        have := l48 v (-4) (by omega) (fun h3 x3 => by
          have := nx h3 x3
          rw [cbN, if_neg hb] at this
          rw [e4]
          exact this) h2 (x.tr x2) (by rw [e4]; exact hs) (by rw [e4]; exact hD) [] [] (by rw [e4]; rfl)
        exact this
      · have hb : a.testBit v = true := Classical.byContradiction fun q => by
          rw [if_neg q] at c
          exact absurd c (by decide)
        refine c_bodyOf R1 _ (c_over isW9 R1 _ w.trr (fun h2 x2 hs hD => ?_))
        exact l48 v _ (by omega) (fun h3 x3 => by
          have := nx h3 x3
          rw [cbN, if_pos hb] at this
          exact this) h2 (x.tr x2) hs hD (plist t (bdI t (v : Int))) [] rfl
  exact sX1_calledBy_0 (l4 (rt t) 0 h (by omega) fr.rf)
theorem c_dropUncalled (w : WF t) (R : RC t h) (p : ∀ h', fr 2 13 h h' → RC (drN t (rchM t) (rt t)) h' → P (drC t (rchM t) (rt t) : Int) h') : Cl shC mX1_dropUncalled [pR 1] h P := by
  have hm := R.m
  have hr := rch_least w
  have l38 : ∀ (n j : Nat) (h1 : Hp), j + n = rt t → fr 2 13 h h1 → RC (drN t (rchM t) j) h1 → Ok shC 0 0 mX1_dropUncalled 38 [some (pR 1), some (pI (rchM t : Int)), none, some (pI (drC t (rchM t) j : Int)), some (pI (j : Int))] [] h1 P := by
    intro n
    induction n with
    | zero =>
      intro j h1 hj x R1
      have e : j = rt t := hj
      subst e
      refine sX1_dropUncalled_38 ?_
      rw [R1.2.1, show rt (drN t (rchM t) (rt t)) = rt t from congrArg Prod.snd (drN_2 t _ _)]
      exact ⟨fun _ => p h1 x R1, fun c => absurd (Int.le_refl _) c⟩
    | succ n ih =>
      intro j h1 hj x R1
      have er : rt (drN t (rchM t) j) = rt t := congrArg Prod.snd (drN_2 t _ _)
      have hd : drC t (rchM t) j ≤ j := cnt_le _ j
      have hb : bdI (drN t (rchM t) j) (j : Int) = bd t j := by
        unfold bdI
        rw [if_pos ⟨by omega, by omega⟩]
        exact drN_b t _ j j (Nat.le_refl _)
      have s1 := drC_s t (rchM t) j
      have s2 : drN t (rchM t) (j + 1) = if (rchM t).testBit j = false ∧ bd t j ≠ -4 then tw (drN t (rchM t) j) 5 j (-4) else drN t (rchM t) j := rfl
      have nx := fun h2 (x2 : fr 2 13 h h2) => ih (j + 1) h2 (by omega) x2
      refine sX1_dropUncalled_38 ?_
      rw [R1.2.1, er, bitv hr.1 (by omega)]
      refine ⟨fun c => absurd c (by omega), fun _ => ⟨fun c => ⟨by unfold inR; omega, ?_⟩, fun c => c_isMissing R1 _ ⟨fun c2 => ⟨by unfold inR; omega, ?_⟩, fun c2 => ⟨j, rfl, by omega, by unfold inR; omega, by unfold inR; omega, ?_⟩⟩⟩⟩
      · have hf : ¬ ((rchM t).testBit j = false ∧ bd t j ≠ -4) := fun q => c (by rw [if_neg (by rw [q.1]; decide)])
        rw [if_neg hf] at s1 s2
        have := nx h1 x (by rw [s2]; exact R1)
        rw [s1] at this
        exact this
      · have c2 := b2_n0.mp c2
        rw [hb] at c2
        have hf : ¬ ((rchM t).testBit j = false ∧ bd t j ≠ -4) := fun q => q.2 c2
        rw [if_neg hf] at s1 s2
        have := nx h1 x (by rw [s2]; exact R1)
        rw [s1] at this
        exact this
      · have c2 := b2_0.mp c2
        rw [hb] at c2
        have hf : (rchM t).testBit j = false ∧ bd t j ≠ -4 := ⟨by
          cases q : (rchM t).testBit j with
          | false => rfl
          | true => rw [q, if_pos rfl] at c; exact absurd c (by decide), c2⟩
        rw [if_pos hf] at s1 s2
        have := nx (hA h1 8 j (-4)) (x.A ⟨by decide, by decide⟩) (by rw [s2]; exact R1.wr (ro := 5) (by decide) j (-4))
        rw [s1] at this
        exact this
  have l6 : ∀ (n i a b : Nat) (h1 : Hp), i + n = 10 → goodM t i a b → lpM t n a b = rchM t → fr 9 13 h h1 → Ok shC 0 0 mX1_dropUncalled 6 [some (pR 1), some (pI (a : Int)), some (pI (b : Int)), some (pI (i : Int)), none] [] h1 P := by
    intro n
    induction n with
    | zero =>
      intro i a b h1 hi g he x
      have e : i = 10 := hi
      subst e
      have R1 := R.wk isW9 x
      have he : a = rchM t := he
      refine sX1_dropUncalled_6 ⟨fun _ => ?_, fun c => absurd (Int.le_refl _) c⟩
      rw [he]
      exact l38 (rt t) 0 h1 (by omega) (x.wd (by decide) (by decide)) R1
    | succ n ih =>
      intro i a b h1 hi g he x
      have R1 := R.wk isW9 x
      rw [lpM] at he
      refine sX1_dropUncalled_6 ⟨fun c => absurd c (by omega), fun _ => ⟨fun c => ?_, fun c => ?_⟩⟩
      · rw [if_pos (by omega)] at he
        rw [he]
        exact l38 (rt t) 0 h1 (by omega) (x.wd (by decide) (by decide)) R1
      · rw [if_neg (by omega)] at he
        refine c_calledBy w R1 g.1 (fun h2 x2 => ⟨by unfold inR; omega, ?_⟩)
        have hcb : cb t a < 2 ^ 10 := cbN_lt w a _
        rw [b_ior_n (a := a) (b := cb t a) (Nat.lt_of_lt_of_le g.1 (by decide)) (Nat.lt_of_lt_of_le hcb (by decide))]
        exact ih (i + 1) _ _ h2 (by omega) (good_s w g (by omega)) he (x.tr x2)
  exact sX1_dropUncalled_0 (l6 10 0 1 0 h rfl good_0 rfl fr.rf)
/-- what the reference's drop may change behind keeping -/
def fd (g g' : Hp) : Prop := (∀ a, a ≠ 7 → a ≠ 9 → a ≠ 10 → a ≠ 11 → g'.1 a = g.1 a) ∧ g'.2 = g.2
theorem fm.fd {g g' : Hp} (x : fm 9 11 g g') : fd g g' := ⟨fun a _ _ _ _ => x.1 a (by omega), x.2⟩
theorem fd.A {g g1 : Hp} (x : fd g g1) {i : Nat} {z : Int} : fd g (hA g1 7 i z) := ⟨fun b h1 h2 h3 h4 => by
    rw [← x.1 b h1 h2 h3 h4]
    funext j
    show (if b = 7 ∧ j = i then z else g1.1 b j) = _
    rw [if_neg (by omega)], x.2⟩
def invM (t : TV) (a b : Nat) : Prop := a < 2 ^ 10 ∧ a.testBit 0 = true ∧ sb b a ∧ cls t b a ∧ ∀ M, M.testBit 0 = true → cls t M M → sb a M
theorem m_drop2 {g : Hp} (w : WF t) (R : RM t g) (p : ∀ g', fd g g' → RM (drN t (rchM t) (rt t)) g' → P (drC t (rchM t) (rt t) : Int) g') : Ok shM 0 0 mX9_drop 18 [some (pR 0), some (pI 1), some (pI 0), none, none, none] [] g P := by
  have hm := R.m
  have hr := rch_least w
  have l135 : ∀ (n j : Nat) (g1 : Hp), j + n = rt t → fd g g1 → RM (drN t (rchM t) j) g1 → Ok shM 0 0 mX9_drop 135 [some (pR 0), some (pI (rchM t : Int)), none, some (pI (drC t (rchM t) j : Int)), some (pI (j : Int)), none] [] g1 P := by
    intro n
    induction n with
    | zero =>
      intro j g1 hj x R1
      have e : j = rt t := hj
      subst e
      refine sX9_drop_135 ?_
      rw [R1.2.1, show rt (drN t (rchM t) (rt t)) = rt t from congrArg Prod.snd (drN_2 t _ _)]
      exact ⟨fun _ => p g1 x R1, fun c => absurd (Int.le_refl _) c⟩
    | succ n ih =>
      intro j g1 hj x R1
      have er : rt (drN t (rchM t) j) = rt t := congrArg Prod.snd (drN_2 t _ _)
      have hd : drC t (rchM t) j ≤ j := cnt_le _ j
      have hb : g1.1 7 j = bd t j := by
        rw [R1.b (by omega)]
        exact drN_b t _ j j (Nat.le_refl _)
      have s1 := drC_s t (rchM t) j
      have s2 : drN t (rchM t) (j + 1) = if (rchM t).testBit j = false ∧ bd t j ≠ -4 then tw (drN t (rchM t) j) 5 j (-4) else drN t (rchM t) j := rfl
      have nx := fun g2 (x2 : fd g g2) => ih (j + 1) g2 (by omega) x2
      refine sX9_drop_135 ?_
      rw [R1.2.1, er, bitv hr.1 (by omega)]
      refine ⟨fun c => absurd c (by omega), fun _ => ⟨fun c => ⟨by unfold inR; omega, ?_⟩, fun c => ⟨j, rfl, by omega, ?_⟩⟩⟩
      · have hf : ¬ ((rchM t).testBit j = false ∧ bd t j ≠ -4) := fun q => c (by rw [if_neg (by rw [q.1]; decide)])
        rw [if_neg hf] at s1 s2
        have := nx g1 x (by rw [s2]; exact R1)
        rw [s1] at this
        exact this
      · rw [hb]
        refine ⟨fun c2 => ⟨by unfold inR; omega, ?_⟩, fun c2 => ⟨by unfold inR; omega, by unfold inR; omega, ?_⟩⟩
        · have hf : ¬ ((rchM t).testBit j = false ∧ bd t j ≠ -4) := fun q => q.2 c2
          rw [if_neg hf] at s1 s2
          have := nx g1 x (by rw [s2]; exact R1)
          rw [s1] at this
          exact this
        · have hf : (rchM t).testBit j = false ∧ bd t j ≠ -4 := ⟨by
            cases q : (rchM t).testBit j with
            | false => rfl
            | true => rw [q, if_pos rfl] at c; exact absurd c (by decide), c2⟩
          rw [if_pos hf] at s1 s2
          have := nx (hA g1 7 j (-4)) x.A (by rw [s2]; exact R1.wr (ro := 5) (by decide) j (-4))
          rw [s1] at this
          exact this
  have fin : ∀ (a : Nat) (g1 : Hp), fm 9 11 g g1 → invM t a a → Ok shM 0 0 mX9_drop 18 [some (pR 0), some (pI (a : Int)), some (pI (a : Int)), none, none, none] [] g1 P := by
    intro a g1 x iv
    have e : a = rchM t := least_uniq ⟨iv.1, iv.2.1, iv.2.2.2.1, iv.2.2.2.2⟩ hr
    refine sX9_drop_18 ⟨fun _ => ?_, fun c => absurd rfl c⟩
    rw [e]
    exact l135 (rt t) 0 g1 (by omega) x.fd (R.kp x (by decide))
  have l70 : ∀ (v a' b : Nat) (z : Int), v < rt t → a' < 2 ^ 10 → (∀ g2, fm 9 11 g g2 → Ok shM 0 0 mX9_drop 27 [some (pR 0), some (pI (crL t (plist t z) a' : Int)), some (pI (b : Int)), some (pI ((v : Int) + 1)), none, none] [] g2 P) → ∀ (g1 : Hp), fm 9 11 g g1 → OA g1 (plist t z) → ∀ (D2 D1 : List (Nat × Nat)), D1 ++ D2 = plist t z → Ok shM 0 0 mX9_drop 70 [some (pR 0), some (pI (crL t D1 a' : Int)), some (pI (b : Int)), some (pI (v : Int)), some (pI ((plist t z).length : Int)), some (pI (D1.length : Int))] [] g1 P := by
    intro v a' b z hv ha next g1 x hO D2
    have hlen := plist_len (t := t) (z := z) w.trr
    have R1 := R.kp x (by decide)
    induction D2 with
    | nil =>
      intro D1 he
      rw [List.append_nil] at he
      subst he
      exact sX9_drop_70 ⟨fun _ => ⟨by unfold inR; omega, next g1 x⟩, fun c => absurd (Int.le_refl _) c⟩
    | cons q D2 ih =>
      intro D1 he
      have hl : D1.length < (plist t z).length := by rw [← he]; simp
      have hq : (plist t z)[D1.length]? = some q := by rw [← he]; simp
      have hqm := plist_at w (List.mem_of_getElem? hq)
      have hcl : crL t D1 a' < 2 ^ 10 := crL_lt (fun x hx => bdy_nm w z x (by rw [← he]; exact List.mem_append_left _ hx)) _ ha
      have this1 := ih (D1 ++ [q]) (by rw [← he]; simp)
      rw [crL_snoc, List.length_append] at this1
      refine sX9_drop_70 ⟨fun c => absurd c (by omega), fun _ => ⟨D1.length, rfl, by omega, q.1, hO _ _ hq, by omega, ?_⟩⟩
      rw [R1.k hqm.1, R1.n hqm.1]
      refine ⟨fun c => ⟨by unfold inR; omega, ?_⟩, fun c => ⟨by unfold inR; omega, ?_⟩⟩
      · rw [if_neg c] at this1
        rw [b_ior_0 (Nat.lt_of_lt_of_le hcl (by decide))]
        exact this1
      · rw [if_pos c] at this1
        have hn := (w.nmr hqm.1 hqm.2).2 c
        rw [ior_pow hcl ⟨hn.1, by omega⟩]
        exact this1
  have l27 : ∀ (b : Nat), b.testBit 0 = true → (∀ a' g2, fm 9 11 g g2 → invM t a' b → Ok shM 0 0 mX9_drop 18 [some (pR 0), some (pI (a' : Int)), some (pI (b : Int)), none, none, none] [] g2 P) → ∀ (n v a' : Nat) (g1 : Hp), v + n = rt t → fm 9 11 g g1 → a' < 2 ^ 10 → sb b a' → (∀ M, M.testBit 0 = true → cls t M M → sb a' M) → (∀ r, r < v → b.testBit r = true → ∀ q ∈ plist t (bdI t r), kd t q.1 = 6 → a'.testBit (nm t q.1).toNat = true) → Ok shM 0 0 mX9_drop 27 [some (pR 0), some (pI (a' : Int)), some (pI (b : Int)), some (pI (v : Int)), none, none] [] g1 P := by
    intro b hb0 next n
    induction n with
    | zero =>
      intro v a' g1 hv x ha hsb hmin hcl
      have e : v = rt t := hv
      subst e
      have R1 := R.kp x (by decide)
      refine sX9_drop_27 ?_
      rw [R1.2.1]
      exact ⟨fun _ => next a' g1 x ⟨ha, hsb 0 hb0, hsb, hcl, hmin⟩, fun c => absurd (Int.le_refl _) c⟩
    | succ n ih =>
      intro v a' g1 hv x ha hsb hmin hcl
      have R1 := R.kp x (by decide)
      have hbd : bdI t (v : Int) = bd t v := by
        unfold bdI
        rw [if_pos ⟨by omega, by omega⟩]
        rfl
      refine sX9_drop_27 ?_
      rw [R1.2.1, bitv ha (by omega)]
      refine ⟨fun c => absurd c (by omega), fun _ => ⟨fun c => ⟨by unfold inR; omega, ?_⟩, fun c => ⟨v, rfl, by omega, ?_⟩⟩⟩
      · have hn : ¬ a'.testBit v = true := fun q => c (by rw [if_pos q])
        refine ih (v + 1) a' g1 (by omega) x ha hsb hmin (fun r hr hbr => ?_)
        by_cases e : r = v
        · rw [e] at hbr
          exact absurd (hsb v hbr) hn
        · exact hcl r (by omega) hbr
      · have hy : a'.testBit v = true := Classical.byContradiction fun q => by
          rw [if_neg q] at c
          exact absurd c (by decide)
        rw [R1.b (by omega)]
        refine ⟨fun c2 => ⟨by unfold inR; omega, ?_⟩, fun c2 => ?_⟩
        · refine ih (v + 1) a' g1 (by omega) x ha hsb hmin (fun r hr hbr q hq hk => ?_)
          by_cases e : r = v
          · rw [e, hbd, c2, show plist t (-4) = [] from if_neg (by unfold al; omega)] at hq
            cases hq
          · exact hcl r (by omega) hbr q hq hk
        · have hal : al t (bd t v) := ((w.2.2.1 v (by omega)).2.2.resolve_left c2).1
          refine m_goes' w R1 hal (fun g2 x2 hO _ => ?_)
          have := l70 v a' b (bd t v) (by omega) ha (fun g3 x3 => ?_) g2 (x.tr x2) hO (plist t (bd t v)) [] rfl
          · exact this
          · refine ih (v + 1) _ g3 (by omega) x3 (crL_lt (bdy_nm w _) _ ha) (hsb.tr (crL_ge t _ _)) (fun M h0 hM => crL_sub t _ _ M (hmin M h0 hM) (fun q hq hk => ?_)) (fun r hr hbr q hq hk => ?_)
            · exact hM v (by omega) (hmin M h0 hM v hy) q (by rw [hbd]; exact hq) hk
            · by_cases e : r = v
              · rw [e, hbd] at hq
                exact crL_has t _ _ q hq hk
              · exact crL_ge t _ _ _ (hcl r (by omega) hbr q hq hk)
  have l18 : ∀ (d a b : Nat) (g1 : Hp), fm 9 11 g g1 → invM t a b → (a = b ∨ 10 ≤ d + cnt a.testBit 10) → Ok shM 0 0 mX9_drop 18 [some (pR 0), some (pI (a : Int)), some (pI (b : Int)), none, none, none] [] g1 P := by
    intro d
    induction d with
    | zero =>
      intro a b g1 x iv hd
      by_cases c : a = b
      · subst c
        exact fin a g1 x iv
      · have h10 := hd.resolve_left c
        refine sX9_drop_18 ⟨fun q => absurd q (by omega), fun _ => l27 a iv.2.1 (fun a' g2 x2 iv2 => ?_) (rt t) 0 a g1 (by omega) x iv.1 sb.rf iv.2.2.2.2 (fun r hr => by omega)⟩
        have e : a = a' := Classical.byContradiction fun q => by
          have := iv2.2.2.1.cnt iv2.1 q
          have := cnt_le a'.testBit 10
          omega
        subst e
        exact fin a g2 x2 iv2
    | succ d ih =>
      intro a b g1 x iv hd
      by_cases c : a = b
      · subst c
        exact fin a g1 x iv
      · have h10 := hd.resolve_left c
        refine sX9_drop_18 ⟨fun q => absurd q (by omega), fun _ => l27 a iv.2.1 (fun a' g2 x2 iv2 => ?_) (rt t) 0 a g1 (by omega) x iv.1 sb.rf iv.2.2.2.2 (fun r hr => by omega)⟩
        refine ih a' a g2 x2 iv2 ?_
        by_cases e : a = a'
        · exact Or.inl e.symm
        · have := iv2.2.2.1.cnt iv2.1 e
          exact Or.inr (by omega)
  have g0 := good_0 (t := t)
  exact l18 10 1 0 g fm.rf ⟨g0.1, g0.2.2.1, g0.2.2.2.1, g0.2.2.2.2.1, g0.2.2.2.2.2.1⟩ (Or.inr (by omega))
theorem kf.rm {t : TV} {g g2 : Hp} (f2 : kf g g2) (M : RM t g) : RM t g2 := by
  obtain ⟨r1, r2, r3, r4, r5, r6, r7⟩ := M
  have e : ∀ i, i < 6 → g2.1 (ρM i) = g.1 (ρM i) := fun i hi => f2.1 _ (Or.inl (by rcases (by omega : i = 0 ∨ i = 1 ∨ i = 2 ∨ i = 3 ∨ i = 4 ∨ i = 5) with rfl | rfl | rfl | rfl | rfl | rfl <;> decide))
  refine ⟨(f2.2.1 0 0 (by omega)).trans r1, (f2.2.1 0 6 (by omega)).trans r2, r3, r4, fun s hs => ?_, fun j hj => ?_, fun q hq => ?_⟩
  · rw [e 0 (by decide), e 1 (by decide), e 3 (by decide)]; exact r5 s hs
  · rw [e 2 (by decide)]; exact r6 j hj
  · rw [e 4 (by decide), e 5 (by decide)]; exact r7 q hq
theorem sim_drop {st : St} (w : WS st) : Sim1 st mX8_drop mX9_drop [] := by
  intro h g R M
  have hm := w.1.m
  by_cases hr : rt (sT st) = 0
  · refine ⟨-2, st, w, sX8_drop_0 (c_isRoutine R.1 0 ⟨fun c => absurd (b2_n0.mp c) (by omega), fun _ => ⟨rfl, R⟩⟩), sX9_drop_0 ?_⟩
    rw [M.1.2.1]
    exact ⟨fun c => absurd (by omega) c, fun _ => ⟨rfl, M⟩⟩
  · have e2 := drN_2 (sT st) (rchM (sT st)) (rt (sT st))
    refine ⟨drC (sT st) (rchM (sT st)) (rt (sT st)), _, ws_push w (drN_wf w.1 (rchM (sT st)) (rt (sT st))) (congrArg Prod.fst e2) (congrArg Prod.snd e2) (drN_p _ _ _), sX8_drop_0 (c_isRoutine R.1 0 ⟨fun _ => ?_, fun c => absurd (b2_0.mp c) (by omega)⟩), sX9_drop_0 ?_⟩
    · refine c_holdK R.1 R.2.2 (fun h3 k3 cp3 => c_dropUncalled w.1 (k3.rc R.1) (fun h4 f4 R4 => ⟨rfl, R4, ?_, cp3.fw f4 (Or.inl (by decide))⟩))
      have c3 : CX (drN (sT st) (rchM (sT st)) (rt (sT st)), sN st, sW st, pushU (sU st) (sT st), sQ st, sL st) h3 := k3.cx (st := st) R.2.1
      exact c3.fw f4 (Or.inl (by decide))
    · rw [M.1.2.1]
      refine ⟨fun _ => m_keep M.1 M.2.2 w.2.1 (fun u hu => (w.2.2.1 u hu).1.m) (fun g2 f2 M2 => ?_), fun c => absurd c (by omega)⟩
      have R2 : RM (sT st) g2 := f2.rm M.1
      refine m_drop2 w.1 R2 (fun g3 f3 R3 => ⟨rfl, R3, ?_, ?_⟩)
      · have c0 : MX (drN (sT st) (rchM (sT st)) (rt (sT st)), sN st, sW st, pushU (sU st) (sT st), sQ st, sL st) g := M.2.1
        refine c0.kp (fun s _ => ?_) ?_ ?_ (fun k hk => ?_)
        · rw [f3.1 5 (by decide) (by decide) (by decide) (by decide)]
          exact congrFun (f2.1 5 (by decide)) s
        · rw [f3.1 8 (by decide) (by decide) (by decide) (by decide)]
          exact f2.1 8 (by decide)
        · rw [f3.1 27 (by decide) (by decide) (by decide) (by decide)]
          exact f2.1 27 (by decide)
        · rw [f3.2]
          exact f2.2.1 0 k (by omega)
      · exact M2.kp (by rw [f3.2]) (f3.1 19 (by decide) (by decide) (by decide) (by decide)) (f3.1 20 (by decide) (by decide) (by decide) (by decide)) (f3.1 21 (by decide) (by decide) (by decide) (by decide))
end SDR
