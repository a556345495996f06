/-! MELT: the class writes a call out -/
section ME4
variable {t : TV} {c : Nat}
theorem rpl_at (t : TV) (a n : Nat) (x y : Int) (r j : Nat) : (rpl t a n x y).1 r j = if r = 2 ∧ j / 3 = a ∧ j % 3 < n ∧ t.1 2 j = x then y else t.1 r j := rfl
/-- a part of the call is moved -/
theorem CT_move (h : MH t c) {lk : Nat → Bool} {jk n k : Nat} (hk : k < qp t c) (hl : lk (qx t c k) = false) (hn : qb t c k + 1 < n) (hE : n ≤ qE t c) : TE (lnk (lsn (CT t c false lk jk n) (qx t c k)) (qb t c k + 1) 0 (qx t c k)) (CT t c false (lkU lk (qx t c k)) jk n) := by
  have hu := h.u4
  have hx := h.x hk
  have hge := qb_ge (t := t) (c := c) k
  have hpn : pN t c (qb t c k + 1) 0 = (qx t c k : Int) := by rw [pN_s (by omega), if_pos rfl, if_pos hk]
  have eu : up (CT t c false lk jk n) (qx t c k) = (c : Int) := by
    rw [CT_u, hl, if_neg (by decide), if_pos hx.2.1]
    exact hx.2.2.2.1
  have el : lsn (CT t c false lk jk n) (qx t c k) = tw (rpl (CT t c false lk jk n) c 3 (qx t c k) (-4)) 3 (qx t c k) (-4) := by
    unfold lsn
    rw [if_neg (by rw [eu]; omega), eu]
    rfl
  rw [el]
  have e1 : ∀ r j, r ≠ 2 → r ≠ 3 → (lnk (tw (rpl (CT t c false lk jk n) c 3 (qx t c k) (-4)) 3 (qx t c k) (-4)) (qb t c k + 1) 0 (qx t c k)).1 r j = (CT t c false lk jk n).1 r j := fun r j h2 h3 => by
    rw [lnk_at, if_neg (by omega), if_neg (by omega), tw_at, if_neg (by omega)]
    unfold rpl
    simp only
    rw [if_neg (by omega)]
  refine ⟨rfl, rfl, fun x hx2 => ⟨?_, ?_, ?_⟩, fun q hq => ?_, fun r hr => ⟨?_, ?_⟩⟩
  · exact (e1 0 x (by decide) (by decide)).symm
  · exact (e1 1 x (by decide) (by decide)).symm
  · show up (CT t c false (lkU lk (qx t c k)) jk n) x = (lnk (tw (rpl (CT t c false lk jk n) c 3 (qx t c k) (-4)) 3 (qx t c k) (-4)) (qb t c k + 1) 0 (qx t c k)).1 3 x
    rw [lnk_at, CT_u]
    by_cases z : x = qx t c k
    · rw [if_pos (lkU_at.mpr (Or.inl z)), if_pos (show (3 : Nat) = 3 ∧ x = qx t c k from ⟨rfl, z⟩), z, uN_x h hk]
    · rw [lkU_ne z, if_neg (show ¬ ((3 : Nat) = 3 ∧ x = qx t c k) from fun y => z y.2), if_neg (show ¬ ((3 : Nat) = 2 ∧ x = 3 * (qb t c k + 1) + 0) by omega), tw_at, if_neg (show ¬ ((3 : Nat) = 3 ∧ x = qx t c k) from fun y => z y.2), rpl_at, if_neg (c := (3 : Nat) = 2 ∧ x / 3 = c ∧ x % 3 < 3 ∧ (CT t c false lk jk n).1 2 x = (qx t c k : Int)) (fun y => absurd y.1 (by decide))]
      rfl
  · have hq : q < 3 * n := hq
    rw [lnk_at, if_neg (show ¬ ((2 : Nat) = 3 ∧ q = qx t c k) by omega)]
    by_cases z : q = 3 * (qb t c k + 1) + 0
    · rw [if_pos (show (2 : Nat) = 2 ∧ q = 3 * (qb t c k + 1) + 0 from ⟨rfl, z⟩), CT_2, show q / 3 = qb t c k + 1 by omega, show q % 3 = 0 by omega, if_neg (by omega), hpn, if_neg (by omega), Int.toNat_natCast, if_pos (lkU_at.mpr (Or.inl rfl))]
    · rw [if_neg (show ¬ ((2 : Nat) = 2 ∧ q = 3 * (qb t c k + 1) + 0) from fun y => z y.2), tw_at, if_neg (show ¬ ((2 : Nat) = 3 ∧ q = qx t c k) by omega), rpl_at]
      by_cases z1 : q / 3 < mk t
      · by_cases z2 : q / 3 = c
        · by_cases z3 : t.1 2 q = (qx t c k : Int)
          · have l1 : (CT t c false (lkU lk (qx t c k)) jk n).1 2 q = -4 := by
              rw [CT_2, if_pos z1, if_pos ⟨rfl, z2, by omega, by rw [z3, Int.toNat_natCast]; exact lkU_at.mpr (Or.inl rfl)⟩]
            have r1 : (CT t c false lk jk n).1 2 q = (qx t c k : Int) := by
              rw [CT_2, if_pos z1, if_neg]
              · exact z3
              · intro y
                have := y.2.2.2
                rw [z3, Int.toNat_natCast, hl] at this
                cases this
            rw [l1, if_pos ⟨rfl, z2, by omega, r1⟩]
          · have l1 : (CT t c false (lkU lk (qx t c k)) jk n).1 2 q = (CT t c false lk jk n).1 2 q := by
              rw [CT_2, CT_2, if_pos z1, if_pos z1]
              by_cases z4 : 0 ≤ t.1 2 q
              · have : (t.1 2 q).toNat ≠ qx t c k := by omega
                rw [lkU_ne this]
              · rw [if_neg (fun y => z4 y.2.2.1), if_neg (fun y => z4 y.2.2.1)]
            have r1 : (CT t c false lk jk n).1 2 q ≠ (qx t c k : Int) := by
              rw [CT_2, if_pos z1]
              split
              · omega
              · exact z3
            rw [l1, if_neg (fun y => r1 y.2.2.2)]
        · rw [if_neg (fun y => z2 y.2.1), CT_2, CT_2, if_pos z1, if_pos z1, if_neg (fun y => z2 y.2.1), if_neg (fun y => z2 y.2.1)]
      · rw [if_neg (fun y => by have := y.2.1; have := h.2.1; omega), CT_2, CT_2, if_neg z1, if_neg z1]
        by_cases z2 : pN t c (q / 3) (q % 3) < 0
        · rw [if_pos z2, if_pos z2]
        · rw [if_neg z2, if_neg z2]
          have hs : (pN t c (q / 3) (q % 3)).toNat ≠ qx t c k := fun e => by
            have e5 : pN t c (q / 3) (q % 3) = (qx t c k : Int) := by rw [← e]; exact (Int.toNat_of_nonneg (by omega)).symm
            obtain ⟨u1, -⟩ := pN_u h (a := q / 3) (j := q % 3) (by omega) (by omega) (by omega) rfl (by omega)
            rw [e, uN_x h hk] at u1
            obtain ⟨-, u2, -⟩ := pN_u h (a := qb t c k + 1) (j := 0) (by omega) (by omega) (by decide) hpn (by omega)
            have e4 := u2 (q % 3) (by omega) (by rw [u1]; exact e5)
            omega
          rw [lkU_ne hs]
  · exact (e1 4 r (by decide) (by decide)).symm
  · exact (e1 5 r (by decide) (by decide)).symm
/-- a BOTH, or the BLOCK, comes to hang in the BOTH ahead of it -/
theorem c_hang (h : MH t c) {P : Hp → Prop} {hp : Hp} {lk : Nat → Bool} {k n : Nat} (hk : k ≤ qu t c) (R : RC (CT t c false lk 0 n) hp) (hn : qb t c k < n) (hE : n ≤ qE t c) (hl : lk (qb t c k) = false) (hl2 : 1 ≤ k → lk (qb t c (k - 1) + 1) = true)
    (p : ∀ h' lk', fr 2 8 hp h' → RC (CT t c false lk' 0 n) h' → (∀ s, lk' s = true ↔ lk s = true ∨ (1 ≤ k ∧ s = qb t c k)) → P h') : Cl shC mX1_append [pR 1, pI (if k = 0 then -4 else (qb t c (k - 1) : Int)), pI (qb t c k : Int)] hp (fun _ h' => P h') := by
  by_cases k0 : k = 0
  · rw [if_pos k0]
    exact c_append_not R (by unfold al; omega) _ (p hp lk fr.rf R (fun s => ⟨Or.inl, fun q => q.elim id (fun q => by omega)⟩))
  · rw [if_neg k0]
    obtain ⟨m, rfl⟩ : ∃ m, k = m + 1 := ⟨k - 1, by omega⟩
    have hm : m < qu t c := by omega
    have hge := qb_ge (t := t) (c := c) m
    have hs := qb_s (t := t) (c := c) (k := m)
    have hlt : qb t c m + 2 ≤ qb t c (m + 1) := by rw [hs]; split <;> omega
    have p0 : pN t c (qb t c m) 0 = ((qb t c m + 1 : Nat) : Int) := by rw [pN_b hm, if_pos rfl]
    have p1 : pN t c (qb t c m) 1 = (qb t c (m + 1) : Int) := by rw [pN_b hm, if_neg (by decide), if_pos rfl]
    have hl2 : lk (qb t c m + 1) = true := hl2 (by omega)
    show Cl shC mX1_append [pR 1, pI (qb t c m : Int), pI (qb t c (m + 1) : Int)] hp (fun _ h' => P h')
    refine c_append R (CT_al h (by omega) (by show qb t c m < n; omega) hE) (CT_al h (by omega) hn hE) (k := 1) (by decide) (fun j hj => ?_) ?_ (fun h' x R' => p h' _ x (R'.te (CT_link h hE (a := qb t c m) (j := 1) (by omega) (by omega) (by decide) p1 (Or.inr (by omega)))) (fun s => ?_))
    · have : j = 0 := by omega
      subst this
      show pt (CT t c false lk 0 n) (qb t c m) 0 ≠ -4
      rw [CT_p _ _ _ _ (by decide), if_neg (by omega), p0, if_neg (by omega), Int.toNat_natCast, if_pos hl2]
      omega
    · show pt (CT t c false lk 0 n) (qb t c m) 1 = -4
      rw [CT_p _ _ _ _ (by decide), if_neg (by omega), p1, if_neg (by omega), Int.toNat_natCast, hl, if_neg (by decide), if_neg (by omega)]
    · rw [lkU_at]
      constructor
      · rintro (e | e)
        · exact Or.inr ⟨by omega, e⟩
        · exact Or.inl e
      · rintro (e | e)
        · exact Or.inr e
        · exact Or.inl e.2
def hz (h h' : Hp) : Prop := (∀ a, a < 2 ∨ (8 < a ∧ a ≠ 29) → h'.1 a = h.1 a ∧ h'.2.1 a = h.2.1 a) ∧ h'.2.2 = h.2.2
theorem hz.rf {h : Hp} : hz h h := ⟨fun _ _ => ⟨rfl, rfl⟩, rfl⟩
theorem hz.tr {h h1 h2 : Hp} (x : hz h h1) (y : hz h1 h2) : hz h h2 := ⟨fun a ha => ⟨(y.1 a ha).1.trans (x.1 a ha).1, (y.1 a ha).2.trans (x.1 a ha).2⟩, y.2.trans x.2⟩
theorem fr.hz {h h' : Hp} (x : fr 2 8 h h') : hz h h' := ⟨fun a ha => ⟨x.a (by omega), x.i (by omega)⟩, x.2⟩
theorem kN_b {k : Nat} (hk : k < qu t c) : kN t c (qb t c k) = 5 ∧ nN t c (qb t c k) = 0 := by
  unfold kN nN
  rw [ds_b hk]
  exact ⟨by simp, by simp⟩
theorem kN_s {k : Nat} (hk : k < qu t c) : kN t c (qb t c k + 1) = 4 ∧ nN t c (qb t c k + 1) = qs t c + (k : Int) := by
  unfold kN nN
  rw [ds_s hk]
  exact ⟨by simp, by simp⟩
theorem kN_z {k : Nat} (hk : k < qu t c) (hp : qp t c ≤ k) : kN t c (qb t c k + 2) = 0 ∧ nN t c (qb t c k + 2) = 0 := by
  unfold kN nN
  rw [ds_z hk hp]
  exact ⟨by simp, by simp⟩
theorem kN_K (h : MH t c) : kN t c (qK t c) = 11 ∧ nN t c (qK t c) = 0 := by
  unfold kN nN
  rw [ds_B h]
  exact ⟨by simp, by simp⟩
theorem c_loop78 (h : MH t c) {P : Int → Hp → Prop} {h0 : Hp} (hs : h0.2.1 14 4 = ((qD t c).length : Int)) (hD : DA h0 15 16 (qD t c)) (p : ∀ h' lk', hz h0 h' → RC (CT t c false lk' 0 (qE t c)) h' → lkI t c (qE t c) (qp t c) lk' → Cl shC mX1_takePlace [pR 1, pI (c : Int), pI (mk t : Int)] h' (fun _ h4 => Cl shC mX1_endTree [pR 1, pI (c : Int)] h4 (fun _ h5 => P (mk t : Int) h5))) : ∀ (d k : Nat) (hp : Hp) (lk : Nat → Bool), k + d = qu t c → hz h0 hp → RC (CT t c false lk 0 (qb t c k)) hp → lkI t c (qb t c k) k lk → Ok shC 0 0 mX3_writeOut 78 [some (pR 28), some (pI (c : Int)), none, some (pI (qu t c : Int)), some (pI (qp t c : Int)), some (pI (qs t c)), some (pI (if k = 0 then -4 else (mk t : Int))), some (pI (if k = 0 then -4 else (qb t c (k - 1) : Int))), some (pI (k : Int)), none, none] [] hp P := by
  have hu := h.u4
  have hEl := h.E
  have hEd : qE t c = qK t c + 1 + (qD t c).length := rfl
  have hs0 := h.s0
  have hs40 : qs t c ≤ 40 := (h.1.us _).2
  intro d
  induction d with
  | zero =>
    intro k hp lk hk x R I
    have e : k = qu t c := hk
    subst e
    have hno : lk (qK t c) = false := I.no h (qK_ge t c) (Nat.le_refl _)
    have hge := qK_ge t c
    have eK : qb t c (qu t c) = qK t c := rfl
    refine sX3_writeOut_78 ⟨fun _ => ?_, fun q => absurd (Int.le_refl _) q⟩
    refine c_add R (by show qb t c (qu t c) < 600; omega) _ _ (fun h1 x1 R1 => ?_)
    show Cl shC mX1_append [pR 1, pI (if qu t c = 0 then -4 else (qb t c (qu t c - 1) : Int)), pI (qK t c : Int)] h1 _
    have hkK := kN_K h
    have R1 := R1.te (t' := CT t c false lk 0 (qK t c + 1)) (by
      have := CT_make (t := t) (c := c) (g := false) (lk := lk) (jk := 0) (n := qK t c) hge hno (fun j hj hj0 => ?_) (fun _ => Nat.zero_le _)
      · rw [hkK.1, hkK.2] at this
        exact this
      · rw [pN_K h] at hj0 ⊢
        split at hj0
        · rename_i z
          rw [if_pos z, Int.toNat_natCast]
          exact I.no h (by omega) (by omega)
        · exact absurd hj0 (by decide))
    refine c_hang h (Nat.le_refl _) R1 (by omega) (by omega) hno (fun z => (I _).mpr (Or.inl ?_)) (fun h2 lk2 x2 R2 I2 => ?_)
    · have := qb_ge (t := t) (c := c) (qu t c - 1)
      have := qb_K (t := t) (c := c) (k := qu t c - 1) (by omega)
      omega
    · have I2' : lkI t c (qK t c + 1) (qp t c) lk2 := fun s => by
        rw [I2 s, I s]
        constructor
        · rintro ((e | ⟨k, k1, k2, k3⟩) | e)
          · exact Or.inl (by omega)
          · exact Or.inr ⟨k, k2, k2, k3⟩
          · have := qb_K (t := t) (c := c) (k := qu t c - 1) (by omega)
            exact Or.inl (by omega)
        · rintro (e | ⟨k, k1, k2, k3⟩)
          · by_cases z : s = qK t c
            · by_cases z2 : qu t c = 0
              · exfalso
                have : qK t c = mk t := by unfold qK qb; omega
                omega
              · exact Or.inr ⟨by omega, z⟩
            · exact Or.inl (Or.inl (by omega))
          · exact Or.inl (Or.inr ⟨k, by omega, k2, k3⟩)
      have x2' := (x.tr x1.hz).tr x2.hz
      refine c_writeOff h R2 I2' (by rw [(x2'.1 14 (by decide)).2]; exact hs) (DA_eq hD (fun j _ => by rw [(x2'.1 15 (by decide)).1, (x2'.1 16 (by decide)).1]; exact ⟨rfl, rfl⟩)) (fun h3 lk3 x3 xc R3 I3 => ?_)
      have x3' : hz h0 h3 := x2'.tr ⟨x3, xc⟩
      refine ⟨fun z => ?_, fun z => ?_⟩
      · rw [if_neg (by omega)]
        exact p h3 lk3 x3' R3 I3
      · have : qK t c = mk t := by unfold qK qb; omega
        show Cl shC mX1_takePlace [pR 1, pI (c : Int), pI (qK t c : Int)] h3 (fun _ h4 => Cl shC mX1_endTree [pR 1, pI (c : Int)] h4 (fun _ h5 => P (qK t c : Int) h5))
        rw [this]
        exact p h3 lk3 x3' R3 I3
  | succ d ih =>
    intro k hp lk hk x R I
    have hku : k < qu t c := by omega
    have hge := qb_ge (t := t) (c := c) k
    have hK := qb_K hku
    have hno : ∀ s, qb t c k ≤ s → lk s = false := fun s hs => I.no h (by omega) hs
    have hxn : k < qp t c → lk (qx t c k) = false := fun z => by
      cases q : lk (qx t c k) with
      | false => rfl
      | true =>
        exfalso
        rcases (I _).mp q with e | ⟨k', a1, a2, a3⟩
        · have := (h.x z).2.1
          omega
        · exact h.xne z a2 (by omega) a3.symm
    have hs1 := qb_s (t := t) (c := c) (k := k)
    refine sX3_writeOut_78 ⟨fun q => absurd q (by omega), fun _ => ?_⟩
    refine c_add R (by show qb t c k < 600; omega) _ _ (fun h1 x1 R1 => ?_)
    show inR (qs t c + (k : Int)) ∧ (Cl shC mX1_add [pR 1, pI 4, pI (qs t c + (k : Int))] h1 _)
    have hkb := kN_b hku
    have R1 := R1.te (t' := CT t c false lk 0 (qb t c k + 1)) (by
      have := CT_make (t := t) (c := c) (g := false) (lk := lk) (jk := 0) (n := qb t c k) hge (hno _ (Nat.le_refl _)) (fun j hj hj0 => ?_) (fun _ => Nat.zero_le _)
      · rw [hkb.1, hkb.2] at this
        exact this
      · rw [pN_b hku] at hj0 ⊢
        split at hj0
        · rename_i z
          rw [if_pos z, Int.toNat_natCast]
          exact hno _ (by omega)
        · rename_i z
          split at hj0
          · rename_i z2
            rw [if_neg z, if_pos z2, Int.toNat_natCast]
            refine hno _ ?_
            rw [hs1]
            split <;> omega
          · exact absurd hj0 (by decide))
    refine ⟨by unfold inR; omega, c_add R1 (by show qb t c k + 1 < 600; omega) _ _ (fun h2 x2 R2 => ?_)⟩
    have hks := kN_s hku
    have R2 := R2.te (t' := CT t c false lk 0 (qb t c k + 2)) (by
      have := CT_make (t := t) (c := c) (g := false) (lk := lk) (jk := 0) (n := qb t c k + 1) (by omega) (hno _ (by omega)) (fun j hj hj0 => ?_) (fun _ => Nat.zero_le _)
      · rw [hks.1, hks.2] at this
        exact this
      · rw [pN_s hku] at hj0 ⊢
        split at hj0
        · rename_i z
          split at hj0
          · rename_i z2
            rw [if_pos z, if_pos z2, Int.toNat_natCast]
            exact hxn z2
          · rename_i z2
            rw [if_pos z, if_neg z2, Int.toNat_natCast]
            exact hno _ (by omega)
        · exact absurd hj0 (by decide))
    show Cl shC mX1_append [pR 1, pI (qb t c k : Int), pI ((qb t c k + 1 : Nat) : Int)] h2 _
    have p0 : pN t c (qb t c k) 0 = ((qb t c k + 1 : Nat) : Int) := by rw [pN_b hku, if_pos rfl]
    have pt0 : ∀ {lk' : Nat → Bool} {n' : Nat}, lk' (qb t c k + 1) = false → pt (CT t c false lk' 0 n') (qb t c k) 0 = -4 := fun {lk' n'} hl => by
      rw [CT_p _ _ _ _ (by decide), if_neg (by omega), p0, if_neg (by omega), Int.toNat_natCast, hl, if_neg (by decide), if_neg (by omega)]
    refine c_append R2 (CT_al h hge (by omega) (by omega)) (CT_al h (by omega) (by omega) (by omega)) (k := 0) (by decide) (fun j hj => by omega) (pt0 (hno _ (by omega))) (fun h3 x3 R3 => ?_)
    have R3 := R3.te (CT_link h (g := false) (lk := lk) (jk := 0) (n := qb t c k + 2) (s := qb t c k + 1) (a := qb t c k) (j := 0) (by omega) hge (by omega) (by decide) p0 (Or.inr (by omega)))
    have x3' := ((x.tr x1.hz).tr x2.hz).tr x3.hz
    -- what follows when SET has its part
    have nxt : ∀ (h5 : Hp) (lk5 : Nat → Bool) (n5 : Nat), hz h0 h5 → n5 = qb t c (k + 1) → RC (CT t c false lk5 0 n5) h5 → (∀ s, lk5 s = true ↔ (mk t < s ∧ s < n5 ∧ s ≠ qb t c k) ∨ ∃ j, j < k + 1 ∧ j < qp t c ∧ s = qx t c j) → Cl shC mX1_append [pR 1, pI (if k = 0 then -4 else (qb t c (k - 1) : Int)), pI (qb t c k : Int)] h5 (fun _ h12 => ((¬ (k : Int) = 0) → inR ((k : Int) + 1) ∧ (Ok shC 0 0 mX3_writeOut 78 [some (pR 28), some (pI (c : Int)), none, some (pI (qu t c : Int)), some (pI (qp t c : Int)), some (pI (qs t c)), some (pI (if k = 0 then -4 else (mk t : Int))), some (pI (qb t c k : Int)), some (pI ((k : Int) + 1)), none, none] [] h12 P)) ∧ (((k : Int) = 0) → inR ((k : Int) + 1) ∧ (Ok shC 0 0 mX3_writeOut 78 [some (pR 28), some (pI (c : Int)), none, some (pI (qu t c : Int)), some (pI (qp t c : Int)), some (pI (qs t c)), some (pI (qb t c k : Int)), some (pI (qb t c k : Int)), some (pI ((k : Int) + 1)), none, none] [] h12 P))) := by
      intro h5 lk5 n5 x5 en R5 I5
      subst en
      have hE5 : qb t c (k + 1) ≤ qE t c := by
        rw [hs1]
        split <;> omega
      have hlt5 : qb t c k + 1 < qb t c (k + 1) := by
        rw [hs1]
        split <;> omega
      refine c_hang h (by omega) R5 (by omega) hE5 ?_ (fun z => (I5 _).mpr (Or.inl ?_)) (fun h6 lk6 x6 R6 I6 => ?_)
      · cases q : lk5 (qb t c k) with
        | false => rfl
        | true =>
          exfalso
          rcases (I5 _).mp q with e | ⟨j, a1, a2, a3⟩
          · omega
          · have := (h.x a2).2.1
            omega
      · have := qb_ge (t := t) (c := c) (k - 1)
        have h9 := qb_s (t := t) (c := c) (k := k - 1)
        rw [show k - 1 + 1 = k by omega] at h9
        have : qb t c (k - 1) + 2 ≤ qb t c k := by rw [h9]; split <;> omega
        omega
      · have I6' : lkI t c (qb t c (k + 1)) (k + 1) lk6 := fun s => by
          rw [I6 s, I5 s]
          constructor
          · rintro ((e | e) | e)
            · exact Or.inl (by omega)
            · exact Or.inr e
            · have h9 := qb_s (t := t) (c := c) (k := k - 1)
              rw [show k - 1 + 1 = k by omega] at h9
              have h8 := qb_ge (t := t) (c := c) (k - 1)
              have : qb t c (k - 1) + 2 ≤ qb t c k := by rw [h9]; split <;> omega
              exact Or.inl (by omega)
          · rintro (e | e)
            · by_cases z : s = qb t c k
              · by_cases z2 : k = 0
                · exfalso
                  have : qb t c k = mk t := by unfold qb; omega
                  omega
                · exact Or.inr ⟨by omega, z⟩
              · exact Or.inl (Or.inl (by omega))
            · exact Or.inl (Or.inr e)
        have nx := ih (k + 1) h6 lk6 (by omega) (x5.tr x6.hz) R6 I6'
        rw [if_neg (by omega), if_neg (by omega)] at nx
        refine ⟨fun z => ⟨by unfold inR; omega, ?_⟩, fun z => ⟨by unfold inR; omega, ?_⟩⟩
        · rw [if_neg (by omega)]
          exact nx
        · have : qb t c k = mk t := by unfold qb; omega
          rw [this]
          have nx := nx
          rw [show k + 1 - 1 = k from rfl, this] at nx
          exact nx
    refine ⟨fun z => ?_, fun z => ?_⟩
    · -- no part is given: nought
      refine sX3_moveOrZero_0 ⟨fun q => absurd rfl q, fun _ => ?_⟩
      refine c_add R3 (by show qb t c k + 2 < 600; have := hK.2.1 (by omega); omega) _ _ (fun h4 x4 R4 => ?_)
      have hkz := kN_z hku (by omega)
      have hlz : lkU lk (qb t c k + 1) (qb t c k + 2) = false := by rw [lkU_ne (by omega)]; exact hno _ (by omega)
      have R4 := R4.te (t' := CT t c false (lkU lk (qb t c k + 1)) 0 (qb t c k + 3)) (by
        have := CT_make (t := t) (c := c) (g := false) (lk := lkU lk (qb t c k + 1)) (jk := 0) (n := qb t c k + 2) (by omega) hlz (fun j hj hj0 => ?_) (fun _ => Nat.zero_le _)
        · rw [hkz.1, hkz.2] at this
          exact this
        · rw [pN_z hku (by omega)] at hj0
          exact absurd hj0 (by decide))
      show Cl shC mX1_append [pR 1, pI ((qb t c k + 1 : Nat) : Int), pI ((qb t c k + 2 : Nat) : Int)] h4 _
      have hb3 := hK.2.1 (by omega)
      have p1 : pN t c (qb t c k + 1) 0 = ((qb t c k + 2 : Nat) : Int) := by rw [pN_s hku, if_pos rfl, if_neg (by omega)]
      refine c_append R4 (CT_al h (by omega) (by omega) (by omega)) (CT_al h (by omega) (by omega) (by omega)) (k := 0) (by decide) (fun j hj => by omega) ?_ (fun h5 x5 R5 => ?_)
      · rw [CT_p _ _ _ _ (by decide), if_neg (by omega), p1, if_neg (by omega), Int.toNat_natCast, hlz, if_neg (by decide), if_neg (by omega)]
      · have R5 := R5.te (CT_link h (g := false) (lk := lkU lk (qb t c k + 1)) (jk := 0) (n := qb t c k + 3) (s := qb t c k + 2) (a := qb t c k + 1) (j := 0) (by omega) (by omega) (by omega) (by decide) p1 (Or.inr (by omega)))
        refine nxt h5 _ _ ((x3'.tr x4.hz).tr x5.hz) (by rw [hs1, if_neg (by omega)]) R5 (fun s => ?_)
        rw [lkU_at, lkU_at, I s]
        constructor
        · rintro (e | e | e | ⟨j, a1, a2, a3⟩)
          · exact Or.inl (by omega)
          · exact Or.inl (by omega)
          · exact Or.inl (by omega)
          · exact Or.inr ⟨j, by omega, a2, a3⟩
        · rintro (e | ⟨j, a1, a2, a3⟩)
          · by_cases e1 : s = qb t c k + 2
            · exact Or.inl e1
            · by_cases e2 : s = qb t c k + 1
              · exact Or.inr (Or.inl e2)
              · exact Or.inr (Or.inr (Or.inl (by omega)))
          · exact Or.inr (Or.inr (Or.inr ⟨j, by omega, a2, a3⟩))
    · -- the call's part moves
      have hkp : k < qp t c := by omega
      have hx := h.x hkp
      have hp3 := h.p3
      refine c_partOf R3 _ _ ?_
      have epx : ptI (CT t c false (lkU lk (qb t c k + 1)) 0 (qb t c k + 2)) (c : Int) (k : Int) = (qx t c k : Int) := by
        rw [ptI_at (by show c < qb t c k + 2; have := h.2.1; omega) (by omega), CT_p _ _ _ _ (by omega), if_pos h.2.1, if_neg]
        · exact hx.1
        · rintro ⟨_, _, _, q⟩
          have e9 : (pt t c k).toNat = qx t c k := rfl
          rw [e9, lkU_ne (by omega), hxn hkp] at q
          cases q
      rw [epx]
      refine sX3_moveOrZero_0 ⟨fun _ => ?_, fun q => absurd q (by omega)⟩
      have hlx : lkU lk (qb t c k + 1) (qx t c k) = false := by rw [lkU_ne (by omega)]; exact hxn hkp
      have eux : up (CT t c false (lkU lk (qb t c k + 1)) 0 (qb t c k + 2)) (qx t c k) = (c : Int) := by
        rw [CT_u, hlx, if_neg (by decide), if_pos hx.2.1]
        exact hx.2.2.2.1
      refine c_loosen R3 (by show qx t c k < qb t c k + 2; omega) (Or.inr (by rw [eux]; refine ⟨by omega, ?_⟩; show (c : Int) < ((qb t c k + 2 : Nat) : Int); have := h.2.1; omega)) (fun h4 x4 R4 => ?_)
      have els : ∀ z, al (CT t c false (lkU lk (qb t c k + 1)) 0 (qb t c k + 2)) z → al (lsn (CT t c false (lkU lk (qb t c k + 1)) 0 (qb t c k + 2)) (qx t c k)) z := fun z a => by
        have e2 := lsn_2 (CT t c false (lkU lk (qb t c k + 1)) 0 (qb t c k + 2)) (qx t c k)
        refine ⟨a.1, ?_, ?_⟩
        · show z < ((lsn _ (qx t c k)).2.1 : Int)
          rw [e2]
          exact a.2.1
        · show (lsn _ (qx t c k)).1 0 z.toNat ≠ -1
          rw [lsn_0 _ _ _ _ (by decide) (Or.inl (by decide))]
          exact a.2.2
      have alx : al (CT t c false (lkU lk (qb t c k + 1)) 0 (qb t c k + 2)) (qx t c k : Int) := al_n.mpr ⟨by show qx t c k < qb t c k + 2; omega, by rw [CT_k, if_pos hx.2.1]; exact hx.2.2.1⟩
      have p1 : pN t c (qb t c k + 1) 0 = (qx t c k : Int) := by rw [pN_s hku, if_pos rfl, if_pos hkp]
      refine c_append R4 (els _ (CT_al h (s := qb t c k + 1) (by omega) (by omega) (by omega))) (els _ alx) (k := 0) (by decide) (fun j hj => by omega) ?_ (fun h5 x5 R5 => ?_)
      · unfold lsn
        rw [if_neg (by rw [eux]; omega), eux]
        show (tw (rpl (CT t c false (lkU lk (qb t c k + 1)) 0 (qb t c k + 2)) (c : Int).toNat 3 (qx t c k) (-4)) 3 (qx t c k) (-4)).1 2 (3 * (qb t c k + 1) + 0) = -4
        rw [tw_at, if_neg (by omega)]
        unfold rpl
        simp only
        rw [if_neg (by have := h.2.1; omega), CT_2, show (3 * (qb t c k + 1) + 0) / 3 = qb t c k + 1 by omega, show (3 * (qb t c k + 1) + 0) % 3 = 0 by omega, if_neg (by omega), p1, if_neg (by omega), Int.toNat_natCast, hlx, if_neg (by decide), if_neg (by omega)]
      · have R5 := R5.te (CT_move h (jk := 0) (n := qb t c k + 2) hkp hlx (by omega) (by omega))
        refine nxt h5 _ _ ((x3'.tr x4.hz).tr x5.hz) (by rw [hs1, if_pos hkp]) R5 (fun s => ?_)
        rw [lkU_at, lkU_at, I s]
        constructor
        · rintro (e | e | e | ⟨j, a1, a2, a3⟩)
          · exact Or.inr ⟨k, by omega, hkp, e⟩
          · exact Or.inl (by omega)
          · exact Or.inl (by omega)
          · exact Or.inr ⟨j, by omega, a2, a3⟩
        · rintro (e | ⟨j, a1, a2, a3⟩)
          · by_cases e2 : s = qb t c k + 1
            · exact Or.inr (Or.inl e2)
            · exact Or.inr (Or.inr (Or.inl (by omega)))
          · by_cases e3 : j = k
            · subst e3
              exact Or.inl a3
            · exact Or.inr (Or.inr (Or.inr ⟨j, by omega, a2, a3⟩))
end ME4
