/-! MELT: the reference, the BOTHs; what comes of it -/
section ME6
variable {t : TV} {c : Nat}
theorem m_loop272 (h : MH t c) {P : Int → Hp → Prop} {h0 : Hp} (hr : ∃ k : Nat, nm t c = (k : Int) ∧ k < 10) (p : ∀ h' lk', mz (mk t) h0 h' → RM (CT t c true lk' (qu t c) (qE t c)) h' → lkI t c (qE t c) (qp t c) lk' → Cl shM mX9_puts [pR 0, pI (c : Int), pI (mk t : Int)] h' (fun _ h1 => Cl shM mX9_goneAlone [pR 0, pI (c : Int)] h1 (fun _ h2 => P (mk t : Int) h2))) : ∀ (d k : Nat) (hp : Hp) (lk : Nat → Bool), k + d = qp t c → mz (mk t) h0 hp → RM (CT t c true lk (qu t c) (qE t c)) hp → lkI t c (qE t c) k lk → Ok shM 0 0 mX9_melt 272 [some (pR 0), some (pI (c : Int)), some (pI (nm t c)), none, none, none, some (pI (mk t : Int)), none, none, some (pI (qb t c k : Int)), some (pI (k : Int))] [] hp P := by
  have hu := h.u4
  have hp3 := h.p3
  have hE := h.E
  have hEd : qE t c = qK t c + 1 + (qD t c).length := rfl
  have hn := h.nr
  have hpr : prI t (nm t c) = pr t (nm t c).toNat := if_pos hn
  obtain ⟨k1, hk1, hk2⟩ := hr
  intro d
  induction d with
  | zero =>
    intro k hp lk hk x M I
    have e : k = qp t c := hk
    refine sX9_melt_272 ⟨k1, hk1, hk2, ?_⟩
    have ep : hp.1 6 k1 = (qp t c : Int) := by
      rw [M.q (by show k1 < rt t; omega)]
      show pr t k1 = _
      rw [show k1 = (nm t c).toNat by omega, ← hpr]
      omega
    rw [ep]
    exact ⟨fun _ => p hp lk x M (by rw [← e]; exact I), fun z => absurd z (by omega)⟩
  | succ d ih =>
    intro k hp lk hk x M I
    have hkp : k < qp t c := by omega
    have hku : k < qu t c := by omega
    have hx := h.x hkp
    have hK := qb_K hku
    have hs1 := qb_s (t := t) (c := c) (k := k)
    rw [if_pos hkp] at hs1
    refine sX9_melt_272 ⟨k1, hk1, hk2, ?_⟩
    have ep : hp.1 6 k1 = (qp t c : Int) := by
      rw [M.q (by show k1 < rt t; omega)]
      show pr t k1 = _
      rw [show k1 = (nm t c).toNat by omega, ← hpr]
      omega
    rw [ep]
    have hcm := h.2.1
    have p0 : pN t c (qb t c k) 0 = ((qb t c k + 1 : Nat) : Int) := by rw [pN_b hku, if_pos rfl]
    have p1 : pN t c (qb t c k) 1 = (qb t c (k + 1) : Int) := by rw [pN_b hku, if_neg (by decide), if_pos rfl]
    have px : pN t c (qb t c k + 1) 0 = (qx t c k : Int) := by rw [pN_s hku, if_pos rfl, if_pos hkp]
    have e1 : hp.1 3 (3 * qb t c k) = ((qb t c k + 1 : Nat) : Int) := by
      have := M.p (s := qb t c k) (k := 0) (by show qb t c k < qE t c; omega) (by decide)
      rw [show 3 * qb t c k = 3 * qb t c k + 0 from rfl, this, CT_p _ _ _ _ (by decide), if_neg (by omega), p0, if_neg (by omega), Int.toNat_natCast, if_pos ((I _).mpr (Or.inl ⟨by omega, by omega⟩))]
    have e2 : hp.1 3 (3 * c + k) = (qx t c k : Int) := by
      rw [M.p (by show c < qE t c; omega) (by omega), CT_p _ _ _ _ (by omega), if_pos hcm, if_neg (fun y => absurd y.1 (by decide))]
      exact hx.1
    refine ⟨fun z => absurd z (by omega), fun _ => ⟨by unfold inR; omega, 3 * qb t c k, by omega, by omega, by unfold inR; omega, by unfold inR; omega, 3 * c + k, by omega, by omega, ?_⟩⟩
    rw [e1, e2]
    refine m_setPart (s := qb t c k + 1) (k := 0) M (by omega) (by decide) (by have := hx.2.1; omega) (fun h2 x2 M2 => ⟨by unfold inR; omega, 3 * qb t c k + 1, by omega, by omega, by unfold inR; omega, ?_⟩)
    have M2 := M2.te (CT_link h (g := true) (lk := lk) (jk := qu t c) (n := qE t c) (Nat.le_refl _) (by omega) (by omega) (by decide) px (Or.inl rfl))
    have I2 : lkI t c (qE t c) (k + 1) (lkU lk (qx t c k)) := fun s => by
      rw [lkU_at, I s]
      constructor
      · rintro (e | e | ⟨j, a1, a2, a3⟩)
        · exact Or.inr ⟨k, by omega, hkp, e⟩
        · exact Or.inl e
        · exact Or.inr ⟨j, by omega, a2, a3⟩
      · rintro (e | ⟨j, a1, a2, a3⟩)
        · exact Or.inr (Or.inl e)
        · by_cases e : j = k
          · rw [e] at a3
            exact Or.inl a3
          · exact Or.inr (Or.inr ⟨j, by omega, a2, a3⟩)
    have e3 : h2.1 3 (3 * qb t c k + 1) = (qb t c (k + 1) : Int) := by
      rw [M2.p (by show qb t c k < qE t c; omega) (by decide), CT_p _ _ _ _ (by decide), if_neg (by omega), p1, if_neg (by omega), Int.toNat_natCast, if_pos ((I2 _).mpr (Or.inl ⟨by omega, by omega⟩))]
    rw [e3]
    exact ih (k + 1) h2 _ (by omega) (x.lk x2) M2 I2
theorem m_loop107 (h : MH t c) {P : Int → Hp → Prop} {h0 : Hp} (p : ∀ h' lk', mz (mk t) h0 h' → RM (CT t c true lk' (qu t c) (qE t c)) h' → lkI t c (qE t c) (qp t c) lk' → Cl shM mX9_puts [pR 0, pI (c : Int), pI (mk t : Int)] h' (fun _ h1 => Cl shM mX9_goneAlone [pR 0, pI (c : Int)] h1 (fun _ h2 => P (mk t : Int) h2))) : ∀ (d k : Nat) (hp : Hp) (lk : Nat → Bool), k + d = qu t c → mz (mk t) h0 hp → RM (CT t c true lk k (qb t c k)) hp → lk0 t c (qb t c k) lk → Ok shM 0 0 mX9_melt 107 [some (pR 0), some (pI (c : Int)), some (pI (nm t c)), none, some (pI (qs t c)), some (pI (qu t c : Int)), some (pI (if k = 0 then -4 else (mk t : Int))), some (pI (if k = 0 then -4 else (qb t c (k - 1) : Int))), some (pI (k : Int)), none, none] [] hp P := by
  have hu := h.u4
  have hp3 := h.p3
  have hE := h.E
  have hEd : qE t c = qK t c + 1 + (qD t c).length := rfl
  have hn := h.nr
  have hm := h.1.m
  have hs0 := h.s0
  have hs40 : qs t c ≤ 40 := (h.1.us _).2
  have hpr : prI t (nm t c) = pr t (nm t c).toNat := if_pos hn
  have hbr : bdI t (nm t c) = bd t (nm t c).toNat := if_pos hn
  have hr : ∃ k : Nat, nm t c = (k : Int) ∧ k < 10 := ⟨(nm t c).toNat, by omega, by omega⟩
  intro d
  induction d with
  | zero =>
    intro k hp lk hk x M I
    have e : k = qu t c := hk
    subst e
    have hge := qK_ge t c
    have hno : ∀ s, qK t c ≤ s → lk s = false := fun s hs => by
      cases q : lk s with
      | false => rfl
      | true =>
        have := (I s).mp q
        have eK : qb t c (qu t c) = qK t c := rfl
        omega
    refine sX9_melt_107 ⟨fun _ => ?_, fun q => absurd (Int.le_refl _) q⟩
    refine m_make M (by show qK t c < 600; omega) _ _ (fun h1 x1 c1 M1 => ⟨(nm t c).toNat, by omega, by omega, ?_⟩)
    have hkK := kN_K h
    have M1 := M1.te (t' := CT t c true lk (qu t c) (qK t c + 1)) (by
      have := CT_make (t := t) (c := c) (g := true) (lk := lk) (jk := qu t c) (n := qK t c) hge (hno _ (Nat.le_refl _)) (fun j hj hj0 => ?_) (fun z => by rw [ds_B h] at z; simp at z)
      · rw [hkK.1, hkK.2] at this
        exact this
      · rw [pN_K h] at hj0 ⊢
        split at hj0
        · rename_i z
          rw [if_pos z, Int.toNat_natCast]
          exact hno _ (by omega)
        · exact absurd hj0 (by decide))
    have e7 : h1.1 7 (nm t c).toNat = bdI t (nm t c) := by
      rw [M1.b (by show (nm t c).toNat < rt t; omega), hbr]
      rfl
    rw [e7]
    refine m_writesOff h M1 I (fun h2 lk2 x2 M2 I2 => ?_)
    show Cl shM mX9_setPart [pR 0, pI (qK t c : Int), pI ((0 : Nat) : Int), pI ((qK t c + 1 : Nat) : Int)] h2 _
    have hpK : pN t c (qK t c) 0 = ((qK t c + 1 : Nat) : Int) := by rw [pN_K h, if_pos rfl]
    have h9 := h.dk0.2
    refine m_setPart M2 (by omega) (by decide) (by omega) (fun h3 x3 M3 => ?_)
    have M3 := M3.te (CT_link h (g := true) (lk := lk2) (jk := qu t c) (n := qE t c) (Nat.le_refl _) hge (by omega) (by decide) hpK (Or.inl rfl))
    have x3' : mz (mk t) h0 h3 := ((x.mk x1 c1 (by show mk t ≤ qK t c; omega)).tr x2 (Nat.le_refl _)).lk x3
    refine ⟨fun z => ?_, fun z => ?_⟩
    · have hu0 : ¬ qu t c = 0 := fun q => z (by rw [if_pos q])
      rw [if_neg hu0, if_neg hu0]
      have hm1 : qu t c - 1 < qu t c := by omega
      have p1 : pN t c (qb t c (qu t c - 1)) 1 = (qK t c : Int) := by
        rw [pN_b hm1, if_neg (by decide), if_pos rfl, show qu t c - 1 + 1 = qu t c by omega]
        rfl
      have hb := qb_K (t := t) (c := c) hm1
      show Cl shM mX9_setPart [pR 0, pI (qb t c (qu t c - 1) : Int), pI ((1 : Nat) : Int), pI (qK t c : Int)] h3 _
      refine m_setPart M3 (by omega) (by decide) (by omega) (fun h4 x4 M4 => ?_)
      have M4 := M4.te (CT_link h (g := true) (lk := lkU lk2 (qK t c + 1)) (jk := qu t c) (n := qE t c) (Nat.le_refl _) (by omega) (by omega) (by decide) p1 (Or.inl rfl))
      have eb0 : qb t c 0 = mk t := by unfold qb; omega
      have := m_loop272 h hr p (qp t c) 0 h4 _ (by omega) (x3'.lk x4) M4 (fun s => ?_)
      · rw [eb0] at this
        exact this
      · rw [lkU_at, lkU_at, I2 s]
        constructor
        · rintro (e | e | e | e)
          · exact Or.inl (by omega)
          · exact Or.inl (by omega)
          · exact Or.inl (by omega)
          · exact Or.inl (by omega)
        · rintro (e | ⟨j, a1, _⟩)
          · by_cases e1 : s = qK t c
            · exact Or.inl e1
            · by_cases e2 : s = qK t c + 1
              · exact Or.inr (Or.inl e2)
              · by_cases e3 : s < qK t c
                · exact Or.inr (Or.inr (Or.inl ⟨e.1, e3⟩))
                · exact Or.inr (Or.inr (Or.inr ⟨by omega, e.2⟩))
          · omega
    · have hu0 : qu t c = 0 := Classical.byContradiction fun q => by
        rw [if_neg q] at z
        omega
      have eK : qK t c = mk t := by unfold qK qb; omega
      have eb0 : qb t c 0 = mk t := by unfold qb; omega
      have := m_loop272 h hr p (qp t c) 0 h3 _ (by omega) x3' M3 (fun s => ?_)
      · rw [eb0, ← eK] at this
        show Ok shM 0 0 mX9_melt 272 [some (pR 0), some (pI (c : Int)), some (pI (nm t c)), none, none, none, some (pI (qK t c : Int)), none, none, some (pI (qK t c : Int)), some (pI 0)] [] h3 P
        have this := this
        rw [eK] at this ⊢
        exact this
      · rw [lkU_at, I2 s]
        constructor
        · rintro (e | e | e)
          · exact Or.inl (by omega)
          · exact Or.inl (by omega)
          · exact Or.inl (by omega)
        · rintro (e | ⟨j, a1, _⟩)
          · by_cases e2 : s = qK t c + 1
            · exact Or.inl e2
            · exact Or.inr (Or.inr ⟨by omega, e.2⟩)
          · omega
  | succ d ih =>
    intro k hp lk hk x M I
    have hku : k < qu t c := by omega
    have hge := qb_ge (t := t) (c := c) k
    have hK := qb_K hku
    have hs1 := qb_s (t := t) (c := c) (k := k)
    have hno : ∀ s, qb t c k ≤ s ∨ s < mk t → lk s = false := fun s hs => by
      cases q : lk s with
      | false => rfl
      | true => have := (I s).mp q; omega
    refine sX9_melt_107 ⟨fun q => absurd q (by omega), fun _ => ?_⟩
    refine m_make M (by show qb t c k < 600; omega) _ _ (fun h1 x1 c1 M1 => ?_)
    have hkb := kN_b hku
    have M1 := M1.te (t' := CT t c true lk k (qb t c k + 1)) (by
      have := CT_make (t := t) (c := c) (g := true) (lk := lk) (jk := k) (n := qb t c k) hge (hno _ (Or.inl (Nat.le_refl _))) (fun j hj hj0 => ?_) (fun z => by rw [ds_b hku] at z; simp at z)
      · rw [hkb.1, hkb.2] at this
        exact this
      · rw [pN_b hku] at hj0 ⊢
        split at hj0
        · rename_i z
          rw [if_pos z, Int.toNat_natCast]
          exact hno _ (Or.inl (by omega))
        · rename_i z
          split at hj0
          · rename_i z2
            rw [if_neg z, if_pos z2, Int.toNat_natCast]
            refine hno _ (Or.inl ?_)
            rw [hs1]
            split <;> omega
          · exact absurd hj0 (by decide))
    refine ⟨by unfold inR; omega, m_make M1 (by show qb t c k + 1 < 600; omega) _ _ (fun h2 x2 c2 M2 => ?_)⟩
    have hks := kN_s hku
    have M2 := M2.te (t' := CT t c true lk k (qb t c k + 2)) (by
      have := CT_make (t := t) (c := c) (g := true) (lk := lk) (jk := k) (n := qb t c k + 1) (by omega) (hno _ (Or.inl (by omega))) (fun j hj hj0 => ?_) (fun _ => by rw [ds_s hku]; exact Nat.le_refl _)
      · rw [hks.1, hks.2] at this
        exact this
      · rw [pN_s hku] at hj0 ⊢
        split at hj0
        · rename_i z
          split at hj0
          · rename_i z2
            rw [if_pos z, if_pos z2, Int.toNat_natCast]
            exact hno _ (Or.inr (h.x z2).2.1)
          · rename_i z2
            rw [if_pos z, if_neg z2, Int.toNat_natCast]
            exact hno _ (Or.inl (by omega))
        · exact absurd hj0 (by decide))
    show Cl shM mX9_setPart [pR 0, pI (qb t c k : Int), pI ((0 : Nat) : Int), pI ((qb t c k + 1 : Nat) : Int)] h2 _
    have p0 : pN t c (qb t c k) 0 = ((qb t c k + 1 : Nat) : Int) := by rw [pN_b hku, if_pos rfl]
    refine m_setPart M2 (by omega) (by decide) (by omega) (fun h3 x3 M3 => ?_)
    have M3 := M3.te (CT_link h (g := true) (lk := lk) (jk := k) (n := qb t c k + 2) (s := qb t c k + 1) (a := qb t c k) (j := 0) (by omega) hge (by omega) (by decide) p0 (Or.inr (by omega)))
    have x3' : mz (mk t) h0 h3 := ((x.mk x1 c1 (by show mk t ≤ qb t c k; omega)).mk x2 c2 (by show mk t ≤ qb t c k + 1; omega)).lk x3
    have ep : h3.1 6 (nm t c).toNat = (qp t c : Int) := by
      rw [M3.q (by show (nm t c).toNat < rt t; omega)]
      show pr t (nm t c).toNat = _
      rw [← hpr]
      omega
    refine ⟨(nm t c).toNat, by omega, by omega, ?_⟩
    rw [ep]
    -- when the SET is done
    have nxt : ∀ (h5 : Hp) (lk5 : Nat → Bool), mz (mk t) h0 h5 → RM (CT t c true lk5 (k + 1) (qb t c (k + 1))) h5 → (∀ s, lk5 s = true ↔ (mk t < s ∧ s < qb t c (k + 1) ∧ s ≠ qb t c k)) → ((¬ (if k = 0 then -4 else (qb t c (k - 1) : Int)) = (-4)) → Cl shM mX9_setPart [pR 0, pI (if k = 0 then -4 else (qb t c (k - 1) : Int)), pI 1, pI (qb t c k : Int)] h5 (fun _ h11 => inR ((k : Int) + 1) ∧ (Ok shM 0 0 mX9_melt 107 [some (pR 0), some (pI (c : Int)), some (pI (nm t c)), none, some (pI (qs t c)), some (pI (qu t c : Int)), some (pI (if k = 0 then -4 else (mk t : Int))), some (pI (qb t c k : Int)), some (pI ((k : Int) + 1)), none, none] [] h11 P))) ∧ (((if k = 0 then -4 else (qb t c (k - 1) : Int)) = (-4)) → inR ((k : Int) + 1) ∧ (Ok shM 0 0 mX9_melt 107 [some (pR 0), some (pI (c : Int)), some (pI (nm t c)), none, some (pI (qs t c)), some (pI (qu t c : Int)), some (pI (qb t c k : Int)), some (pI (qb t c k : Int)), some (pI ((k : Int) + 1)), none, none] [] h5 P)) := by
      intro h5 lk5 x5 M5 I5
      have hE5 : qb t c (k + 1) ≤ qE t c := by
        rw [hs1]
        split <;> omega
      have hlt5 : qb t c k + 1 < qb t c (k + 1) := by
        rw [hs1]
        split <;> omega
      have nx := fun h6 lk6 (x6 : mz (mk t) h0 h6) M6 I6 => ih (k + 1) h6 lk6 (by omega) x6 M6 I6
      refine ⟨fun z => ?_, fun z => ⟨by unfold inR; omega, ?_⟩⟩
      · have k0 : ¬ k = 0 := fun q => z (by rw [if_pos q])
        rw [if_neg k0, if_neg k0]
        have hm1 : k - 1 < qu t c := by omega
        have p1 : pN t c (qb t c (k - 1)) 1 = (qb t c k : Int) := by
          rw [pN_b hm1, if_neg (by decide), if_pos rfl, show k - 1 + 1 = k by omega]
        have hg1 := qb_ge (t := t) (c := c) (k - 1)
        have hs2 := qb_s (t := t) (c := c) (k := k - 1)
        rw [show k - 1 + 1 = k by omega] at hs2
        have hlt : qb t c (k - 1) + 2 ≤ qb t c k := by rw [hs2]; split <;> omega
        show Cl shM mX9_setPart [pR 0, pI (qb t c (k - 1) : Int), pI ((1 : Nat) : Int), pI (qb t c k : Int)] h5 _
        refine m_setPart M5 (by omega) (by decide) (by omega) (fun h6 x6 M6 => ⟨by unfold inR; omega, ?_⟩)
        have M6 := M6.te (CT_link h (g := true) (lk := lk5) (jk := k + 1) (n := qb t c (k + 1)) hE5 hg1 (by omega) (by decide) p1 (Or.inl rfl))
        have := nx h6 _ (x5.lk x6) M6 (fun s => by
          rw [lkU_at, I5 s]
          constructor
          · rintro (e | e) <;> omega
          · intro e
            by_cases e1 : s = qb t c k
            · exact Or.inl e1
            · exact Or.inr ⟨e.1, e.2, e1⟩)
        rw [if_neg (by omega), if_neg (by omega)] at this
        exact this
      · have k0 : k = 0 := Classical.byContradiction fun q => by
          rw [if_neg q] at z
          omega
        have eb : qb t c k = mk t := by unfold qb; omega
        have := nx h5 lk5 x5 M5 (fun s => by
          rw [I5 s]
          constructor
          · exact fun e => ⟨e.1, e.2.1⟩
          · exact fun e => ⟨e.1, e.2, by omega⟩)
        rw [if_neg (by omega), if_neg (by omega), show k + 1 - 1 = k from rfl] at this
        rw [eb] at this ⊢
        exact this
    refine ⟨fun z => ?_, fun z => ?_⟩
    · have hkp : k < qp t c := by omega
      have hlx : lkU lk (qb t c k + 1) (qx t c k) = false := by
        have := (h.x hkp).2.1
        rw [lkU_ne (by omega)]
        exact hno _ (Or.inr this)
      have e2 : qb t c (k + 1) = qb t c k + 2 := by rw [hs1, if_pos hkp]
      show inR (3 * ((qb t c k + 1 : Nat) : Int)) ∧ ∃ k6 : Nat, 3 * ((qb t c k + 1 : Nat) : Int) = (k6 : Int) ∧ _
      refine ⟨by unfold inR; omega, 3 * (qb t c k + 1), by omega, by omega, ?_⟩
      have M4 : RM (CT t c true (lkU lk (qb t c k + 1)) (k + 1) (qb t c k + 2)) (hA h3 3 (3 * (qb t c k + 1)) (k : Int)) := (M3.wr (ro := 2) (by decide) _ _).te (CT_junk h hku hkp hlx)
      have := nxt _ (lkU lk (qb t c k + 1)) (x3'.A (Or.inl rfl)) (by rw [e2]; exact M4) (fun s => by
        rw [lkU_at, I s, e2]
        omega)
      exact this
    · have hkp : qp t c ≤ k := by omega
      have hb3 := hK.2.1 hkp
      have e2 : qb t c (k + 1) = qb t c k + 3 := by rw [hs1, if_neg (by omega)]
      refine m_make M3 (by show qb t c k + 2 < 600; omega) _ _ (fun h4 x4 c4 M4 => ?_)
      have hkz := kN_z hku hkp
      have hlz : lkU lk (qb t c k + 1) (qb t c k + 2) = false := by rw [lkU_ne (by omega)]; exact hno _ (Or.inl (by omega))
      have M4 := M4.te (t' := CT t c true (lkU lk (qb t c k + 1)) k (qb t c k + 3)) (by
        have := CT_make (t := t) (c := c) (g := true) (lk := lkU lk (qb t c k + 1)) (jk := k) (n := qb t c k + 2) (by omega) hlz (fun j hj hj0 => ?_) (fun z => by rw [ds_z hku hkp] at z; simp at z)
        · rw [hkz.1, hkz.2] at this
          exact this
        · rw [pN_z hku hkp] at hj0
          exact absurd hj0 (by decide))
      show Cl shM mX9_setPart [pR 0, pI ((qb t c k + 1 : Nat) : Int), pI ((0 : Nat) : Int), pI ((qb t c k + 2 : Nat) : Int)] h4 _
      have p1 : pN t c (qb t c k + 1) 0 = ((qb t c k + 2 : Nat) : Int) := by rw [pN_s hku, if_pos rfl, if_neg (by omega)]
      refine m_setPart M4 (by omega) (by decide) (by omega) (fun h5 x5 M5 => ?_)
      have M5 := (M5.te (CT_link h (g := true) (lk := lkU lk (qb t c k + 1)) (jk := k) (n := qb t c k + 3) (s := qb t c k + 2) (a := qb t c k + 1) (j := 0) (by omega) (by omega) (by omega) (by decide) p1 (Or.inr (by omega)))).te (CT_noju h hku hkp (lkU_at.mpr (Or.inl rfl)))
      exact nxt h5 _ ((x3'.mk x4 c4 (by show mk t ≤ qb t c k + 2; omega)).lk x5) (by rw [e2]; exact M5) (fun s => by
        rw [lkU_at, lkU_at, I s, e2]
        omega)
end ME6
