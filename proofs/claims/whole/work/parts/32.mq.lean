/-! THE REFERENCE: questions over trees -/
section MQ
variable {t : TV} {h : Hp} {P : Int → Hp → Prop}
theorem plist_al {z : Nat} (ha : al t z) : plist t (z : Int) = pre t 40 1 z := by
  unfold plist
  rw [if_pos ha]
  rfl
theorem m_goes' (w : WF t) (R : RM t h) {z : Int} (hz : al t z) (p : ∀ h' : Hp, fm 9 11 h h' → OA h' (plist t z) → DP h' (plist t z) → P ((plist t z).length : Int) h') : Cl shM mX9_goes [pR 0, pI z] h P := by
  obtain ⟨n, rfl⟩ := Int.eq_ofNat_of_zero_le hz.1
  have e := plist_al hz
  rw [e] at p
  exact m_goes R (w.trr hz) (fun q hq => by
    have := tr_at (pre_in (x := q.1) (dx := q.2) hq (w.trr hz)).2.2
    exact w.fu this.1 this.2) p
theorem m_high (w : WF t) (R : RM t h) {z : Int} (hz : al t z) (p : ∀ h', fm 9 11 h h' → P (hiL (plist t z) : Int) h') : Cl shM mX9_high [pR 0, pI z] h P := by
  have hm := R.m
  have hlen := plist_len (t := t) (z := z) w.trr
  refine sX9_high_0 (m_goes' w R hz (fun h' x hO hP => ?_))
  have key : ∀ (D2 D1 : List (Nat × Nat)), D1 ++ D2 = plist t z → Ok shM 0 0 mX9_high 11 [some (pR 0), none, some (pI ((plist t z).length : Int)), some (pI (hiL D1 : Int)), some (pI (D1.length : Int))] [] h' P := by
    intro D2
    induction D2 with
    | nil =>
      intro D1 he
      rw [List.append_nil] at he
      subst he
      exact sX9_high_11 ⟨fun _ => p h' x, fun c => absurd (Int.le_refl _) c⟩
    | cons q D2 ih =>
      intro D1 he
      have hl : D1.length < (plist t z).length := by rw [← he]; simp
      have hq : (plist t z)[D1.length]? = some q := by rw [← he]; simp
      have hqm := plist_at w (List.mem_of_getElem? hq)
      have := ih (D1 ++ [q]) (by rw [← he]; simp)
      rw [hiL_snoc, List.length_append] at this
      refine sX9_high_11 ⟨fun c => absurd c (by omega), fun _ => ⟨D1.length, rfl, by omega, ?_⟩⟩
      rw [hO _ _ hq]
      refine ⟨q.1, rfl, by omega, ?_⟩
      rw [hP q (List.mem_of_getElem? hq)]
      refine ⟨fun c => ⟨by unfold inR; omega, ?_⟩, fun c => ⟨by unfold inR; omega, ?_⟩⟩
      · rw [show max (hiL D1) q.2 = hiL D1 by omega] at this
        exact this
      · rw [show max (hiL D1) q.2 = q.2 by omega] at this
        exact this
  exact key (plist t z) [] rfl
theorem up_al (w : WF t) {z : Int} (hz : al t z) : upI t z = -4 ∨ (al t (upI t z) ∧ z.toNat ∈ ch t (upI t z).toNat) := by
  have hu : upI t z = up t z.toNat := if_pos ⟨hz.1, hz.2.1⟩
  by_cases c : upI t z = -4
  · exact Or.inl c
  · rw [hu] at c ⊢
    obtain ⟨h1, k, hk, h2⟩ := w.2.2.2.2.2.2.2 z.toNat (by have := hz.1; have := hz.2.1; omega) hz.2.2 c
    exact Or.inr ⟨h1, mem_ch.mpr ⟨k, hk, by omega, by omega⟩⟩
theorem m_homeOf (w : WF t) (R : RM t h) {z : Int} (hz : al t z) (p : P (home t z) h) : Cl shM mX9_homeOf [pR 0, pI z] h P := by
  have hm := R.m
  have key : ∀ (n j : Nat) (x : Int), j + n = 40 → al t x → ¬ tr t j x.toNat → P (ow t (root t n x)) h → Ok shM 0 0 mX9_homeOf 2 [some (pR 0), none, some (pI x)] [] h P := by
    intro n
    induction n with
    | zero =>
      intro j x hj ha hn _
      have e : j = 40 := hj
      subst e
      exact absurd (w.trr ha) hn
    | succ n ih =>
      intro j x hj ha hn hp
      have hu : upI t x = up t x.toNat := if_pos ⟨ha.1, ha.2.1⟩
      refine sX9_homeOf_2 (exI ha.1 (by have := ha.2.1; omega) ?_)
      rw [R.u (by have := ha.1; have := ha.2.1; omega), ← hu]
      refine ⟨fun c => m_bodyOf' w R (by have := ha.1; omega) ?_, fun c => ?_⟩
      · rwa [root, if_pos c] at hp
      · rw [root, if_neg c] at hp
        have h2 := (up_al w ha).resolve_left c
        exact ih (j + 1) _ (by omega) h2.1 (fun q => hn (by have := tr_ch q h2.2; exact this)) hp
  refine sX9_homeOf_0 (key 40 0 z rfl hz (fun q => q) ?_)
  rwa [home, if_pos hz] at p
theorem m_isCall (w : WF t) (R : RM t h) (z : Int) (p : P (b2 (cib t z)) h) : Cl shM mX9_isCall [pR 0, pI z] h P := by
  have hm := R.m
  refine sX9_isCall_0 (m_isStep R z ⟨fun c => ?_, fun c => ?_⟩)
  · rw [b2_0] at c
    rwa [b2, if_neg (fun q => q.2 (by unfold home; rw [if_neg c]))] at p
  · rw [b2_n0] at c
    have hk : kdI t z = kd t z.toNat := if_pos ⟨c.1, c.2.1⟩
    refine exI c.1 (by have := c.2.1; omega) ?_
    rw [R.k (by have := c.1; have := c.2.1; omega), ← hk]
    refine ⟨fun c2 => ?_, fun c2 => m_homeOf w R c ⟨fun c3 => ?_, fun c3 => ?_⟩⟩
    · rwa [b2, if_neg (fun q => c2 q.1)] at p
    · rwa [b2, if_neg (fun q => q.2 c3)] at p
    · rwa [b2, if_pos ⟨c2, c3⟩] at p
theorem m_uses (w : WF t) (R : RM t h) {r : Int} (hr : 0 ≤ r ∧ r < (rt t : Int)) (p : ∀ h', fm 9 11 h h' → P (uses t r) h') : Cl shM mX9_uses [pR 0, pI r] h P := by
  have hm := R.m
  have hb : bdI t r = bd t r.toNat := if_pos hr
  have hpr : prI t r = pr t r.toNat := if_pos hr
  have hlen := plist_len (t := t) (z := bdI t r) w.trr
  have hwr := w.2.2.1 r.toNat (by omega)
  refine sX9_uses_0 (exI hr.1 (by omega) ?_)
  rw [R.b (by omega), R.q (by omega), ← hb, ← hpr]
  refine ⟨fun c => ?_, fun c => ?_⟩
  · have := p h fm.rf
    have e : plist t (-4) = [] := if_neg (by unfold al; omega)
    unfold uses at this
    rw [c, e] at this
    exact this
  · have ha : al t (bdI t r) := by
      rw [hb] at c ⊢
      exact (hwr.2.2.resolve_left c).1
    refine m_goes' w R ha (fun h' x hO _ => ?_)
    have R' := R.kp x (by decide)
    have key : ∀ (D2 D1 : List (Nat × Nat)), D1 ++ D2 = plist t (bdI t r) → Ok shM 0 0 mX9_uses 32 [some (pR 0), none, some (pI (usL t D1 (prI t r))), some (pI ((plist t (bdI t r)).length : Int)), some (pI (D1.length : Int)), none, none] [] h' P := by
      intro D2
      induction D2 with
      | nil =>
        intro D1 he
        rw [List.append_nil] at he
        subst he
        exact sX9_uses_32 ⟨fun _ => p h' x, fun c => absurd (Int.le_refl _) c⟩
      | cons q D2 ih =>
        intro D1 he
        have hl : D1.length < (plist t (bdI t r)).length := by rw [← he]; simp
        have hq : (plist t (bdI t r))[D1.length]? = some q := by rw [← he]; simp
        have hqm := plist_at w (List.mem_of_getElem? hq)
        have hn := (w.nmr hqm.1 hqm.2).1
        have this1 := ih (D1 ++ [q]) (by rw [← he]; simp)
        rw [usL_snoc, List.length_append] at this1
        unfold usS at this1
        refine sX9_uses_32 ⟨fun c => absurd c (by omega), fun _ => ⟨D1.length, rfl, by omega, ?_⟩⟩
        rw [hO _ _ hq]
        refine ⟨q.1, rfl, by omega, ?_⟩
        rw [R'.k hqm.1, R'.n hqm.1]
        refine ⟨fun c => ⟨by have := hn (Or.inl c); unfold inR; omega, fun c2 => ⟨by unfold inR; omega, ?_⟩, fun c2 => ⟨by unfold inR; omega, ?_⟩⟩, fun c => ⟨fun c2 => ⟨by unfold inR; omega, ?_⟩, fun c3 => ⟨by have := hn (Or.inr c3); unfold inR; omega, fun c2 => ⟨by unfold inR; omega, ?_⟩, fun c2 => ⟨by unfold inR; omega, ?_⟩⟩⟩⟩
        · rw [if_pos (Or.inl c), show max (usL t D1 (prI t r)) (nm t q.1 + 1) = usL t D1 (prI t r) by omega] at this1
          exact this1
        · rw [if_pos (Or.inl c), show max (usL t D1 (prI t r)) (nm t q.1 + 1) = nm t q.1 + 1 by omega] at this1
          exact this1
        · rw [if_neg (by omega)] at this1
          exact this1
        · rw [if_pos (Or.inr c3), show max (usL t D1 (prI t r)) (nm t q.1 + 1) = usL t D1 (prI t r) by omega] at this1
          exact this1
        · rw [if_pos (Or.inr c3), show max (usL t D1 (prI t r)) (nm t q.1 + 1) = nm t q.1 + 1 by omega] at this1
          exact this1
    exact key (plist t (bdI t r)) [] rfl
/-- calls in a list: of r, or of any -/
def caR (t : TV) (r : Int) (D : List (Nat × Nat)) : Nat := D.foldl (fun a q => if kd t q.1 = 6 ∧ (r < 0 ∨ nm t q.1 = r) then a + 1 else a) 0
theorem caR_snoc (t : TV) (r : Int) (D : List (Nat × Nat)) (q : Nat × Nat) : caR t r (D ++ [q]) = if kd t q.1 = 6 ∧ (r < 0 ∨ nm t q.1 = r) then caR t r D + 1 else caR t r D := by simp [caR]
theorem caR_le (t : TV) (r : Int) (D : List (Nat × Nat)) : caR t r D ≤ D.length := by
  have key : ∀ (D : List (Nat × Nat)) (a : Nat), D.foldl (fun a q => if kd t q.1 = 6 ∧ (r < 0 ∨ nm t q.1 = r) then a + 1 else a) a ≤ a + D.length := by
    intro D
    induction D with
    | nil => exact fun a => Nat.le_refl _
    | cons q D ih =>
      intro a
      have := ih (if kd t q.1 = 6 ∧ (r < 0 ∨ nm t q.1 = r) then a + 1 else a)
      simp only [List.foldl_cons, List.length_cons]
      split at this <;> rename_i hc
      · rw [if_pos hc]
        omega
      · rw [if_neg hc]
        omega
  have := key D 0
  unfold caR
  omega
theorem m_callsIn (w : WF t) (R : RM t h) {z : Int} (hz : al t z) (r : Int) (p : ∀ h', fm 9 11 h h' → P (caR t r (plist t z) : Int) h') : Cl shM mX9_callsIn [pR 0, pI z, pI r] h P := by
  have hm := R.m
  have hlen := plist_len (t := t) (z := z) w.trr
  refine sX9_callsIn_0 (m_goes' w R hz (fun h' x hO _ => ?_))
  have R' := R.kp x (by decide)
  have key : ∀ (D2 D1 : List (Nat × Nat)), D1 ++ D2 = plist t z → Ok shM 0 0 mX9_callsIn 12 [some (pR 0), none, some (pI r), some (pI ((plist t z).length : Int)), some (pI (caR t r D1 : Int)), some (pI (D1.length : Int))] [] h' P := by
    intro D2
    induction D2 with
    | nil =>
      intro D1 he
      rw [List.append_nil] at he
      subst he
      exact sX9_callsIn_12 ⟨fun _ => p h' x, fun c => absurd (Int.le_refl _) c⟩
    | cons q D2 ih =>
      intro D1 he
      have hl : D1.length < (plist t z).length := by rw [← he]; simp
      have hq : (plist t z)[D1.length]? = some q := by rw [← he]; simp
      have hqm := plist_at w (List.mem_of_getElem? hq)
      have hc := caR_le t r D1
      have this1 := ih (D1 ++ [q]) (by rw [← he]; simp)
      rw [caR_snoc, List.length_append] at this1
      refine sX9_callsIn_12 ⟨fun c => absurd c (by omega), fun _ => ⟨D1.length, rfl, by omega, ?_⟩⟩
      rw [hO _ _ hq]
      refine ⟨q.1, rfl, by omega, ?_⟩
      rw [R'.k hqm.1, R'.n hqm.1]
      refine ⟨fun c => ⟨by unfold inR; omega, by unfold inR; omega, ?_⟩, fun c => ⟨fun c2 => ⟨by unfold inR; omega, by unfold inR; omega, ?_⟩, fun c2 => ⟨fun c3 => ⟨by unfold inR; omega, by unfold inR; omega, ?_⟩, fun c3 => ⟨by unfold inR; omega, by unfold inR; omega, ?_⟩⟩⟩⟩
      · rw [if_neg (fun q => c q.1)] at this1
        exact this1
      · rw [if_pos ⟨c, Or.inl c2⟩] at this1
        exact this1
      · rw [if_neg (fun q => q.2.elim c2 c3)] at this1
        exact this1
      · rw [if_pos ⟨c, Or.inr c3⟩] at this1
        exact this1
  exact key (plist t z) [] rfl
/-- what a melting weighs -/
def wgt (t : TV) (c : Nat) : Int := 2 * prI t (nm t c) + 3 * (uses t (nm t c) - prI t (nm t c)) + ((plist t (bdI t (nm t c))).length : Int)
theorem usL_ge (t : TV) : ∀ (D : List (Nat × Nat)) (p : Int), p ≤ usL t D p
  | [], p => Int.le_refl _
  | q :: D, p => by
    have := usL_ge t D (usS t p q)
    show p ≤ usL t D (usS t p q)
    have h2 : p ≤ usS t p q := by
      unfold usS
      split <;> omega
    omega
theorem m_weightOf (w : WF t) (R : RM t h) {c : Nat} (hc : c < mk t) (h6 : kd t c = 6) (hb : bdI t (nm t c) ≠ -4) (p : ∀ h', fm 9 11 h h' → P (wgt t c) h') : Cl shM mX9_weightOf [pR 0, pI (c : Int)] h P := by
  have hm := R.m
  have hn := (w.nmr hc (by rw [h6]; decide)).2 h6
  have hb2 : bdI t (nm t c) = bd t (nm t c).toNat := if_pos hn
  have hpr2 : prI t (nm t c) = pr t (nm t c).toNat := if_pos hn
  have hwr := w.2.2.1 (nm t c).toNat (by omega)
  have hpr := w.prr (nm t c)
  have hus := w.us (nm t c)
  have hge := usL_ge t (plist t (bdI t (nm t c))) (prI t (nm t c))
  have hge : prI t (nm t c) ≤ uses t (nm t c) := hge
  have ha : al t (bdI t (nm t c)) := by
    rw [hb2] at hb ⊢
    exact (hwr.2.2.resolve_left hb).1
  have hlen := plist_len (t := t) (z := bdI t (nm t c)) w.trr
  refine sX9_weightOf_0 ⟨c, rfl, by omega, ?_⟩
  rw [R.n hc]
  refine m_uses w R hn (fun h1 x1 => exI hn.1 (by omega) ?_)
  have R1 := R.kp x1 (by decide)
  rw [R1.q (by omega), R1.b (by omega), ← hpr2, ← hb2]
  refine ⟨by unfold inR; omega, by unfold inR; omega, by unfold inR; omega, by unfold inR; omega, m_goes' w R1 ha (fun h2 x2 _ _ => ⟨by unfold inR; omega, p h2 (x1.tr x2)⟩)⟩
end MQ
