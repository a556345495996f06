/-! THE REFERENCE: what it holds, its first questions, goes -/
def RM (t : TV) (h : Hp) : Prop := h.2.1 0 0 = (mk t : Int) ∧ h.2.1 0 6 = (rt t : Int) ∧ Hd ρM t h
theorem RM.k {t : TV} {h : Hp} (r : RM t h) {s : Nat} (hs : s < mk t) : h.1 1 s = kd t s := (r.2.2.2.2.1 s hs).1
theorem RM.n {t : TV} {h : Hp} (r : RM t h) {s : Nat} (hs : s < mk t) : h.1 2 s = nm t s := (r.2.2.2.2.1 s hs).2.1
theorem RM.u {t : TV} {h : Hp} (r : RM t h) {s : Nat} (hs : s < mk t) : h.1 4 s = up t s := (r.2.2.2.2.1 s hs).2.2
theorem RM.p {t : TV} {h : Hp} (r : RM t h) {s k : Nat} (hs : s < mk t) (hk : k < 3) : h.1 3 (3 * s + k) = pt t s k := r.2.2.2.2.2.1 (3 * s + k) (by omega)
theorem RM.q {t : TV} {h : Hp} (r : RM t h) {q : Nat} (hq : q < rt t) : h.1 6 q = pr t q := (r.2.2.2.2.2.2 q hq).1
theorem RM.b {t : TV} {h : Hp} (r : RM t h) {q : Nat} (hq : q < rt t) : h.1 7 q = bd t q := (r.2.2.2.2.2.2 q hq).2
theorem RM.m {t : TV} {h : Hp} (r : RM t h) : mk t ≤ 600 ∧ rt t ≤ 10 := ⟨r.2.2.1, r.2.2.2.1⟩
/-- arrays alone change, lo .. hi of them -/
def fm (lo hi : Nat) (h h' : Hp) : Prop := (∀ a, a < lo ∨ hi < a → h'.1 a = h.1 a) ∧ h'.2 = h.2
theorem fm.rf {lo hi : Nat} {h : Hp} : fm lo hi h h := ⟨fun _ _ => rfl, rfl⟩
theorem fm.tr {lo hi : Nat} {h h1 h2 : Hp} (x : fm lo hi h h1) (y : fm lo hi h1 h2) : fm lo hi h h2 := ⟨fun a ha => (y.1 a ha).trans (x.1 a ha), y.2.trans x.2⟩
theorem fm.wd {lo hi lo' hi' : Nat} {h h1 : Hp} (x : fm lo hi h h1) (h1' : lo' ≤ lo) (h2' : hi ≤ hi') : fm lo' hi' h h1 := ⟨fun a ha => x.1 a (by omega), x.2⟩
theorem fm.A {lo hi : Nat} {h h1 : Hp} (x : fm lo hi h h1) {a i : Nat} {z : Int} (ha : lo ≤ a ∧ a ≤ hi) : fm lo hi h (hA h1 a i z) :=
  ⟨fun b hb => by
    rw [← x.1 b hb]
    funext j
    show (if b = a ∧ j = i then z else h1.1 b j) = _
    rw [if_neg (by omega)], x.2⟩
theorem fm.a {lo hi : Nat} {h h1 : Hp} (x : fm lo hi h h1) {a : Nat} (ha : a < lo ∨ hi < a) : h1.1 a = h.1 a := x.1 a ha
theorem fm.i {lo hi : Nat} {h h1 : Hp} (x : fm lo hi h h1) : h1.2 = h.2 := x.2
theorem RM.kp {lo hi : Nat} {t : TV} {h h' : Hp} (r : RM t h) (x : fm lo hi h h') (hl : 7 < lo) : RM t h' := by
  obtain ⟨r1, r2, r3, r4, r5, r6, r7⟩ := r
  have e : ∀ i, i < 6 → h'.1 (ρM i) = h.1 (ρM i) := fun i h6 => x.a (by
    left
    unfold ρM
    split <;> omega)
  refine ⟨by rw [x.2]; exact r1, by rw [x.2]; exact r2, r3, r4, fun s hs => ?_, fun j hj => ?_, fun q hq => ?_⟩
  · rw [e 0 (by decide), e 1 (by decide), e 3 (by decide)]
    exact r5 s hs
  · rw [e 2 (by decide)]
    exact r6 j hj
  · rw [e 4 (by decide), e 5 (by decide)]
    exact r7 q hq
section MB
variable {t : TV} {h : Hp} {P : Int → Hp → Prop}
theorem m_in (v a b : Int) (p : P (b2 (a ≤ v ∧ v ≤ b)) h) : Cl shM mX9_in [pL v, pL a, pL b] h P := by
  refine sX9_in_0 ⟨fun c => ?_, fun c => ⟨fun c2 => ?_, fun c2 => ?_⟩⟩
  · have : ¬ a ≤ v := by
      unfold b_lcmp at c
      split at c
      · omega
      · split at c <;> omega
    rwa [b2, if_neg (fun q => this q.1)] at p
  · have : ¬ v ≤ b := by
      unfold b_lcmp at c2
      split at c2
      · omega
      · split at c2 <;> omega
    rwa [b2, if_neg (fun q => this q.2)] at p
  · have h1 : a ≤ v := by
      unfold b_lcmp at c
      split at c
      · omega
      · split at c
        · omega
        · exact absurd (show (-1 : Int) < 0 by decide) c
    have h2 : v ≤ b := by
      unfold b_lcmp at c2
      split at c2
      · exact absurd (show (0 : Int) < 1 by decide) c2
      · split at c2 <;> omega
    rwa [b2, if_pos ⟨h1, h2⟩] at p
theorem m_isStep (R : RM t h) (z : Int) (p : P (b2 (al t z)) h) : Cl shM mX9_isStep [pR 0, pI z] h P := by
  have hm := R.m
  refine sX9_isStep_0 ?_
  rw [R.1]
  refine ⟨by unfold inR; omega, m_in _ _ _ ⟨fun c => ?_, fun c => ?_⟩⟩
  · rw [b2_0] at c
    rwa [b2, if_neg (by unfold al; omega)] at p
  · rw [b2_n0] at c
    refine exI (by omega) (by omega) ?_
    rw [R.k (by omega)]
    refine ⟨fun c3 => ?_, fun c3 => ?_⟩
    · rwa [b2, if_neg (by unfold al; omega)] at p
    · rwa [b2, if_pos (by unfold al; omega)] at p
theorem m_isRoutine (R : RM t h) (z : Int) (p : P (b2 (0 ≤ z ∧ z < (rt t : Int))) h) : Cl shM mX9_isRoutine [pR 0, pI z] h P := by
  have hm := R.m
  refine sX9_isRoutine_0 ?_
  rw [R.2.1]
  refine ⟨by unfold inR; omega, m_in _ _ _ ⟨b2_01 _, ?_⟩⟩
  have e : b2 (0 ≤ z ∧ z ≤ (rt t : Int) - 1) = b2 (0 ≤ z ∧ z < (rt t : Int)) := by
    unfold b2
    by_cases q : 0 ≤ z ∧ z < (rt t : Int)
    · rw [if_pos q, if_pos (by omega)]
    · rw [if_neg q, if_neg (by omega)]
  rw [e]
  exact p
/-- the last routine whose body it is: the same where no two have one body -/
def owL (t : TV) (z : Int) : Nat → Int
  | 0 => -4
  | n + 1 => if bd t n = z then (n : Int) else owL t z n
theorem owL_eq {t : TV} {z : Int} (hu : ∀ r q, r < rt t → q < rt t → r ≠ q → bd t r ≠ -4 → bd t r ≠ bd t q) (hz : z ≠ -4) : owL t z (rt t) = ow t z := by
  have h1 : ∀ n, n ≤ rt t → owL t z n = -4 ∧ (∀ k : Nat, k < n → bd t k ≠ z) ∨ ∃ k : Nat, owL t z n = (k : Int) ∧ k < n ∧ bd t k = z := by
    intro n
    induction n with
    | zero => exact fun _ => Or.inl ⟨rfl, fun k hk => by omega⟩
    | succ n ih =>
      intro hn
      unfold owL
      split
      · rename_i hc
        exact Or.inr ⟨n, rfl, by omega, hc⟩
      · rename_i hc
        rcases ih (by omega) with ⟨e, h⟩ | ⟨k, e, h2, h3⟩
        · refine Or.inl ⟨e, fun k hk => ?_⟩
          by_cases ek : k = n
          · rw [ek]
            exact hc
          · exact h k (by omega)
        · exact Or.inr ⟨k, e, by omega, h3⟩
  unfold ow
  rcases h1 (rt t) (Nat.le_refl _) with ⟨e, h⟩ | ⟨k, e, h2, h3⟩
  · rcases owF_ge t z (rt t) 0 with e2 | ⟨k, e2, -, h4, h5⟩
    · rw [e, e2]
    · exact absurd h5 (h k (by omega))
  · rcases owF_ge t z (rt t) 0 with e2 | ⟨k', e2, -, h4, h5⟩
    · exact absurd h3 (owF_none e2 k (by omega) (by omega))
    · by_cases ek : k = k'
      · rw [e, e2, ek]
      · exact absurd (h3.trans h5.symm) (hu k k' h2 (by omega) ek (by rw [h3]; exact hz))
theorem m_bodyOf (R : RM t h) (z : Int) (p : P (owL t z (rt t)) h) : Cl shM mX9_bodyOf [pR 0, pI z] h P := by
  have hm := R.m
  have key : ∀ n i : Nat, i + n = rt t → Ok shM 0 0 mX9_bodyOf 5 [some (pR 0), some (pI z), some (pI (owL t z i)), some (pI (i : Int))] [] h P := by
    intro n
    induction n with
    | zero =>
      intro i hi
      refine sX9_bodyOf_5 ?_
      rw [R.2.1]
      have e : i = rt t := hi
      subst e
      exact ⟨fun _ => p, fun c => absurd (Int.le_refl _) c⟩
    | succ n ih =>
      intro i hi
      have := ih (i + 1) (by omega)
      unfold owL at this
      refine sX9_bodyOf_5 ?_
      rw [R.2.1]
      refine ⟨fun c => absurd c (by omega), fun _ => ⟨i, rfl, by omega, ?_⟩⟩
      rw [R.b (by omega)]
      refine ⟨fun c => ⟨by unfold inR; omega, ?_⟩, fun c => ⟨by unfold inR; omega, ?_⟩⟩
      · rw [if_neg c] at this
        exact this
      · rw [if_pos c] at this
        exact this
  exact sX9_bodyOf_0 (key (rt t) 0 (by omega))
theorem m_bodyOf' (w : WF t) (R : RM t h) {z : Int} (hz : z ≠ -4) (p : P (ow t z) h) : Cl shM mX9_bodyOf [pR 0, pI z] h P := m_bodyOf R z (by rw [owL_eq w.2.2.2.1 hz]; exact p)
theorem m_isLoose (w : WF t) (R : RM t h) (z : Int) (p : P (b2 (lo t z)) h) : Cl shM mX9_isLoose [pR 0, pI z] h P := by
  have hm := R.m
  refine sX9_isLoose_0 (m_isStep R z ⟨fun c => ?_, fun c => ?_⟩)
  · rw [b2_0] at c
    rwa [b2, if_neg (fun q => c q.1)] at p
  · rw [b2_n0] at c
    refine exI (by omega) (by omega) ?_
    have hu : upI t z = up t z.toNat := if_pos ⟨c.1, c.2.1⟩
    rw [R.u (by omega), ← hu]
    refine ⟨fun c2 => ?_, fun c2 => m_bodyOf' w R (by have := c.1; omega) ⟨fun c3 => ?_, fun c3 => ?_⟩⟩
    · rwa [b2, if_neg (fun q => c2 q.2.1)] at p
    · rwa [b2, if_neg (fun q => c3 q.2.2)] at p
    · rwa [b2, if_pos ⟨c, c2, c3⟩] at p
/-- a step that has just its parts -/
def fl (t : TV) (s : Nat) : Prop := -1 ≤ kd t s ∧ kd t s ≤ 11 ∧ (kd t s = 6 → 0 ≤ nm t s ∧ nm t s < (rt t : Int) ∧ 0 ≤ pr t (nm t s).toNat ∧ pr t (nm t s).toNat ≤ 3) ∧ ∀ k, k < 3 → (k < ar t s → 0 ≤ pt t s k) ∧ (ar t s ≤ k → pt t s k < 0)
theorem WF.fu {t : TV} (w : WF t) {s : Nat} (hs : s < mk t) (hk : kd t s ≠ -1) : fl t s := by
  have h1 := w.2.2.2.2.1 s hs
  have h2 := w.2.2.2.2.2.1 s hs hk
  refine ⟨h1.1, h1.2.1, fun h6 => ?_, fun k hk3 => ⟨(h2.2.2.2 k hk3).1, fun q => by rw [(h2.2.2.2 k hk3).2 q]; decide⟩⟩
  have h3 := h2.2.1 h6
  have h4 := w.2.2.1 (nm t s).toNat (by omega)
  exact ⟨h3.1, h3.2, h4.1, h4.2.1⟩
theorem m_partsOf (R : RM t h) {s : Nat} (hs : s < mk t) (f : fl t s) (p : P (ar t s : Int) h) : Cl shM mX9_partsOf [pR 0, pI (s : Int)] h P := by
  have hm := R.m
  refine sX9_partsOf_0 ⟨s, rfl, by omega, ?_⟩
  rw [R.k hs, R.n hs]
  have f1 := f.1
  have f2 := f.2.1
  have f3 := f.2.2.1
  unfold ar at p
  refine ⟨fun c => ?_, fun c => ?_, fun c => ?_, fun c => ?_, fun c => ?_⟩
  · rw [if_neg (by omega), if_neg (by omega), if_neg (by omega), if_neg (by omega)] at p
    exact p
  · rw [if_neg (by omega), if_pos (by omega)] at p
    exact p
  · rw [if_neg (by omega), if_neg (by omega), if_pos (by omega)] at p
    exact p
  · have f3 := f3 c
    refine exI (by omega) (by omega) ?_
    rw [R.q (by omega)]
    rw [if_neg (by omega), if_neg (by omega), if_neg (by omega), if_pos (by omega)] at p
    rw [show ((pr t (nm t s).toNat).toNat : Int) = pr t (nm t s).toNat by omega] at p
    exact p
  · rw [if_pos (by omega)] at p
    exact p
end MB
