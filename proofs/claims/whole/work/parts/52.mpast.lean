/-! THE REFERENCE: what is kept -/
section MPA
variable {P : Int → Hp → Prop}
def cpB (a b : Nat) (g g' : Hp) : Prop := fm 19 21 g g' ∧ (∀ x, g'.1 20 x = if 3600 * b ≤ x ∧ x < 3600 * b + 3600 then g.1 20 (3600 * a + (x - 3600 * b)) else g.1 20 x) ∧ (∀ x, g'.1 21 x = if 10 * b ≤ x ∧ x < 10 * b + 10 then g.1 21 (10 * a + (x - 10 * b)) else g.1 21 x) ∧ ∀ x, g'.1 19 x = if x = b then g.1 19 a else g.1 19 x
theorem m_copies {g : Hp} {a b : Nat} (ha : a < 13) (hb : b < 13) (hab : a ≠ b) (p : ∀ g', cpB a b g g' → P 0 g') : Cl shM mX9_copies [pR 0, pI (a : Int), pI (b : Int)] g P := by
  have l41 : ∀ (d i : Nat) (g1 : Hp), i + d = 10 → fm 19 21 g g1 → (∀ x, g1.1 20 x = if 3600 * b ≤ x ∧ x < 3600 * b + 3600 then g.1 20 (3600 * a + (x - 3600 * b)) else g.1 20 x) → (∀ x, g1.1 21 x = if 10 * b ≤ x ∧ x < 10 * b + i then g.1 21 (10 * a + (x - 10 * b)) else g.1 21 x) → g1.1 19 = g.1 19 → Ok shM 0 0 mX9_copies 41 [some (pR 0), some (pI (a : Int)), some (pI (b : Int)), some (pI (i : Int))] [] g1 P := by
    intro d
    induction d with
    | zero =>
      intro i g1 hi f e20 e21 e19
      have e : i = 10 := hi
      subst e
      refine sX9_copies_41 ⟨fun _ => ⟨a, rfl, ha, b, rfl, hb, p _ ⟨f.A ⟨by decide, by decide⟩, e20, e21, fun x => ?_⟩⟩, fun c => absurd (Int.le_refl _) c⟩
      rw [hA_at, e19]
      by_cases c : x = b
      · rw [if_pos ⟨rfl, c⟩, if_pos c]
      · rw [if_neg (fun q => c q.2), if_neg c]
    | succ d ih =>
      intro i g1 hi f e20 e21 e19
      refine sX9_copies_41 ⟨fun c => absurd c (by omega), fun _ => ⟨by unfold inR; omega, by unfold inR; omega, by unfold inR; omega, by unfold inR; omega, 10 * a + i, by omega, by omega, 10 * b + i, by omega, by omega, by unfold inR; omega, ?_⟩⟩
      refine ih (i + 1) _ (by omega) (f.A ⟨by decide, by decide⟩) e20 (fun x => ?_) e19
      rw [hA_at]
      by_cases c : x = 10 * b + i
      · rw [if_pos ⟨rfl, c⟩, if_pos (by omega), e21, if_neg (by omega), c, Nat.add_sub_cancel_left]
      · rw [if_neg (fun q => c q.2), e21]
        by_cases c2 : 10 * b ≤ x ∧ x < 10 * b + i
        · rw [if_pos c2, if_pos (by omega)]
        · rw [if_neg c2, if_neg (by omega)]
  have l2 : ∀ (d i : Nat) (g1 : Hp), i + d = 3600 → fm 19 21 g g1 → (∀ x, g1.1 20 x = if 3600 * b ≤ x ∧ x < 3600 * b + i then g.1 20 (3600 * a + (x - 3600 * b)) else g.1 20 x) → g1.1 21 = g.1 21 → g1.1 19 = g.1 19 → Ok shM 0 0 mX9_copies 2 [some (pR 0), some (pI (a : Int)), some (pI (b : Int)), some (pI (i : Int))] [] g1 P := by
    intro d
    induction d with
    | zero =>
      intro i g1 hi f e20 e21 e19
      have e : i = 3600 := hi
      subst e
      refine sX9_copies_2 ⟨fun _ => l41 10 0 g1 (by omega) f e20 (fun x => ?_) e19, fun c => absurd (Int.le_refl _) c⟩
      rw [e21, if_neg (by omega)]
    | succ d ih =>
      intro i g1 hi f e20 e21 e19
      refine sX9_copies_2 ⟨fun c => absurd c (by omega), fun _ => ⟨by unfold inR; omega, by unfold inR; omega, by unfold inR; omega, by unfold inR; omega, 3600 * a + i, by omega, by omega, 3600 * b + i, by omega, by omega, by unfold inR; omega, ?_⟩⟩
      refine ih (i + 1) _ (by omega) (f.A ⟨by decide, by decide⟩) (fun x => ?_) e21 e19
      rw [hA_at]
      by_cases c : x = 3600 * b + i
      · rw [if_pos ⟨rfl, c⟩, if_pos (by omega), e20, if_neg (by omega), c, Nat.add_sub_cancel_left]
      · rw [if_neg (fun q => c q.2), e20]
        by_cases c2 : 3600 * b ≤ x ∧ x < 3600 * b + i
        · rw [if_pos c2, if_pos (by omega)]
        · rw [if_neg c2, if_neg (by omega)]
  exact sX9_copies_0 (l2 3600 0 g (by omega) fm.rf (fun x => by rw [if_neg (by omega)]) rfl rfl)
theorem keptS.to {a b : Nat} {u : TV} {g g' : Hp} (k : keptS a u g) (c : cpB a b g g') (hu : mk u ≤ 600 ∧ rt u ≤ 10) : keptS b u g' := by
  obtain ⟨k1, k2, k3⟩ := k
  obtain ⟨_, c20, c21, c19⟩ := c
  have e : ∀ y, y < 3600 → g'.1 20 (3600 * b + y) = g.1 20 (3600 * a + y) := fun y hy => by
    rw [c20, if_pos (by omega), Nat.add_sub_cancel_left]
  refine ⟨by rw [c19, if_pos rfl]; exact k1, fun s hs => ?_, fun r hr => ?_⟩
  · obtain ⟨x1, x2, x3, x4⟩ := k2 s hs
    refine ⟨(e (6 * s) (by omega)).trans x1, ?_, ?_, fun q hq => ?_⟩
    · rw [Nat.add_assoc, e (6 * s + 1) (by omega), ← Nat.add_assoc]; exact x2
    · rw [Nat.add_assoc, e (6 * s + 2) (by omega), ← Nat.add_assoc]; exact x3
    · rw [show 3600 * b + 6 * s + 3 + q = 3600 * b + (6 * s + 3 + q) by omega, e _ (by omega), show 3600 * a + (6 * s + 3 + q) = 3600 * a + 6 * s + 3 + q by omega]
      exact x4 q hq
  · rw [c21, if_pos (by omega), show 10 * b + r - 10 * b = r by omega]
    exact k3 r hr
theorem keptS.ot {a b i : Nat} {u : TV} {g g' : Hp} (k : keptS i u g) (c : cpB a b g g') (hi : i ≠ b) (hu : mk u ≤ 600 ∧ rt u ≤ 10) : keptS i u g' := by
  obtain ⟨k1, k2, k3⟩ := k
  obtain ⟨_, c20, c21, c19⟩ := c
  have e : ∀ y, y < 3600 → g'.1 20 (3600 * i + y) = g.1 20 (3600 * i + y) := fun y hy => by
    rw [c20, if_neg (by omega)]
  refine ⟨by rw [c19, if_neg hi]; exact k1, fun s hs => ?_, fun r hr => ?_⟩
  · obtain ⟨x1, x2, x3, x4⟩ := k2 s hs
    refine ⟨(e (6 * s) (by omega)).trans x1, ?_, ?_, fun q hq => ?_⟩
    · rw [Nat.add_assoc, e (6 * s + 1) (by omega), ← Nat.add_assoc]; exact x2
    · rw [Nat.add_assoc, e (6 * s + 2) (by omega), ← Nat.add_assoc]; exact x3
    · rw [show 3600 * i + 6 * s + 3 + q = 3600 * i + (6 * s + 3 + q) by omega, e _ (by omega), show 3600 * i + (6 * s + 3 + q) = 3600 * i + 6 * s + 3 + q by omega]
      exact x4 q hq
  · rw [c21, if_neg (by omega)]
    exact k3 r hr
end MPA
