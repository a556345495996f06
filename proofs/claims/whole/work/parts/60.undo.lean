/-! THE REFERENCE: back -/
theorem und_rt {u : TV} {m : Nat} : rt (und u m) = rt u := rfl
section UB
variable {P : Int → Hp → Prop}
def bk (g g' : Hp) : Prop := (∀ a, a ≠ 1 → a ≠ 2 → a ≠ 3 → a ≠ 4 → a ≠ 7 → g'.1 a = g.1 a) ∧ g'.2 = g.2
theorem bk.rf {g : Hp} : bk g g := ⟨fun _ _ _ _ _ _ => rfl, rfl⟩
theorem bk.A {g g1 : Hp} (x : bk g g1) {a i : Nat} {z : Int} (ha : a = 1 ∨ a = 2 ∨ a = 3 ∨ a = 4 ∨ a = 7) : bk g (hA g1 a i z) :=
  ⟨fun b h1 h2 h3 h4 h5 => by
    rw [← x.1 b h1 h2 h3 h4 h5]
    funext j
    show (if b = a ∧ j = i then z else g1.1 b j) = _
    rw [if_neg (by omega)], x.2⟩
/-- the first n steps are in their places -/
def SD (v : TV) (n : Nat) (g : Hp) : Prop := (∀ s, s < n → g.1 1 s = kd v s ∧ g.1 2 s = nm v s ∧ g.1 4 s = up v s) ∧ ∀ j, j < 3 * n → g.1 3 j = v.1 2 j
theorem SD.A {v : TV} {n : Nat} {g : Hp} (x : SD v n g) {a i : Nat} {z : Int} (h : a = 7 ∨ (a ≠ 3 ∧ n ≤ i) ∨ (a = 3 ∧ 3 * n ≤ i)) : SD v n (hA g a i z) := by
  refine ⟨fun s hs => ?_, fun j hj => ?_⟩
  · simp only [hA_at]
    rw [if_neg (by omega), if_neg (by omega), if_neg (by omega)]
    exact x.1 s hs
  · rw [hA_at, if_neg (by omega)]
    exact x.2 j hj
theorem m_back {t u : TV} {i : Nat} {g : Hp} (R : RM t g) (k : keptS i u g) (hi : i < 13) (w : kin t u) (p : ∀ g', bk g g' → RM (und u (mk t)) g' → P 0 g') : Cl shM mX9_back [pR 0, pI (i : Int)] g P := by
  have hm := R.m
  obtain ⟨w1, w2, w3, w4⟩ := w
  obtain ⟨k1, k2, k3⟩ := k
  obtain ⟨m, hmd⟩ : ∃ m, m = mk t := ⟨_, rfl⟩
  have e0 : g.2.1 0 0 = (m : Int) := by rw [hmd]; exact R.1
  rw [← hmd] at p hm w4
  have l176 : ∀ (d v : Nat) (g1 : Hp), v + d = 10 → bk g g1 → SD (und u m) m g1 → (∀ r, r < v → r < rt t → g1.1 7 r = bd u r) → Ok shM 0 0 mX9_back 176 [some (pR 0), some (pI (i : Int)), none, some (pI (v : Int)), none, none] [] g1 P := by
    intro d
    induction d with
    | zero =>
      intro v g1 hv b s hb
      have e : v = 10 := hv
      subst e
      refine sX9_back_176 ⟨fun _ => p g1 b ⟨by rw [b.2]; exact e0, ?_, hm.1, by rw [und_rt, w2]; exact hm.2, fun x hx => s.1 x hx, fun j hj => s.2 j hj, fun r hr => ?_⟩, fun c => absurd (Int.le_refl _) c⟩
      · rw [b.2, R.2.1, und_rt, w2]
      · rw [und_rt, w2] at hr
        refine ⟨?_, hb r (by omega) hr⟩
        rw [show ρM 4 = 6 from rfl, b.1 6 (by decide) (by decide) (by decide) (by decide) (by decide), R.q hr]
        exact (w3 r hr).symm
    | succ d ih =>
      intro v g1 hv b s hb
      refine sX9_back_176 ⟨fun c => absurd c (by omega), fun _ => ⟨by unfold inR; omega, by unfold inR; omega, 10 * i + v, by omega, by omega, v, rfl, by omega, by unfold inR; omega, ?_⟩⟩
      refine ih (v + 1) _ (by omega) (b.A (by decide)) (s.A (Or.inl rfl)) (fun r hr hrt => ?_)
      rw [hA_at]
      by_cases c : r = v
      · rw [if_pos ⟨rfl, c⟩, b.1 21 (by decide) (by decide) (by decide) (by decide) (by decide), c]
        exact k3 v (by omega)
      · rw [if_neg (fun q => c q.2)]
        exact hb r (by omega) hrt
  have l119 : ∀ (s : Nat), s < m → (∀ g1, bk g g1 → SD (und u m) (s + 1) g1 → Ok shM 0 0 mX9_back 8 [some (pR 0), some (pI (i : Int)), some (pI (3600 * (i : Int))), some (pI ((s : Int) + 1)), none, none] [] g1 P) → ∀ (d q : Nat) (g1 : Hp), q + d = 3 → bk g g1 → SD (und u m) s g1 → (g1.1 1 s = kd (und u m) s ∧ g1.1 2 s = nm (und u m) s ∧ g1.1 4 s = up (und u m) s) → (∀ j, j < q → g1.1 3 (3 * s + j) = pt (und u m) s j) → Ok shM 0 0 mX9_back 119 [some (pR 0), some (pI (i : Int)), some (pI (3600 * (i : Int))), some (pI (s : Int)), some (pI (if mk u ≤ s then 0 else 1)), some (pI (q : Int))] [] g1 P := by
    intro s hs next d
    induction d with
    | zero =>
      intro q g1 hq b hS h1 h2
      have e : q = 3 := hq
      subst e
      refine sX9_back_119 ⟨fun _ => ⟨by unfold inR; omega, next g1 b ⟨fun x hx => ?_, fun j hj => ?_⟩⟩, fun c => absurd (Int.le_refl _) c⟩
      · by_cases c : x = s
        · rw [c]; exact h1
        · exact hS.1 x (by omega)
      · by_cases c : j < 3 * s
        · exact hS.2 j c
        · have := h2 (j - 3 * s) (by omega)
          rwa [show 3 * s + (j - 3 * s) = j by omega, show pt (und u m) s (j - 3 * s) = (und u m).1 2 j from by show (und u m).1 2 (3 * s + (j - 3 * s)) = _; rw [show 3 * s + (j - 3 * s) = j by omega]] at this
    | succ d ih =>
      intro q g1 hq b hS h1 h2
      have step : ∀ z, z = pt (und u m) s q → Ok shM 0 0 mX9_back 119 [some (pR 0), some (pI (i : Int)), some (pI (3600 * (i : Int))), some (pI (s : Int)), some (pI (if mk u ≤ s then 0 else 1)), some (pI ((q : Int) + 1))] [] (hA g1 3 (3 * s + q) z) P := by
        intro z hz
        refine ih (q + 1) _ (by omega) (b.A (by decide)) (hS.A (Or.inr (Or.inr ⟨rfl, by omega⟩))) ?_ (fun j hj => ?_)
        · simp only [hA_at]
          rw [if_neg (by omega), if_neg (by omega), if_neg (by omega)]
          exact h1
        · rw [hA_at]
          by_cases c : j = q
          · rw [if_pos ⟨rfl, by omega⟩, c]
            exact hz
          · rw [if_neg (by omega)]
            exact h2 j (by omega)
      refine sX9_back_119 ⟨fun c => absurd c (by omega), fun _ => ⟨by unfold inR; omega, by unfold inR; omega, fun c => ?_, fun c => ?_⟩⟩
      · refine ⟨3 * s + q, by omega, by omega, by unfold inR; omega, ?_⟩
        have hle : mk u ≤ s := Classical.byContradiction fun h => by rw [if_neg h] at c; exact absurd c (by decide)
        exact step (-4) (by rw [und_pt (by omega), if_neg (by omega)])
      · have hlt : ¬ mk u ≤ s := fun h => by rw [if_pos h] at c; exact c rfl
        refine ⟨by unfold inR; omega, by unfold inR; omega, by unfold inR; omega, by unfold inR; omega, 3600 * i + 6 * s + 3 + q, by omega, by omega, 3 * s + q, by omega, by omega, by unfold inR; omega, ?_⟩
        refine step _ ?_
        rw [b.1 20 (by decide) (by decide) (by decide) (by decide) (by decide), und_pt (by omega), if_pos (by omega)]
        exact (k2 s (by omega)).2.2.2 q (by omega)
  have l8 : ∀ (d s : Nat) (g1 : Hp), s + d = m → bk g g1 → SD (und u m) s g1 → Ok shM 0 0 mX9_back 8 [some (pR 0), some (pI (i : Int)), some (pI (3600 * (i : Int))), some (pI (s : Int)), none, none] [] g1 P := by
    intro d
    induction d with
    | zero =>
      intro s g1 hs b hS
      have e : s = m := hs
      subst e
      refine sX9_back_8 ?_
      rw [b.2, e0]
      exact ⟨fun _ => l176 10 0 g1 (by omega) b hS (fun r hr => by omega), fun c => absurd (Int.le_refl _) c⟩
    | succ d ih =>
      intro s g1 hs b hS
      refine sX9_back_8 ?_
      rw [b.2, e0]
      refine ⟨fun c => absurd c (by omega), fun _ => ⟨i, rfl, hi, ?_⟩⟩
      rw [b.1 19 (by decide) (by decide) (by decide) (by decide) (by decide), k1]
      have go := fun v4 (h4 : v4 = (if mk u ≤ s then (0 : Int) else 1)) (z1 z2 z3 : Int) (hz : z1 = kd (und u m) s ∧ z2 = nm (und u m) s ∧ z3 = up (und u m) s) => (show Ok shM 0 0 mX9_back 119 [some (pR 0), some (pI (i : Int)), some (pI (3600 * (i : Int))), some (pI (s : Int)), some (pI v4), some (pI 0)] [] (hA (hA (hA g1 1 s z1) 2 s z2) 4 s z3) P from by
        rw [h4]
        refine l119 s (by omega) (fun g2 b2 S2 => ih (s + 1) g2 (by omega) b2 S2) 3 0 _ rfl (((b.A (by decide)).A (by decide)).A (by decide)) (((hS.A (Or.inr (Or.inl ⟨by decide, Nat.le_refl _⟩))).A (Or.inr (Or.inl ⟨by decide, Nat.le_refl _⟩))).A (Or.inr (Or.inl ⟨by decide, Nat.le_refl _⟩))) ?_ (fun j hj => by omega)
        simp only [hA_at]
        exact ⟨by simpa using hz.1, by simpa using hz.2.1, by simpa using hz.2.2⟩)
      refine ⟨fun c => ⟨s, rfl, by omega, ?_⟩, fun c => ⟨by unfold inR; omega, by unfold inR; omega, 3600 * i + 6 * s, by omega, by omega, s, rfl, by omega, by unfold inR; omega, 3600 * i + 6 * s + 1, by omega, by omega, by unfold inR; omega, 3600 * i + 6 * s + 2, by omega, by omega, ?_⟩⟩
      · exact go 0 (by rw [if_pos (by omega)]) _ _ _ ⟨by rw [und_kd, if_neg (by omega)], by rw [und_nm, if_neg (by omega)], by rw [und_up, if_neg (by omega)]⟩
      · have k2s := k2 s (by omega)
        have e20 : g1.1 20 = g.1 20 := b.1 20 (by decide) (by decide) (by decide) (by decide) (by decide)
        refine go 1 (by rw [if_neg (by omega)]) _ _ _ ⟨?_, ?_, ?_⟩
        · rw [e20, und_kd, if_pos (by omega)]; exact k2s.1
        · rw [e20, und_nm, if_pos (by omega)]; exact k2s.2.1
        · rw [e20, und_up, if_pos (by omega)]; exact k2s.2.2.1
  exact sX9_back_0 ⟨by unfold inR; omega, l8 m 0 g (by omega) bk.rf ⟨fun s hs => by omega, fun j hj => by omega⟩⟩
end UB
