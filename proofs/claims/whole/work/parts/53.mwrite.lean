/-! THE REFERENCE: a state is written down -/
section MWD
variable {t : TV} {P : Int → Hp → Prop}
def w6 (h : Hp) (o : Nat) (a b c d e f : Int) : Hp := hA (hA (hA (hA (hA (hA h 20 o a) 20 (o + 1) b) 20 (o + 2) c) 20 (o + 3) d) 20 (o + 4) e) 20 (o + 5) f
theorem w6_lt {h : Hp} {o x : Nat} {a b c d e f : Int} (hx : x < o) : (w6 h o a b c d e f).1 20 x = h.1 20 x := by
  unfold w6
  rw [hA_at, if_neg (by omega), hA_at, if_neg (by omega), hA_at, if_neg (by omega), hA_at, if_neg (by omega), hA_at, if_neg (by omega), hA_at, if_neg (by omega)]
theorem w6_at {h : Hp} {o : Nat} {a b c d e f : Int} : (w6 h o a b c d e f).1 20 o = a ∧ (w6 h o a b c d e f).1 20 (o + 1) = b ∧ (w6 h o a b c d e f).1 20 (o + 2) = c ∧ (w6 h o a b c d e f).1 20 (o + 3) = d ∧ (w6 h o a b c d e f).1 20 (o + 4) = e ∧ (w6 h o a b c d e f).1 20 (o + 5) = f := by
  unfold w6
  refine ⟨?_, ?_, ?_, ?_, ?_, ?_⟩
  · rw [hA_at, if_neg (by omega), hA_at, if_neg (by omega), hA_at, if_neg (by omega), hA_at, if_neg (by omega), hA_at, if_neg (by omega), hA_at, if_pos ⟨rfl, rfl⟩]
  · rw [hA_at, if_neg (by omega), hA_at, if_neg (by omega), hA_at, if_neg (by omega), hA_at, if_neg (by omega), hA_at, if_pos ⟨rfl, rfl⟩]
  · rw [hA_at, if_neg (by omega), hA_at, if_neg (by omega), hA_at, if_neg (by omega), hA_at, if_pos ⟨rfl, rfl⟩]
  · rw [hA_at, if_neg (by omega), hA_at, if_neg (by omega), hA_at, if_pos ⟨rfl, rfl⟩]
  · rw [hA_at, if_neg (by omega), hA_at, if_pos ⟨rfl, rfl⟩]
  · rw [hA_at, if_pos ⟨rfl, rfl⟩]
theorem w6_fm {h : Hp} {o : Nat} {a b c d e f : Int} : fm 20 20 h (w6 h o a b c d e f) := (((((fm.rf.A ⟨by decide, by decide⟩).A ⟨by decide, by decide⟩).A ⟨by decide, by decide⟩).A ⟨by decide, by decide⟩).A ⟨by decide, by decide⟩).A ⟨by decide, by decide⟩
theorem m_writesDown {g : Hp} (R : RM t g) (p : ∀ g', fm 19 21 g g' → keptS 12 t g' → (∀ i u, i < 12 → mk u ≤ 600 ∧ rt u ≤ 10 → keptS i u g → keptS i u g') → P 0 g') : Cl shM mX9_writesDown [pR 0] g P := by
  have hm := R.m
  have fin : ∀ g1, fm 19 21 g g1 → (∀ x, x < 43200 → g1.1 20 x = g.1 20 x) → (∀ x, x < 120 → g1.1 21 x = g.1 21 x) → (∀ x, x ≠ 12 → g1.1 19 x = g.1 19 x) → ∀ i u, i < 12 → mk u ≤ 600 ∧ rt u ≤ 10 → keptS i u g → keptS i u g1 := by
    intro g1 _ e20 e21 e19 i u hi hu k
    obtain ⟨k1, k2, k3⟩ := k
    refine ⟨by rw [e19 i (by omega)]; exact k1, fun s hs => ?_, fun r hr => by rw [e21 _ (by omega)]; exact k3 r hr⟩
    obtain ⟨x1, x2, x3, x4⟩ := k2 s hs
    exact ⟨by rw [e20 _ (by omega)]; exact x1, by rw [e20 _ (by omega)]; exact x2, by rw [e20 _ (by omega)]; exact x3, fun q hq => by rw [e20 _ (by omega)]; exact x4 q hq⟩
  have l114 : ∀ (d i : Nat) (g1 : Hp), i + d = 10 → fm 19 21 g g1 → g1.1 19 = g.1 19 → (∀ x, x < 43200 → g1.1 20 x = g.1 20 x) → (∀ s, s < mk t → g1.1 20 (43200 + 6 * s) = kd t s ∧ g1.1 20 (43200 + 6 * s + 1) = nm t s ∧ g1.1 20 (43200 + 6 * s + 2) = up t s ∧ ∀ k, k < 3 → g1.1 20 (43200 + 6 * s + 3 + k) = pt t s k) →
      (∀ x, x < 120 → g1.1 21 x = g.1 21 x) → (∀ r, r < i → g1.1 21 (120 + r) = g.1 7 r) → Ok shM 0 0 mX9_writesDown 114 [some (pR 0), none, some (pI (i : Int)), none] [] g1 P := by
    intro d
    induction d with
    | zero =>
      intro i g1 hi f e19 e20 e20b e21 e21b
      have e : i = 10 := hi
      subst e
      have eM : g1.2.1 0 0 = (mk t : Int) := by rw [f.2]; exact R.1
      refine sX9_writesDown_114 ⟨fun _ => p _ (f.A ⟨by decide, by decide⟩) ⟨?_, e20b, fun r hr => ?_⟩ (fin _ (f.A ⟨by decide, by decide⟩) e20 e21 (fun x hx => ?_)), fun c => absurd (Int.le_refl _) c⟩
      · rw [hA_at, if_pos ⟨rfl, rfl⟩]
        exact eM
      · show g1.1 21 (120 + r) = bd t r
        rw [e21b r (by omega)]
        exact R.b hr
      · rw [hA_at, if_neg (fun q => hx q.2), e19]
    | succ d ih =>
      intro i g1 hi f e19 e20 e20b e21 e21b
      refine sX9_writesDown_114 ⟨fun c => absurd c (by omega), fun _ => ⟨by unfold inR; omega, i, rfl, by omega, 120 + i, by omega, by omega, by unfold inR; omega, ?_⟩⟩
      refine ih (i + 1) _ (by omega) (f.A ⟨by decide, by decide⟩) e19 e20 e20b (fun x hx => ?_) (fun r hr => ?_)
      · rw [hA_at, if_neg (by omega)]
        exact e21 x hx
      · rw [hA_at]
        by_cases c : r = i
        · rw [if_pos ⟨rfl, by omega⟩, f.a (by decide), c]
        · rw [if_neg (by omega)]
          exact e21b r (by omega)
  have l5 : ∀ (d s : Nat) (g1 : Hp), s + d = mk t → fm 19 21 g g1 → g1.1 19 = g.1 19 → g1.1 21 = g.1 21 → (∀ x, x < 43200 → g1.1 20 x = g.1 20 x) → (∀ q, q < s → g1.1 20 (43200 + 6 * q) = kd t q ∧ g1.1 20 (43200 + 6 * q + 1) = nm t q ∧ g1.1 20 (43200 + 6 * q + 2) = up t q ∧ ∀ k, k < 3 → g1.1 20 (43200 + 6 * q + 3 + k) = pt t q k) →
      Ok shM 0 0 mX9_writesDown 5 [some (pR 0), some (pI 43200), some (pI (s : Int)), none] [] g1 P := by
    intro d
    induction d with
    | zero =>
      intro s g1 hs f e19 e21 e20 e20b
      have e : s = mk t := hs
      subst e
      have eM : g1.2.1 0 0 = (mk t : Int) := by rw [f.2]; exact R.1
      refine sX9_writesDown_5 ?_
      rw [eM]
      exact ⟨fun _ => l114 10 0 g1 (by omega) f e19 e20 e20b (fun x _ => by rw [e21]) (fun r hr => absurd hr (by omega)), fun c => absurd (Int.le_refl _) c⟩
    | succ d ih =>
      intro s g1 hs f e19 e21 e20 e20b
      have eM : g1.2.1 0 0 = (mk t : Int) := by rw [f.2]; exact R.1
      have hsm : s < mk t := by omega
      have v1 : g1.1 1 s = kd t s := by rw [f.a (by decide)]; exact R.k hsm
      have v2 : g1.1 2 s = nm t s := by rw [f.a (by decide)]; exact R.n hsm
      have v4 : g1.1 4 s = up t s := by rw [f.a (by decide)]; exact R.u hsm
      have v3 : ∀ k, k < 3 → g1.1 3 (3 * s + k) = pt t s k := fun k hk => by rw [f.a (by decide)]; exact R.p hsm hk
      refine sX9_writesDown_5 ?_
      rw [eM]
      refine ⟨fun c => absurd c (by omega), fun _ => ⟨by unfold inR; omega, by unfold inR; omega, s, rfl, by omega, 43200 + 6 * s, by omega, by omega, by unfold inR; omega, 43200 + 6 * s + 1, by omega, by omega, by unfold inR; omega, 43200 + 6 * s + 2, by omega, by omega, ?_⟩⟩
      rw [v1, v2, v4]
      refine sX9_writesDown_70 ⟨fun c => absurd c (by decide), fun _ => ⟨by unfold inR; omega, by unfold inR; omega, by unfold inR; omega, by unfold inR; omega, by unfold inR; omega, by unfold inR; omega, 3 * s + 0, by omega, by omega, 43200 + 6 * s + 3, by omega, by omega, by unfold inR; omega, ?_⟩⟩
      refine sX9_writesDown_70 ⟨fun c => absurd c (by decide), fun _ => ⟨by unfold inR; omega, by unfold inR; omega, by unfold inR; omega, by unfold inR; omega, by unfold inR; omega, by unfold inR; omega, 3 * s + 1, by omega, by omega, 43200 + 6 * s + 4, by omega, by omega, by unfold inR; omega, ?_⟩⟩
      refine sX9_writesDown_70 ⟨fun c => absurd c (by decide), fun _ => ⟨by unfold inR; omega, by unfold inR; omega, by unfold inR; omega, by unfold inR; omega, by unfold inR; omega, by unfold inR; omega, 3 * s + 2, by omega, by omega, 43200 + 6 * s + 5, by omega, by omega, by unfold inR; omega, ?_⟩⟩
      refine sX9_writesDown_70 ⟨fun _ => ⟨by unfold inR; omega, ?_⟩, fun c => absurd (show (3 : Int) ≤ 0 + 1 + 1 + 1 by decide) c⟩
      have key := ih (s + 1) (w6 g1 (43200 + 6 * s) (kd t s) (nm t s) (up t s) (g1.1 3 (3 * s + 0)) (g1.1 3 (3 * s + 1)) (g1.1 3 (3 * s + 2))) (by omega) (f.tr (w6_fm.wd (by decide) (by decide))) e19 e21 (fun x hx => by rw [w6_lt (by omega)]; exact e20 x hx) (fun q hq => ?_)
      · exact key
      · by_cases c : q = s
        · subst c
          obtain ⟨y1, y2, y3, y4, y5, y6⟩ := w6_at (h := g1) (o := 43200 + 6 * q) (a := kd t q) (b := nm t q) (c := up t q) (d := g1.1 3 (3 * q + 0)) (e := g1.1 3 (3 * q + 1)) (f := g1.1 3 (3 * q + 2))
          refine ⟨y1, y2, y3, fun k hk => ?_⟩
          rcases (by omega : k = 0 ∨ k = 1 ∨ k = 2) with rfl | rfl | rfl
          · exact y4.trans (v3 0 (by decide))
          · exact y5.trans (v3 1 (by decide))
          · exact y6.trans (v3 2 (by decide))
        · obtain ⟨z1, z2, z3, z4⟩ := e20b q (by omega)
          exact ⟨by rw [w6_lt (by omega)]; exact z1, by rw [w6_lt (by omega)]; exact z2, by rw [w6_lt (by omega)]; exact z3, fun k hk => by rw [w6_lt (by omega)]; exact z4 k hk⟩
  exact sX9_writesDown_0 (l5 (mk t) 0 g (by omega) fm.rf rfl rfl (fun _ _ => rfl) (fun q hq => absurd hq (by omega)))
end MWD
