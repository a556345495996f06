/-! THE REFERENCE: what is written down is kept -/
section MK
variable {t : TV} {P : Int → Hp → Prop}
def pushU (us : List TV) (t : TV) : List TV := if us.length = 12 then us.drop 1 ++ [t] else us ++ [t]
/-- what keepIt may change -/
def kf (g g' : Hp) : Prop := (∀ a, a < 19 ∨ 21 < a → g'.1 a = g.1 a) ∧ (∀ o k, ¬ (o = 0 ∧ k = 13) → g'.2.1 o k = g.2.1 o k) ∧ g'.2.2 = g.2.2
theorem fm.kf {g g1 : Hp} (f : fm 19 21 g g1) : kf g g1 := ⟨f.1, fun _ _ _ => by rw [f.2], by rw [f.2]⟩
theorem kf.I {g g1 : Hp} (f : kf g g1) {z : Int} : kf g (hI g1 0 13 z) := ⟨f.1, fun o k h => by rw [hI_at, if_neg h]; exact f.2.1 o k h, f.2.2⟩
theorem kf.tr {g g1 g2 : Hp} (x : kf g g1) (y : kf g1 g2) : kf g g2 := ⟨fun a h => (y.1 a h).trans (x.1 a h), fun o k h => (y.2.1 o k h).trans (x.2.1 o k h), y.2.2.trans x.2.2⟩
theorem m_keepIt {g : Hp} {us : List TV} (M : MP us g) (hl : us.length ≤ 12) (ht : mk t ≤ 600 ∧ rt t ≤ 10) (hu : ∀ u ∈ us, mk u ≤ 600 ∧ rt u ≤ 10) (k : keptS 12 t g) (p : ∀ g', kf g g' → MP (pushU us t) g' → P 0 g') : Cl shM mX9_keepIt [pR 0] g P := by
  obtain ⟨m1, m2⟩ := M
  refine sX9_keepIt_0 ?_
  rw [m1]
  refine ⟨fun c => ?_, fun c => ?_⟩
  · refine m_copies (a := 12) (b := us.length) (by decide) (by omega) (by omega) (fun g1 c1 => ?_)
    have e13 : g1.2.1 0 13 = (us.length : Int) := by rw [c1.1.2]; exact m1
    rw [e13]
    refine ⟨by unfold inR; omega, p _ c1.1.kf.I ⟨?_, fun i u hi => ?_⟩⟩
    · rw [hI_at, if_pos ⟨rfl, rfl⟩]
      unfold pushU
      rw [if_neg (by omega), List.length_append]
      rfl
    · unfold pushU at hi
      rw [if_neg (by omega)] at hi
      by_cases h : i < us.length
      · rw [List.getElem?_append_left h] at hi
        exact ((m2 i u hi).ot c1 (by omega) (hu u (List.mem_of_getElem? hi))).kp rfl rfl rfl
      · rw [List.getElem?_append_right (by omega)] at hi
        have h0 : i - us.length = 0 := by
          have := (List.getElem?_eq_some_iff.mp hi).1
          simp at this
          omega
        rw [h0] at hi
        have h1 : i = us.length := by omega
        cases hi
        rw [h1]
        exact (k.to c1 ht).kp rfl rfl rfl
  · have c : us.length = 12 := by omega
    have loop : ∀ (d v : Nat) (g1 : Hp), v + d = 12 → 1 ≤ v → fm 19 21 g g1 → keptS 12 t g1 → (∀ j u, j < v - 1 → us[j + 1]? = some u → keptS j u g1) → (∀ j u, v ≤ j → us[j]? = some u → keptS j u g1) → Ok shM 0 0 mX9_keepIt 11 [some (pR 0), some (pI (v : Int))] [] g1 P := by
      intro d
      induction d with
      | zero =>
        intro v g1 hv h1 f kt k1 k2
        have e : v = 12 := hv
        subst e
        refine sX9_keepIt_11 ⟨fun _ => m_copies (a := 12) (b := 11) (by decide) (by decide) (by decide) (fun g2 c2 => ?_), fun q => absurd (Int.le_refl _) q⟩
        have e13 : g2.2.1 0 13 = 11 := by
          rw [c2.1.2, hI_at, if_pos ⟨rfl, rfl⟩]
        rw [e13]
        refine ⟨by unfold inR; decide, p _ ((f.kf.I.tr c2.1.kf).I) ⟨?_, fun i u hi => ?_⟩⟩
        · rw [hI_at, if_pos ⟨rfl, rfl⟩]
          unfold pushU
          rw [if_pos c, List.length_append, List.length_drop, c]
          rfl
        · unfold pushU at hi
          rw [if_pos c] at hi
          have hd : (us.drop 1).length = 11 := by rw [List.length_drop, c]
          by_cases h : i < 11
          · rw [List.getElem?_append_left (by omega), List.getElem?_drop] at hi
            rw [show 1 + i = i + 1 by omega] at hi
            have kk := (k1 i u (by omega) hi).kp (g' := hI g1 0 13 11) rfl rfl rfl
            exact (kk.ot c2 (by omega) (hu u (List.mem_of_getElem? hi))).kp rfl rfl rfl
          · rw [List.getElem?_append_right (by omega)] at hi
            have h0 : i - (us.drop 1).length = 0 := by
              have := (List.getElem?_eq_some_iff.mp hi).1
              simp at this
              omega
            rw [h0] at hi
            have h1 : i = 11 := by omega
            cases hi
            rw [h1]
            have kk := kt.kp (g' := hI g1 0 13 11) rfl rfl rfl
            exact (kk.to c2 ht).kp rfl rfl rfl
      | succ d ih =>
        intro v g1 hv h1 f kt k1 k2
        refine sX9_keepIt_11 ⟨fun q => absurd q (by omega), fun _ => ⟨by unfold inR; omega, ?_⟩⟩
        rw [show (v : Int) - 1 = ((v - 1 : Nat) : Int) by omega]
        refine m_copies (a := v) (b := v - 1) (by omega) (by omega) (by omega) (fun g2 c2 => ⟨by unfold inR; omega, ?_⟩)
        refine ih (v + 1) g2 (by omega) (by omega) (f.tr c2.1) (kt.ot c2 (by omega) ht) (fun j u hj hju => ?_) (fun j u hj hju => ?_)
        · by_cases e : j = v - 1
          · rw [e]
            have hv1 : us[v]? = some u := by
              rw [← hju, e, show v - 1 + 1 = v by omega]
            exact (k2 v u (Nat.le_refl _) hv1).to c2 (hu u (List.mem_of_getElem? hju))
          · exact (k1 j u (by omega) hju).ot c2 e (hu u (List.mem_of_getElem? hju))
        · exact (k2 j u (by omega) hju).ot c2 (by omega) (hu u (List.mem_of_getElem? hju))
    exact loop 11 1 g (by decide) (by decide) fm.rf k (fun j u hj => absurd hj (by omega)) (fun j u _ hju => m2 j u hju)
theorem m_keep {g : Hp} {us : List TV} (R : RM t g) (M : MP us g) (hl : us.length ≤ 12) (hu : ∀ u ∈ us, mk u ≤ 600 ∧ rt u ≤ 10) (p : ∀ g', kf g g' → MP (pushU us t) g' → P 0 g') : Cl shM mX9_keep [pR 0] g P := by
  refine sX9_keep_0 (m_writesDown R (fun g1 f k1 k2 => ?_))
  refine m_keepIt (us := us) ⟨by rw [f.2]; exact M.1, fun i u hi => k2 i u (by have := (List.getElem?_eq_some_iff.mp hi).1; omega) (hu u (List.mem_of_getElem? hi)) (M.2 i u hi)⟩ hl R.m hu k1 (fun g2 f2 M2 => p g2 (f.kf.tr f2) M2)
end MK
