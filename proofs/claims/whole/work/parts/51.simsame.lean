/-! BOTH SIDES: same -/
section SS
variable {st : St}
theorem m_same {g : Hp} (M : RelM st g) (w : WS st) {x y : Int} (hx : al (sT st) x) (hy : al (sT st) y) : Cl shM mX9_same [pR 0, pI x, pI y] g (fun q g' => q = b2 (kk (sT st) (plist (sT st) x) = kk (sT st) (plist (sT st) y)) ∧ RelM st g') := by
  have hm := w.1.m
  have lx := plist_len (t := sT st) (z := x) w.1.trr
  have ly := plist_len (t := sT st) (z := y) w.1.trr
  have l72n : ∀ (d i : Nat) (g1 : Hp), i + d = (plist (sT st) x).length → RelM st g1 → kk (sT st) (plist (sT st) x) ≠ kk (sT st) (plist (sT st) y) → Ok shM 0 0 mX9_same 72 [some (pR 0), none, none, some (pI ((plist (sT st) x).length : Int)), some (pI 0), some (pI (i : Int))] [] g1 (fun q g' => q = b2 (kk (sT st) (plist (sT st) x) = kk (sT st) (plist (sT st) y)) ∧ RelM st g') := by
    intro d i g1 hi M1 hne
    have e : (0 : Int) = b2 (kk (sT st) (plist (sT st) x) = kk (sT st) (plist (sT st) y)) := (b2_0.mpr hne).symm
    exact sX9_same_72 ⟨fun _ => ⟨fun _ => ⟨e, M1⟩, fun q => absurd rfl q⟩, fun _ => ⟨fun _ => ⟨e, M1⟩, fun q => absurd rfl q⟩⟩
  have l72 : ∀ (d i : Nat) (g1 : Hp), i + d = (plist (sT st) x).length → RelM st g1 → (plist (sT st) x).length = (plist (sT st) y).length → OA g1 (plist (sT st) y) → (∀ (j : Nat) (q : Nat × Nat), (plist (sT st) x)[j]? = some q → g1.1 13 j = (q.1 : Int)) → (∀ (j : Nat), j < i → (kk (sT st) (plist (sT st) x))[j]? = (kk (sT st) (plist (sT st) y))[j]?) →
      Ok shM 0 0 mX9_same 72 [some (pR 0), none, none, some (pI ((plist (sT st) x).length : Int)), some (pI 1), some (pI (i : Int))] [] g1 (fun q g' => q = b2 (kk (sT st) (plist (sT st) x) = kk (sT st) (plist (sT st) y)) ∧ RelM st g') := by
    intro d
    induction d with
    | zero =>
      intro i g1 hi M1 hl ho hf hs
      refine sX9_same_72 ⟨fun _ => ⟨fun q => absurd q (by decide), fun _ => ⟨?_, M1⟩⟩, fun c => absurd (by omega) c⟩
      refine (if_pos ?_).symm
      apply List.ext_getElem?
      intro j
      by_cases hj : j < i
      · exact hs j hj
      · rw [List.getElem?_eq_none (by unfold kk; rw [List.length_map]; omega), List.getElem?_eq_none (by unfold kk; rw [List.length_map]; omega)]
    | succ d ih =>
      intro i g1 hi M1 hl ho hf hs
      have hix : i < (plist (sT st) x).length := by omega
      have hiy : i < (plist (sT st) y).length := by omega
      have gx := List.getElem?_eq_getElem hix
      have gy := List.getElem?_eq_getElem hiy
      generalize (plist (sT st) x)[i] = qx at gx
      generalize (plist (sT st) y)[i] = qy at gy
      have ax := plist_at w.1 (List.mem_of_getElem? gx)
      have ay := plist_at w.1 (List.mem_of_getElem? gy)
      have kx : (kk (sT st) (plist (sT st) x))[i]? = some (kd (sT st) qx.1, nm (sT st) qx.1) := by unfold kk; rw [List.getElem?_map, gx]; rfl
      have ky : (kk (sT st) (plist (sT st) y))[i]? = some (kd (sT st) qy.1, nm (sT st) qy.1) := by unfold kk; rw [List.getElem?_map, gy]; rfl
      have hno : ¬ (kd (sT st) qx.1 = kd (sT st) qy.1 ∧ nm (sT st) qx.1 = nm (sT st) qy.1) → kk (sT st) (plist (sT st) x) ≠ kk (sT st) (plist (sT st) y) := fun c e => by
        rw [e, ky] at kx
        have := Option.some.inj kx
        exact c ⟨(Prod.mk.inj this).1.symm, (Prod.mk.inj this).2.symm⟩
      refine sX9_same_72 ⟨fun c => absurd c (by omega), fun _ => ⟨fun q => absurd q (by decide), fun _ => ⟨i, rfl, by omega, qx.1, hf i qx gx, by omega, qy.1, ho i qy gy, by omega, ?_⟩⟩⟩
      rw [M1.1.k ax.1, M1.1.k ay.1, M1.1.n ax.1, M1.1.n ay.1]
      refine ⟨fun c => ⟨by unfold inR; omega, l72n d (i + 1) g1 (by omega) M1 (hno (fun z => c z.1))⟩, fun c => ⟨fun c2 => ⟨by unfold inR; omega, l72n d (i + 1) g1 (by omega) M1 (hno (fun z => c2 z.2))⟩, fun c2 => ⟨by unfold inR; omega, ih (i + 1) g1 (by omega) M1 hl ho hf (fun j hj => ?_)⟩⟩⟩
      by_cases e : j = i
      · rw [e, kx, ky, c, c2]
      · exact hs j (by omega)
  have l27 : ∀ (d i : Nat) (g1 : Hp), i + d = (plist (sT st) x).length → RelM st g1 → OA g1 (plist (sT st) x) → (∀ (j : Nat) (q : Nat × Nat), j < i → (plist (sT st) x)[j]? = some q → g1.1 13 j = (q.1 : Int)) →
      Ok shM 0 0 mX9_same 27 [some (pR 0), none, some (pI y), some (pI ((plist (sT st) x).length : Int)), some (pI (i : Int)), none] [] g1 (fun q g' => q = b2 (kk (sT st) (plist (sT st) x) = kk (sT st) (plist (sT st) y)) ∧ RelM st g') := by
    intro d
    induction d with
    | zero =>
      intro i g1 hi M1 ho hf
      refine sX9_same_27 ⟨fun _ => m_goes' w.1 M1.1 hy (fun g2 f o2 _ => ⟨fun c => ?_, fun c => ?_⟩), fun c => absurd (by omega) c⟩
      · refine l72n (plist (sT st) x).length 0 g2 (by omega) (M1.rd f ⟨by decide, by decide⟩) (fun e => c ?_)
        have := congrArg List.length e
        unfold kk at this
        rw [List.length_map, List.length_map] at this
        omega
      · refine l72 (plist (sT st) x).length 0 g2 (by omega) (M1.rd f ⟨by decide, by decide⟩) (by omega) o2 (fun j q hq => ?_) (fun j hj => absurd hj (by omega))
        rw [f.a (by decide)]
        exact hf j q (by have := (List.getElem?_eq_some_iff.mp hq).1; omega) hq
    | succ d ih =>
      intro i g1 hi M1 ho hf
      refine sX9_same_27 ⟨fun c => absurd c (by omega), fun _ => ⟨i, rfl, by omega, by unfold inR; omega, ?_⟩⟩
      have f1 : fm 13 13 g1 (hA g1 13 i (g1.1 9 i)) := fm.rf.A ⟨by decide, by decide⟩
      refine ih (i + 1) _ (by omega) (M1.rd f1 ⟨by decide, by decide⟩) (fun j q hq => ?_) (fun j q hj hq => ?_)
      · rw [f1.a (by decide)]
        exact ho j q hq
      · rw [hA_at]
        by_cases e : j = i
        · rw [if_pos ⟨rfl, e⟩, ← e]
          exact ho j q hq
        · rw [if_neg (fun z => e z.2)]
          exact hf j q (by omega) hq
  refine sX9_same_0 (m_isStep M.1 x ⟨fun q => absurd hx (b2_0.mp q), fun _ => m_isStep M.1 y ⟨fun _ => m_goes' w.1 M.1 hx (fun g2 f o2 _ => ?_), fun q => absurd hy (b2_0.mp q)⟩⟩)
  exact l27 (plist (sT st) x).length 0 g2 (by omega) (M.rd f ⟨by decide, by decide⟩) o2 (fun j q hj => absurd hj (by omega))
theorem sim_same (w : WS st) (x y : Int) : Sim st mX8_same mX9_same [pI x, pI y] := by
  intro h g R M
  by_cases hx : al (sT st) x
  · by_cases hy : al (sT st) y
    · refine ⟨b2 (kk (sT st) (plist (sT st) x) = kk (sT st) (plist (sT st) y)), st, w, sX8_same_0 (c_isStep R.1 x ⟨fun q => absurd hx (b2_0.mp q), fun _ => c_isStep R.1 y ⟨fun _ => c_areAlike w.1 R.1 x y (fun h' f => ⟨fun q => ⟨?_, R.rd f ⟨by decide, by decide⟩⟩, fun q => ⟨?_, R.rd f ⟨by decide, by decide⟩⟩⟩), fun q => absurd hy (b2_0.mp q)⟩⟩), m_same M w hx hy⟩
      · exact (b2_0.mpr (fun e => b2_0.mp q ((key_kk w.1 hx hy).mpr e))).symm
      · exact (if_pos ((key_kk w.1 hx hy).mp (b2_n0.mp q))).symm
    · exact ⟨-1, st, w, sX8_same_0 (c_isStep R.1 x ⟨fun q => absurd hx (b2_0.mp q), fun _ => c_isStep R.1 y ⟨fun q => absurd (b2_n0.mp q) hy, fun _ => ⟨rfl, R⟩⟩⟩), sX9_same_0 (m_isStep M.1 x ⟨fun q => absurd hx (b2_0.mp q), fun _ => m_isStep M.1 y ⟨fun q => absurd (b2_n0.mp q) hy, fun _ => ⟨rfl, M⟩⟩⟩)⟩
  · exact ⟨-1, st, w, sX8_same_0 (c_isStep R.1 x ⟨fun _ => ⟨rfl, R⟩, fun q => absurd (b2_n0.mp q) hx⟩), sX9_same_0 (m_isStep M.1 x ⟨fun _ => ⟨rfl, M⟩, fun q => absurd (b2_n0.mp q) hx⟩)⟩
end SS
