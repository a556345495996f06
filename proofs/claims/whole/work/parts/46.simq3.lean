/-! BOTH SIDES: count, routine, and the most of about -/
theorem cnt_s (q : Nat → Bool) (n : Nat) : cnt q (n + 1) = cnt q n + (if q n then 1 else 0) := rfl
section SQ3
variable {st : St}
theorem m_count {g : Hp} (M : RelM st g) (w : WS st) (k : Int) : Cl shM mX9_count [pR 0, pI k] g (fun q g' => q = (if k = 0 then (mk (sT st) : Int) else if k = 1 then (cnt (fun s => decide (kd (sT st) s = -1)) (mk (sT st)) : Int) else if k = 2 then (cnt (fun s => decide (lo (sT st) s)) (mk (sT st)) : Int) else if k = 3 then (rt (sT st) : Int) else if k = 4 then (cnt (fun r => decide (bd (sT st) r = -4)) (rt (sT st)) : Int) else if k = 5 then ((sU st).length : Int) else -1) ∧ RelM st g') := by
  have hm := w.1.m
  have hlen := w.2.1
  have l64 : ∀ (d i : Nat), i + d = rt (sT st) → Ok shM 0 0 mX9_count 64 [some (pR 0), some (pI k), some (pI (cnt (fun s => decide (kd (sT st) s = -1)) (mk (sT st)) : Int)), some (pI (cnt (fun s => decide (lo (sT st) s)) (mk (sT st)) : Int)), some (pI (cnt (fun r => decide (bd (sT st) r = -4)) i : Int)), some (pI (i : Int))] [] g (fun q g' => q = (if k = 0 then (mk (sT st) : Int) else if k = 1 then (cnt (fun s => decide (kd (sT st) s = -1)) (mk (sT st)) : Int) else if k = 2 then (cnt (fun s => decide (lo (sT st) s)) (mk (sT st)) : Int) else if k = 3 then (rt (sT st) : Int) else if k = 4 then (cnt (fun r => decide (bd (sT st) r = -4)) (rt (sT st)) : Int) else if k = 5 then ((sU st).length : Int) else -1) ∧ RelM st g') := by
    intro d
    induction d with
    | zero =>
      intro i hi
      have e : i = rt (sT st) := hi
      subst e
      refine sX9_count_64 ?_
      rw [M.1.1, M.1.2.1, M.2.2.1]
      refine ⟨fun _ => ⟨fun e => ⟨?_, M⟩, fun e => ⟨?_, M⟩, fun e => ⟨?_, M⟩, fun e => ⟨?_, M⟩, fun e => ⟨?_, M⟩, fun e => ⟨?_, M⟩, fun e => ⟨?_, M⟩⟩, fun c => absurd (Int.le_refl _) c⟩
      · rw [if_pos e]
      · rw [if_neg (by omega), if_pos e]
      · rw [if_neg (by omega), if_neg (by omega), if_pos e]
      · rw [if_neg (by omega), if_neg (by omega), if_neg (by omega), if_pos e]
      · rw [if_neg (by omega), if_neg (by omega), if_neg (by omega), if_neg (by omega), if_pos e]
      · rw [if_neg (by omega), if_neg (by omega), if_neg (by omega), if_neg (by omega), if_neg (by omega), if_pos e]
      · rw [if_neg (by omega), if_neg (by omega), if_neg (by omega), if_neg (by omega), if_neg (by omega), if_neg (by omega)]
    | succ d ih =>
      intro i hi
      have hc := cnt_le (fun r => decide (bd (sT st) r = -4)) i
      have h1 := ih (i + 1) (by omega)
      simp only [cnt_s] at h1
      refine sX9_count_64 ?_
      rw [M.1.2.1]
      refine ⟨fun c => absurd c (by omega), fun _ => ⟨i, rfl, by omega, ?_⟩⟩
      rw [M.1.b (by omega)]
      refine ⟨fun c => ⟨by unfold inR; omega, by unfold inR; omega, ?_⟩, fun c => ⟨by unfold inR; omega, by unfold inR; omega, ?_⟩⟩
      · rw [decide_eq_false c] at h1
        exact h1
      · rw [decide_eq_true c] at h1
        exact h1
  have l7 : ∀ (d i : Nat), i + d = mk (sT st) → Ok shM 0 0 mX9_count 7 [some (pR 0), some (pI k), some (pI (cnt (fun s => decide (kd (sT st) s = -1)) i : Int)), some (pI (cnt (fun s => decide (lo (sT st) s)) i : Int)), some (pI (i : Int)), none] [] g (fun q g' => q = (if k = 0 then (mk (sT st) : Int) else if k = 1 then (cnt (fun s => decide (kd (sT st) s = -1)) (mk (sT st)) : Int) else if k = 2 then (cnt (fun s => decide (lo (sT st) s)) (mk (sT st)) : Int) else if k = 3 then (rt (sT st) : Int) else if k = 4 then (cnt (fun r => decide (bd (sT st) r = -4)) (rt (sT st)) : Int) else if k = 5 then ((sU st).length : Int) else -1) ∧ RelM st g') := by
    intro d
    induction d with
    | zero =>
      intro i hi
      have e : i = mk (sT st) := hi
      subst e
      refine sX9_count_7 ?_
      rw [M.1.1]
      exact ⟨fun _ => l64 (rt (sT st)) 0 (by omega), fun c => absurd (Int.le_refl _) c⟩
    | succ d ih =>
      intro i hi
      have hc := cnt_le (fun s => decide (kd (sT st) s = -1)) i
      have hc2 := cnt_le (fun s => decide (lo (sT st) s)) i
      have h1 := ih (i + 1) (by omega)
      simp only [cnt_s] at h1
      refine sX9_count_7 ?_
      rw [M.1.1]
      refine ⟨fun c => absurd c (by omega), fun _ => ⟨i, rfl, by omega, ?_⟩⟩
      rw [M.1.k (by omega)]
      refine ⟨fun c => ⟨by unfold inR; omega, m_isLoose w.1 M.1 i ⟨fun c2 => ⟨by unfold inR; omega, by unfold inR; omega, ?_⟩, fun c2 => ⟨by unfold inR; omega, by unfold inR; omega, ?_⟩⟩⟩, fun c => ⟨by unfold inR; omega, m_isLoose w.1 M.1 i ⟨fun c2 => ⟨by unfold inR; omega, by unfold inR; omega, ?_⟩, fun c2 => ⟨by unfold inR; omega, by unfold inR; omega, ?_⟩⟩⟩⟩
      · rw [decide_eq_false c, decide_eq_false (b2_0.mp c2)] at h1
        exact h1
      · rw [decide_eq_false c, decide_eq_true (b2_n0.mp c2)] at h1
        exact h1
      · rw [decide_eq_true c, decide_eq_false (b2_0.mp c2)] at h1
        exact h1
      · rw [decide_eq_true c, decide_eq_true (b2_n0.mp c2)] at h1
        exact h1
  exact sX9_count_0 (l7 (mk (sT st)) 0 (by omega))
theorem sim_count (w : WS st) (k : Int) : Sim st mX8_count mX9_count [pI k] := by
  intro h g R M
  refine ⟨_, st, w, ?_, m_count M w k⟩
  obtain ⟨f, c1, c2, c3, c4⟩ := R.2.2
  refine sX8_count_0 ⟨fun e => ⟨?_, R⟩, fun e => c_goneSteps R.1 ⟨?_, R⟩, fun e => c_looseSteps R.1 ⟨?_, R⟩, fun e => ⟨?_, R⟩, fun e => c_missingRoutines R.1 ⟨?_, R⟩, fun e => ⟨?_, R⟩, fun e => ⟨?_, R⟩⟩
  · rw [if_pos e]; exact R.1.1
  · rw [if_neg (by omega), if_pos e]
  · rw [if_neg (by omega), if_neg (by omega), if_pos e]
  · rw [if_neg (by omega), if_neg (by omega), if_neg (by omega), if_pos e]; exact R.1.2.1
  · rw [if_neg (by omega), if_neg (by omega), if_neg (by omega), if_neg (by omega), if_pos e]
  · rw [if_neg (by omega), if_neg (by omega), if_neg (by omega), if_neg (by omega), if_neg (by omega), if_pos e]; exact c3
  · rw [if_neg (by omega), if_neg (by omega), if_neg (by omega), if_neg (by omega), if_neg (by omega), if_neg (by omega)]
end SQ3
