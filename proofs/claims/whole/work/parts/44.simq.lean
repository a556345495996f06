/-! BOTH SIDES: what is only asked -/
section SQ
variable {st : St}
theorem sim_ran (w : WS st) (k : Int) : Sim st mX8_ran mX9_ran [pI k] := by
  intro h g R M
  obtain ⟨c0, c1, c2, c3, c4⟩ := R.2.1.2.2.1
  obtain ⟨m0, m1, m2, m3, m4⟩ := M.2.1.2.2.1
  refine ⟨if k = 0 then sQ st 0 else if k = 1 then sQ st 1 else if k = 2 then sQ st 2 else if k = 3 then sQ st 3 else -1000000000, st, w, ?_, ?_⟩
  · refine sX8_ran_0 ⟨fun q => ⟨?_, R⟩, fun q => ⟨fun q2 => sX2_latest_0 ⟨fun e => ⟨?_, R⟩, fun e => ⟨?_, R⟩, fun e => ⟨?_, R⟩, fun e => ⟨?_, R⟩⟩, fun q2 => ⟨?_, R⟩⟩⟩
    · rw [if_neg (by omega), if_neg (by omega), if_neg (by omega), if_neg (by omega)]
    · rw [if_pos e]; exact c0
    · rw [if_neg (by omega), if_pos e]; exact c1
    · rw [if_neg (by omega), if_neg (by omega), if_pos e]; exact c2
    · rw [if_neg (by omega), if_neg (by omega), if_neg (by omega), if_pos (by omega)]; exact c3
    · rw [if_neg (by omega), if_neg (by omega), if_neg (by omega), if_neg (by omega)]
  · refine sX9_ran_0 ⟨fun e => ⟨?_, M⟩, fun e => ⟨?_, M⟩, fun e => ⟨?_, M⟩, fun e => ⟨fun q => ⟨?_, M⟩, fun q => ⟨?_, M⟩⟩, fun e => ⟨?_, M⟩⟩
    · rw [if_pos e]; exact m0
    · rw [if_neg (by omega), if_pos e]; exact m1
    · rw [if_neg (by omega), if_neg (by omega), if_pos e]; exact m2
    · rw [if_neg (by omega), if_neg (by omega), if_neg (by omega), if_pos e, ← m3, if_pos q]
    · rw [if_neg (by omega), if_neg (by omega), if_neg (by omega), if_pos e, ← m3, if_neg q]
    · rw [if_neg (by omega), if_neg (by omega), if_neg (by omega), if_neg (by omega)]
theorem sim_row (w : WS st) (k : Int) : Sim st mX8_row mX9_row [pI k] := by
  intro h g R M
  by_cases hk : 0 ≤ k ∧ k ≤ 7
  · refine ⟨sW st k.toNat, st, w, sX8_row_0 (sX2_reach_0 ⟨fun q => absurd q (by omega), fun _ => ⟨fun q => absurd q (by omega), fun _ => ⟨k.toNat, by omega, by omega, R.2.1.2.1 _ (by omega), R⟩⟩⟩), sX9_row_0 (m_in k 0 7 ⟨fun q => absurd hk (b2_0.mp q), fun _ => ⟨k.toNat, by omega, by omega, M.2.1.2.1 _ (by omega), M⟩⟩)⟩
  · exact ⟨0, st, w, sX8_row_0 (sX2_reach_0 ⟨fun _ => ⟨rfl, R⟩, fun q => ⟨fun _ => ⟨rfl, R⟩, fun q2 => absurd ⟨by omega, by omega⟩ hk⟩⟩), sX9_row_0 (m_in k 0 7 ⟨fun _ => ⟨rfl, M⟩, fun q => absurd (b2_n0.mp q) hk⟩)⟩
theorem sim_lay (w : WS st) (k v : Int) : Sim st mX8_lay mX9_lay [pI k, pI v] := by
  intro h g R M
  by_cases hk : 0 ≤ k ∧ k ≤ 7
  · have w' : WS (sT st, sN st, (fun i => if i = k.toNat then v else sW st i), sU st, sQ st, sL st) := w
    refine ⟨1, _, w', sX8_lay_0 (sX2_put_0 ⟨fun q => absurd q (by omega), fun _ => ⟨fun _ => ⟨k.toNat, by omega, by omega, fun q => absurd q (by decide), fun _ => ⟨rfl, ?_⟩⟩, fun q => absurd q (by omega)⟩⟩), sX9_lay_0 (m_in k 0 7 ⟨fun _ => ⟨k.toNat, by omega, by omega, rfl, ?_⟩, fun q => absurd hk (b2_0.mp q)⟩)⟩
    · have f : fr 21 21 h (hA h 21 k.toNat v) := fr.rf.A ⟨by decide, by decide⟩
      refine ⟨R.1.kp f (Or.inl (by decide)), ⟨fun s hs => ?_, fun i hi => ?_, ?_, ?_⟩, R.2.2.fw f (Or.inl (by decide))⟩
      · rw [f.a (by decide)]; exact R.2.1.1 s hs
      · show (if (21 : Nat) = 21 ∧ i = k.toNat then v else h.1 21 i) = if i = k.toNat then v else sW st i
        by_cases e : i = k.toNat
        · rw [if_pos ⟨rfl, e⟩, if_pos e]
        · rw [if_neg (fun q => e q.2), if_neg e]
          exact R.2.1.2.1 i hi
      · exact R.2.1.2.2.1
      · exact R.2.1.2.2.2.kp rfl (f.a (by decide))
    · have f : fm 8 8 g (hA g 8 k.toNat v) := fm.rf.A ⟨by decide, by decide⟩
      refine ⟨M.1.kp f (by decide), ⟨fun s hs => ?_, fun i hi => ?_, ?_, ?_⟩, M.2.2.kp rfl (f.a (by decide)) (f.a (by decide)) (f.a (by decide))⟩
      · rw [f.a (by decide)]; exact M.2.1.1 s hs
      · show (if (8 : Nat) = 8 ∧ i = k.toNat then v else g.1 8 i) = if i = k.toNat then v else sW st i
        by_cases e : i = k.toNat
        · rw [if_pos ⟨rfl, e⟩, if_pos e]
        · rw [if_neg (fun q => e q.2), if_neg e]
          exact M.2.1.2.1 i hi
      · exact M.2.1.2.2.1
      · exact M.2.1.2.2.2.kp (fun _ _ => rfl) (f.a (by decide))
  · exact ⟨-1, st, w, sX8_lay_0 (sX2_put_0 ⟨fun _ => ⟨fun _ => ⟨rfl, R⟩, fun q => absurd rfl q⟩, fun q => ⟨fun q2 => absurd ⟨by omega, by omega⟩ hk, fun _ => ⟨fun _ => ⟨rfl, R⟩, fun q => absurd rfl q⟩⟩⟩), sX9_lay_0 (m_in k 0 7 ⟨fun q => absurd (b2_n0.mp q) hk, fun _ => ⟨rfl, M⟩⟩)⟩
theorem sim_clear (w : WS st) : Sim st mX8_clearCounts mX9_clearCounts [] := by
  intro h g R M
  have w' : WS (sT st, (fun _ => 0), sW st, sU st, sQ st, sL st) := ⟨w.1, w.2.1, w.2.2.1, fun _ _ => rfl, w.2.2.2.2⟩
  have hm := M.1.m
  refine ⟨0, _, w', sX8_clearCounts_0 (sX2_forgetCounts_0 (c_fill (shC_20 _) (by decide) ⟨rfl, ?_⟩)), ?_⟩
  · have f : fr 20 20 h (filA h 20 0 600 0) := ⟨fun a ha => ⟨by funext i; show (if a = 20 ∧ 0 ≤ i ∧ i < 600 then (0 : Int) else h.1 a i) = h.1 a i; rw [if_neg (by omega)], rfl⟩, rfl⟩
    refine ⟨R.1.kp f (Or.inl (by decide)), ⟨fun s hs => ?_, fun i hi => ?_, R.2.1.2.2.1, R.2.1.2.2.2.kp rfl (f.a (by decide))⟩, R.2.2.fw f (Or.inl (by decide))⟩
    · show (if (20 : Nat) = 20 ∧ 0 ≤ s ∧ s < 600 then (0 : Int) else h.1 20 s) = 0
      rw [if_pos ⟨rfl, Nat.zero_le _, hs⟩]
    · rw [f.a (by decide)]; exact R.2.1.2.1 i hi
  · have loop : ∀ (d i : Nat) (g1 : Hp), i + d = mk (sT st) → fm 5 5 g g1 → (∀ s, g1.1 5 s = if s < i then 0 else g.1 5 s) → Ok shM 0 0 mX9_clearCounts 2 [some (pR 0), some (pI (i : Int))] [] g1 (fun q g' => q = 0 ∧ RelM (sT st, (fun _ => 0), sW st, sU st, sQ st, sL st) g') := by
      intro d
      induction d with
      | zero =>
        intro i g1 hi f e
        have R1 : g1.2.1 0 0 = (mk (sT st) : Int) := by rw [f.2]; exact M.1.1
        refine sX9_clearCounts_2 ⟨fun _ => ⟨rfl, ⟨?_, ?_, ?_⟩⟩, fun q => absurd q (by omega)⟩
        · exact ⟨by rw [f.2]; exact M.1.1, by rw [f.2]; exact M.1.2.1, by
            obtain ⟨x1, x2, x3, x4, x5⟩ := M.1.2.2
            have ea : ∀ i, i < 6 → g1.1 (ρM i) = g.1 (ρM i) := fun i hi => f.a (by rcases (by omega : i = 0 ∨ i = 1 ∨ i = 2 ∨ i = 3 ∨ i = 4 ∨ i = 5) with rfl | rfl | rfl | rfl | rfl | rfl <;> decide)
            refine ⟨x1, x2, fun s hs => ?_, fun j hj => ?_, fun r hr => ?_⟩
            · rw [ea 0 (by decide), ea 1 (by decide), ea 3 (by decide)]; exact x3 s hs
            · rw [ea 2 (by decide)]; exact x4 j hj
            · rw [ea 4 (by decide), ea 5 (by decide)]; exact x5 r hr⟩
        · refine ⟨fun s hs => ?_, fun i hi => by rw [f.a (by decide)]; exact M.2.1.2.1 i hi, by rw [f.2]; exact M.2.1.2.2.1, M.2.1.2.2.2.kp (fun _ _ => by rw [f.2]) (f.a (by decide))⟩
          rw [e s]
          by_cases c : s < i
          · rw [if_pos c]
          · rw [if_neg c, M.2.1.1 s hs]
            exact w.2.2.2.1 s (by omega)
        · exact M.2.2.kp (by rw [f.2]) (f.a (by decide)) (f.a (by decide)) (f.a (by decide))
      | succ d ih =>
        intro i g1 hi f e
        have R1 : g1.2.1 0 0 = (mk (sT st) : Int) := by rw [f.2]; exact M.1.1
        refine sX9_clearCounts_2 ⟨fun q => absurd q (by omega), fun _ => ⟨i, rfl, by omega, by unfold inR; omega, ?_⟩⟩
        refine ih (i + 1) _ (by omega) (f.A ⟨by decide, by decide⟩) (fun s => ?_)
        rw [hA_at]
        by_cases c : s = i
        · rw [if_pos ⟨rfl, c⟩, if_pos (by omega)]
        · rw [if_neg (fun q => c q.2), e s]
          by_cases c2 : s < i
          · rw [if_pos c2, if_pos (by omega)]
          · rw [if_neg c2, if_neg (by omega)]
    exact sX9_clearCounts_0 (loop (mk (sT st)) 0 g (by omega) fm.rf (fun s => by rw [if_neg (by omega)]))
theorem sim_laid (w : WS st) (k : Int) (hk : inR k) : Sim st mX8_laid mX9_laid [pI k] := by
  intro h g R M
  have c := R.2.1.2.2.2
  have m := M.2.1.2.2.2
  have hl := w.2.2.2.2.2
  by_cases h0 : 0 ≤ k
  · cases hs : sL st with
    | none =>
      rw [hs] at c m
      exact ⟨-2, st, w, sX8_laid_0 ⟨fun _ => sX0_hasLaidOut_0 ⟨fun _ => ⟨fun _ => ⟨rfl, R⟩, fun q => absurd rfl q⟩, fun q => absurd c q⟩, fun q => absurd h0 q⟩, sX9_laid_0 ⟨fun _ => ⟨fun q => absurd m q, fun _ => ⟨rfl, M⟩⟩, fun q => absurd h0 q⟩⟩
    | some x =>
      rw [hs] at c m
      obtain ⟨c1, c2, c3, c4⟩ := c
      obtain ⟨m0, m1, m2, m3, m4⟩ := m
      have hx := hl x hs
      refine ⟨if k = 0 then x.1 else if k = 1 then x.2.1 else if k - 2 < (x.2.2.length : Int) then x.2.2.getD (k - 2).toNat 0 else -4, st, w, sX8_laid_0 ⟨fun _ => sX0_hasLaidOut_0 ⟨fun q => absurd q (by omega), fun _ => ⟨fun q => absurd q (by decide), fun _ => sX0_latest_0 ⟨fun e => ⟨?_, R⟩, fun e => ⟨?_, R⟩, fun e => ⟨fun q => absurd q (by omega), fun _ => ⟨by unfold inR at *; omega, fun q => ⟨?_, R⟩, fun q => ⟨(k - 2).toNat, by omega, by omega, ?_, R⟩⟩⟩⟩⟩⟩, fun q => absurd h0 q⟩, sX9_laid_0 ⟨fun _ => ⟨fun _ => ⟨fun e => ⟨fun e2 => ⟨by unfold inR at *; omega, fun q => ⟨?_, M⟩, fun q => ⟨(k - 2).toNat, by omega, by omega, ?_, M⟩⟩, fun e2 => ⟨?_, M⟩⟩, fun e => ⟨?_, M⟩⟩, fun q => absurd q (by omega)⟩, fun q => absurd h0 q⟩⟩
      · rw [if_pos e]; exact c1
      · rw [if_neg (by omega), if_pos e]; exact c2
      · rw [if_neg (by omega), if_neg (by omega), if_neg (by omega)]
      · rw [if_neg (by omega), if_neg (by omega), if_pos (by omega)]
        have hlt : (k - 2).toNat < x.2.2.length := by omega
        rw [c4 _ _ (List.getElem?_eq_getElem hlt), List.getD_eq_getElem?_getD, List.getElem?_eq_getElem hlt]
        rfl
      · rw [if_neg (by omega), if_neg (by omega), if_neg (by omega)]
      · rw [if_neg (by omega), if_neg (by omega), if_pos (by omega)]
        have hlt : (k - 2).toNat < x.2.2.length := by omega
        rw [m4 _ _ (List.getElem?_eq_getElem hlt), List.getD_eq_getElem?_getD, List.getElem?_eq_getElem hlt]
        rfl
      · rw [if_neg (by omega), if_pos e2]; exact m2
      · rw [if_pos e]; exact m1
  · exact ⟨-1, st, w, sX8_laid_0 ⟨fun q => absurd q h0, fun _ => ⟨rfl, R⟩⟩, sX9_laid_0 ⟨fun q => absurd q h0, fun _ => ⟨rfl, M⟩⟩⟩
theorem sim_gain (w : WS st) (z : Int) : Sim st mX8_gain mX9_gain [pI z] := by
  intro h g R M
  have hm := w.1.m
  by_cases hc : cib (sT st) z
  · have hz : 0 ≤ z ∧ z < (mk (sT st) : Int) := Classical.byContradiction fun q => by
      have := hc.1
      unfold kdI at this
      rw [if_neg q] at this
      exact absurd this (by decide)
    refine ⟨wr (4 * sN st z.toNat), st, w, sX8_gain_0 (c_isCallInBody R.1 z ⟨fun q => absurd hc (b2_0.mp q), fun _ => sX2_gainOf_0 (sX2_countOf_0 ⟨fun q => absurd q (by omega), fun _ => ⟨fun q => absurd q (by omega), fun _ => ⟨z.toNat, by omega, by omega, ?_, R⟩⟩⟩)⟩), sX9_gain_0 (m_isCall w.1 M.1 z ⟨fun q => absurd hc (b2_0.mp q), fun _ => ⟨z.toNat, by omega, by omega, ?_, M⟩⟩)⟩
    · rw [R.2.1.1 _ (by omega)]
    · rw [M.2.1.1 _ (by omega)]
  · exact ⟨-1, st, w, sX8_gain_0 (c_isCallInBody R.1 z ⟨fun _ => ⟨rfl, R⟩, fun q => absurd (b2_n0.mp q) hc⟩), sX9_gain_0 (m_isCall w.1 M.1 z ⟨fun _ => ⟨rfl, M⟩, fun q => absurd (b2_n0.mp q) hc⟩)⟩
end SQ
