/-! BOTH SIDES: a routine is told -/
section SR
variable {st : St} {t t' : TV}
theorem ch_cg (h2 : ∀ j, t'.1 2 j = t.1 2 j) (s : Nat) : ch t' s = ch t s := by
  rw [ch_eq, ch_eq]
  unfold pf
  show (if 0 ≤ t'.1 2 (3 * s + 0) then [(t'.1 2 (3 * s + 0)).toNat] else []) ++ ((if 0 ≤ t'.1 2 (3 * s + 1) then [(t'.1 2 (3 * s + 1)).toNat] else []) ++ (if 0 ≤ t'.1 2 (3 * s + 2) then [(t'.1 2 (3 * s + 2)).toNat] else [])) = _
  rw [h2, h2, h2]
theorem tr_cg (hm : mk t' = mk t) (h0 : ∀ j, t'.1 0 j = t.1 0 j) (h2 : ∀ j, t'.1 2 j = t.1 2 j) (h3 : ∀ j, t'.1 3 j = t.1 3 j) : ∀ (n s : Nat), tr t n s → tr t' n s
  | 0, _, h => h
  | n + 1, s, h => by
    refine ⟨by rw [hm]; exact h.1, fun e => h.2.1 ((h0 s).symm.trans e), fun k hk => ?_, fun c hc => ?_⟩
    · show t'.1 2 (3 * s + k) < 0 ∨ (t'.1 2 (3 * s + k) < (mk t' : Int) ∧ t'.1 3 (t'.1 2 (3 * s + k)).toNat = (s : Int) ∧ ∀ j, j < 3 → j ≠ k → t'.1 2 (3 * s + j) ≠ t'.1 2 (3 * s + k))
      rw [hm, h2, h3]
      rcases h.2.2.1 k hk with h1 | ⟨h1, h4, h5⟩
      · exact Or.inl h1
      · exact Or.inr ⟨h1, h4, fun j hj hne => by rw [h2]; exact h5 j hj hne⟩
    · rw [ch_cg h2] at hc
      exact tr_cg hm h0 h2 h3 n c (h.2.2.2 c hc)
/-- one routine more -/
def addR (t : TV) (n : Int) : TV := ((tw (tw t 4 (rt t) n) 5 (rt t) (-4)).1, (mk t, rt t + 1))
theorem addR_at (t : TV) (n : Int) (r j : Nat) : (addR t n).1 r j = if r = 5 ∧ j = rt t then -4 else if r = 4 ∧ j = rt t then n else t.1 r j := rfl
theorem addR_o (t : TV) (n : Int) {r : Nat} (j : Nat) (h : r < 4) : (addR t n).1 r j = t.1 r j := by
  rw [addR_at, if_neg (by omega), if_neg (by omega)]
theorem wf_addR (w : WF t) {n : Int} (hn : 0 ≤ n ∧ n ≤ 3) (hr : rt t < 10) : WF (addR t n) := by
  have e0 : ∀ j, kd (addR t n) j = kd t j := fun j => addR_o t n j (by decide)
  have e1 : ∀ j, nm (addR t n) j = nm t j := fun j => addR_o t n j (by decide)
  have e2 : ∀ s k, pt (addR t n) s k = pt t s k := fun s k => addR_o t n _ (by decide)
  have e3 : ∀ j, up (addR t n) j = up t j := fun j => addR_o t n j (by decide)
  have e4 : ∀ j, j < rt t → pr (addR t n) j = pr t j := fun j hj => by
    show (addR t n).1 4 j = _
    rw [addR_at, if_neg (by omega), if_neg (by omega)]
  have e5 : ∀ j, j < rt t → bd (addR t n) j = bd t j := fun j hj => by
    show (addR t n).1 5 j = _
    rw [addR_at, if_neg (by omega), if_neg (by omega)]
  have n4 : pr (addR t n) (rt t) = n := by
    show (addR t n).1 4 (rt t) = _
    rw [addR_at, if_neg (by omega), if_pos ⟨rfl, rfl⟩]
  have n5 : bd (addR t n) (rt t) = -4 := by
    show (addR t n).1 5 (rt t) = _
    rw [addR_at, if_pos ⟨rfl, rfl⟩]
  have ea : ∀ s, s < mk t → kd t s ≠ -1 → ar (addR t n) s = ar t s := fun s hs hk => by
    unfold ar
    simp only [e0, e1]
    by_cases h6 : kd t s = 6
    · have := (w.nmr hs hk).2 h6
      rw [e4 _ (by omega)]
    · rw [if_neg h6, if_neg h6]
  refine ⟨w.1, by show rt t + 1 ≤ 10; omega, fun r hr' => ?_, fun r q hr' hq hne hb => ?_, fun s hs => ?_, fun s hs hk => ?_, fun s hs hk => ?_, fun s hs hk hu => ?_⟩
  · have hr' : r < rt t + 1 := hr'
    by_cases e : r = rt t
    · subst e
      rw [n4, n5]
      exact ⟨hn.1, hn.2, Or.inl rfl⟩
    · rw [e4 r (by omega), e5 r (by omega)]
      obtain ⟨h1, h2, h3⟩ := w.2.2.1 r (by omega)
      refine ⟨h1, h2, h3.imp id (fun ⟨⟨a, b, c⟩, d⟩ => ⟨⟨a, b, by rw [e0]; exact c⟩, by rw [e3]; exact d⟩)⟩
  · have hr' : r < rt t + 1 := hr'
    have hq : q < rt t + 1 := hq
    have hrr : r ≠ rt t := fun e => hb (by rw [e]; exact n5)
    rw [e5 r (by omega)] at hb ⊢
    by_cases e : q = rt t
    · rw [e, n5]
      exact hb
    · rw [e5 q (by omega)]
      exact w.2.2.2.1 r q (by omega) (by omega) hne hb
  · rw [e0, e1, e3]
    obtain ⟨h1, h2, h3⟩ := w.2.2.2.2.1 s hs
    exact ⟨h1, h2, fun e => ⟨(h3 e).1, (h3 e).2.1, fun k hk => by rw [e2]; exact (h3 e).2.2 k hk⟩⟩
  · rw [e0] at hk
    rw [e0, e1, ea s hs hk]
    obtain ⟨h1, h2, h3, h4⟩ := w.2.2.2.2.2.1 s hs hk
    refine ⟨h1, fun e => ⟨(h2 e).1, by have := (h2 e).2; show nm t s < ((rt t + 1 : Nat) : Int); omega⟩, h3, fun k hk => by rw [e2]; exact h4 k hk⟩
  · rw [e0] at hk
    exact tr_cg (t := t) (t' := addR t n) rfl (fun j => addR_o t n j (by decide)) (fun j => addR_o t n j (by decide)) (fun j => addR_o t n j (by decide)) 40 s (w.tr' hs hk)
  · rw [e0] at hk
    rw [e3] at hu ⊢
    obtain ⟨⟨a, b, c⟩, k, d, e⟩ := w.2.2.2.2.2.2.2 s hs hk hu
    exact ⟨⟨a, b, by rw [e0]; exact c⟩, k, d, by rw [e2]; exact e⟩
theorem RM.more {g : Hp} (R : RM t g) {n : Int} (hr : rt t < 10) : RM (addR t n) (hI (hA (hA g 6 (rt t) n) 7 (rt t) (-4)) 0 6 ((rt t : Int) + 1)) := by
  have R2 := (R.wr (ro := 4) (by decide) (rt t) n).wr (ro := 5) (by decide) (rt t) (-4)
  obtain ⟨r1, r2, r3, r4, r5, r6, r7⟩ := R2
  refine ⟨?_, ?_, r3, by show rt t + 1 ≤ 10; omega, r5, r6, fun r hr' => ?_⟩
  · rw [hI_at, if_neg (by omega)]
    exact r1
  · rw [hI_at, if_pos ⟨rfl, rfl⟩]
    show (rt t : Int) + 1 = ((rt t + 1 : Nat) : Int)
    omega
  · have hr' : r < rt t + 1 := hr'
    by_cases e : r = rt t
    · subst e
      refine ⟨?_, ?_⟩
      · show (if (6 : Nat) = 7 ∧ rt t = rt t then (-4 : Int) else if (6 : Nat) = 6 ∧ rt t = rt t then n else g.1 6 (rt t)) = (addR t n).1 4 (rt t)
        rw [if_neg (by omega), if_pos ⟨rfl, rfl⟩, addR_at, if_neg (by omega), if_pos ⟨rfl, rfl⟩]
      · show (if (7 : Nat) = 7 ∧ rt t = rt t then (-4 : Int) else _) = (addR t n).1 5 (rt t)
        rw [if_pos ⟨rfl, rfl⟩, addR_at, if_pos ⟨rfl, rfl⟩]
    · exact r7 r (by show r < rt t; omega)
theorem sim_routine (w : WS st) (n : Int) : Sim st mX8_routine mX9_routine [pI n] := by
  intro h g R M
  have hm := w.1.m
  by_cases hn : 0 ≤ n ∧ n ≤ 3
  · by_cases hr : rt (sT st) < 10
    · have w' : WS (addR (sT st) n, sN st, sW st, [], sQ st, sL st) := ⟨wf_addR w.1 hn hr, Nat.zero_le _, (fun u hu => by cases hu), w.2.2.2.1, w.2.2.2.2.1, w.2.2.2.2.2⟩
      refine ⟨(rt (sT st) : Int), _, w', sX8_routine_0 ⟨fun q => absurd q (by omega), fun _ => ⟨fun _ => c_addRoutine R.1 n (fun h' f _ R' => ⟨fun _ => c_forgetAll ⟨rfl, R.tell (f.wd (by decide) (by decide)) R'⟩, fun q => absurd q (by omega)⟩) (fun q => absurd hr q), fun q => absurd hn.2 q⟩⟩, sX9_routine_0 (m_in n 0 3 ⟨fun _ => ?_, fun q => absurd hn (b2_0.mp q)⟩)⟩
      rw [M.1.2.1]
      refine ⟨fun _ => ⟨rt (sT st), rfl, hr, by unfold inR; omega, by unfold inR; omega, by omega, ?_⟩, fun q => absurd q (by omega)⟩
      have c1 : cz (mk (sT st)) g (hI (hA (hA g 6 (rt (sT st)) n) 7 (rt (sT st)) (-4)) 0 6 ((rt (sT st) : Int) + 1)) := cz.of rfl rfl
      have Rm := M.1.more (n := n) hr
      refine ⟨⟨?_, ?_, Rm.2.2⟩, ?_, ?_, fun i u hu => by cases hu⟩
      · rw [hI_at, if_neg (by omega)]
        exact Rm.1
      · rw [hI_at, if_neg (by omega)]
        exact Rm.2.1
      · have h1 : MX (addR (sT st) n, sN st, sW st, [], sQ st, sL st) g := M.2.1
        refine h1.kp (fun s hs => rfl) rfl rfl (fun k hk => ?_)
        rw [hI_at, if_neg (by omega), hI_at, if_neg (by omega)]
        rfl
      · rw [hI_at, if_pos ⟨rfl, rfl⟩]
        rfl
    · refine ⟨-3, st, w, sX8_routine_0 ⟨fun q => absurd q (by omega), fun _ => ⟨fun _ => c_addRoutine R.1 n (fun h' f q => absurd q hr) (fun _ => ⟨fun q => absurd rfl q, fun _ => ⟨rfl, R⟩⟩), fun q => absurd hn.2 q⟩⟩, sX9_routine_0 (m_in n 0 3 ⟨fun _ => ?_, fun q => absurd hn (b2_0.mp q)⟩)⟩
      rw [M.1.2.1]
      exact ⟨fun q => absurd (by omega) q, fun _ => ⟨rfl, M⟩⟩
  · exact ⟨-1, st, w, sX8_routine_0 ⟨fun _ => ⟨rfl, R⟩, fun q1 => ⟨fun q2 => absurd ⟨by omega, q2⟩ hn, fun _ => ⟨rfl, R⟩⟩⟩, sX9_routine_0 (m_in n 0 3 ⟨fun q => absurd (b2_n0.mp q) hn, fun _ => ⟨rfl, M⟩⟩)⟩
end SR
