/-! BOTH SIDES: telling steps and routines -/
section ST
variable {st : St}
theorem c_isName {k : Int} {h : Hp} {P : Int → Hp → Prop} (p : P (b2 (0 ≤ k ∧ k ≤ 39)) h) : Cl shC mX8_isName [pI k] h P := by
  refine sX8_isName_0 ⟨fun c => ?_, fun c => ⟨fun c2 => ?_, fun c2 => ?_⟩⟩
  all_goals
    have e : ∀ b : Int, b2 (0 ≤ k ∧ k ≤ 39) = b → P b h := fun b e => by rw [← e]; exact p
    refine e _ ?_
    simp only [b2]
    first | rw [if_pos (by omega)] | rw [if_neg (by omega)]
theorem give_rel {x y z : Int} {g : Hp} (M : RelM st g) : RelM st (hA (hA (hA g 12 0 x) 12 1 y) 12 2 z) :=
  M.rd (((fm.rf.A ⟨by decide, by decide⟩).A ⟨by decide, by decide⟩).A (lo := 12) (hi := 12) ⟨by decide, by decide⟩) ⟨by decide, by decide⟩
theorem give_at {x y z : Int} {g : Hp} : (hA (hA (hA g 12 0 x) 12 1 y) 12 2 z).1 12 0 = x ∧ (hA (hA (hA g 12 0 x) 12 1 y) 12 2 z).1 12 1 = y ∧ (hA (hA (hA g 12 0 x) 12 1 y) 12 2 z).1 12 2 = z := by
  refine ⟨?_, ?_, ?_⟩ <;> simp [hA_at]
theorem sim_tell (w : WS st) {k v : Int} {n : Nat} (hn : n ≤ 3) (x y z : Int) (hk : 0 ≤ k ∧ k ≤ 11)
    (hv : (k = 1 ∨ k = 4 → 0 ≤ v ∧ v < 40) ∧ (k = 6 → 0 ≤ v ∧ v < (rt (sT st) : Int)) ∧ (k = 2 → 0 ≤ v ∧ v ≤ 5))
    (ha : n = if k = 2 ∨ k = 5 ∨ k = 8 ∨ k = 10 then 2 else if k = 3 then 3 else if k = 4 ∨ k = 7 ∨ k = 9 ∨ k = 11 then 1 else if k = 6 then (pr (sT st) v.toNat).toNat else 0) :
    ∃ (r : Int) (st' : St), WS st' ∧ (∀ h, RelC st h → Cl shC mX8_tellStep [pR 0, pI k, pI v, pI (n : Int), pI x, pI y, pI z] h (fun q h' => q = r ∧ RelC st' h')) ∧
      ∀ g, RelM st g → (0 < n → g.1 12 0 = x) ∧ (1 < n → g.1 12 1 = y) ∧ (2 < n → g.1 12 2 = z) → Cl shM mX9_comesUp [pR 0, pI k, pI v, pI (n : Int)] g (fun q g' => q = r ∧ RelM st' g') := by
  by_cases b : badT (sT st) n x y z
  · refine ⟨-1, st, w, fun h R => ?_, fun g M hg => ?_⟩
    · exact c_tellStep w.1 R.1 v n x y z (by omega) (by omega) (fun _ h' f => ⟨rfl, R.rd f ⟨by decide, by decide⟩⟩) (fun q => absurd b q) (fun q => absurd b q)
    · exact m_comesUp w.1 M.1 k v hn x y z hg (fun _ => ⟨rfl, M⟩) (fun q => absurd b q) (fun q => absurd b q)
  · by_cases f : tellF (sT st) n x y z
    · refine ⟨-3, st, w, fun h R => ?_, fun g M hg => ?_⟩
      · exact c_tellStep w.1 R.1 v n x y z (by omega) (by omega) (fun q => absurd q b) (fun _ _ h' f => ⟨rfl, R.rd f ⟨by decide, by decide⟩⟩) (fun _ q => absurd f q)
      · exact m_comesUp w.1 M.1 k v hn x y z hg (fun q => absurd q b) (fun _ _ h' f => ⟨rfl, M.rd f ⟨by decide, by decide⟩⟩) (fun _ q => absurd f q)
    · refine ⟨mk (sT st), (tl3 (mkS (sT st) k v) (mk (sT st)) n x y z, sN st, sW st, [], sQ st, sL st), ?_, fun h R => ?_, fun g M hg => ?_⟩
      · obtain ⟨g, hgd⟩ : ∃ g : Nat → Int, g = fun a => if a = 0 then x else if a = 1 then y else z := ⟨_, rfl⟩
        have g0 : g 0 = x := by rw [hgd]; rfl
        have g1 : g 1 = y := by rw [hgd]; rfl
        have g2 : g 2 = z := by rw [hgd]; rfl
        rw [← g0, ← g1, ← g2] at b f ⊢
        rw [← tg_tl _ _ _ hn]
        have hm : mk (sT st) < 600 := Classical.byContradiction fun q => f (Or.inl (by omega))
        refine ⟨wf_tg w.1 hn (fun a ha => ⟨Classical.byContradiction fun q => b (bad_lo hn ha q), fun c hc e => b (bad_eq hn ha hc e)⟩) hm (fun a ha => ?_) hk hv ha, Nat.zero_le _, (fun u hu => by cases hu), (fun s hs => ?_), w.2.2.2.2.1, w.2.2.2.2.2⟩
        · have h40 : ¬ 40 ≤ hiT (sT st) n (g 0) (g 1) (g 2) := fun q => f (Or.inr q)
          unfold hiT at h40
          rcases (by omega : a = 0 ∨ a = 1 ∨ a = 2) with rfl | rfl | rfl
          · rw [if_pos (by omega : (0 : Int) < n)] at h40
            omega
          · rw [if_pos (by omega : (1 : Int) < n)] at h40
            omega
          · rw [if_pos (by omega : (2 : Int) < n)] at h40
            omega
        · have hs : mk (tg (mkS (sT st) k v) (mk (sT st)) g n) ≤ s := hs
          rw [mk_tg] at hs
          exact w.2.2.2.1 s (by omega)
      · exact c_tellStep w.1 R.1 v n x y z (by omega) (by omega) (fun q => absurd q b) (fun _ q => absurd q f) (fun _ _ h' x' R' => ⟨rfl, R.tell (x'.wd (by decide) (by decide)) R'⟩)
      · exact m_comesUp w.1 M.1 k v hn x y z hg (fun q => absurd q b) (fun _ q => absurd q f) (fun _ _ h' x' c' R' => ⟨rfl, M.tell w x' c' R'⟩)
theorem sim_number (w : WS st) (v : Int) : Sim st mX8_number mX9_number [pI v] := by
  intro h g R M
  obtain ⟨r, st', w', c, m⟩ := sim_tell w (k := 0) (v := v) (n := 0) (by decide) (-4) (-4) (-4) (by decide) ⟨by omega, by omega, by omega⟩ rfl
  exact ⟨r, st', w', sX8_number_0 (c h R), sX9_number_0 (m g M ⟨fun q => absurd q (by decide), fun q => absurd q (by decide), fun q => absurd q (by decide)⟩)⟩
theorem sim_name (w : WS st) (k : Int) : Sim st mX8_name mX9_name [pI k] := by
  intro h g R M
  by_cases hk : 0 ≤ k ∧ k ≤ 39
  · obtain ⟨r, st', w', c, m⟩ := sim_tell w (k := 1) (v := k) (n := 0) (by decide) (-4) (-4) (-4) (by decide) ⟨fun _ => by omega, by omega, by omega⟩ rfl
    exact ⟨r, st', w', sX8_name_0 (c_isName ⟨fun q => absurd hk (b2_0.mp q), fun _ => c h R⟩), sX9_name_0 (m_in k 0 39 ⟨fun q => absurd hk (b2_0.mp q), fun _ => m g M ⟨fun q => absurd q (by decide), fun q => absurd q (by decide), fun q => absurd q (by decide)⟩⟩)⟩
  · exact ⟨-1, st, w, sX8_name_0 (c_isName ⟨fun _ => ⟨rfl, R⟩, fun q => absurd (b2_n0.mp q) hk⟩), sX9_name_0 (m_in k 0 39 ⟨fun _ => ⟨rfl, M⟩, fun q => absurd (b2_n0.mp q) hk⟩)⟩
theorem sim_set (w : WS st) (k x : Int) : Sim st mX8_set mX9_set [pI k, pI x] := by
  intro h g R M
  by_cases hk : 0 ≤ k ∧ k ≤ 39
  · obtain ⟨r, st', w', c, m⟩ := sim_tell w (k := 4) (v := k) (n := 1) (by decide) x (-4) (-4) (by decide) ⟨fun _ => by omega, by omega, by omega⟩ rfl
    exact ⟨r, st', w', sX8_set_0 (c_isName ⟨fun q => absurd hk (b2_0.mp q), fun _ => c h R⟩), sX9_set_0 (sX9_give_0 (m_in k 0 39 ⟨fun q => absurd hk (b2_0.mp q), fun _ => m _ (give_rel M) ⟨fun _ => give_at.1, fun q => absurd q (by decide), fun q => absurd q (by decide)⟩⟩))⟩
  · exact ⟨-1, st, w, sX8_set_0 (c_isName ⟨fun _ => ⟨rfl, R⟩, fun q => absurd (b2_n0.mp q) hk⟩), sX9_set_0 (sX9_give_0 (m_in k 0 39 ⟨fun _ => ⟨rfl, give_rel M⟩, fun q => absurd (b2_n0.mp q) hk⟩))⟩
theorem sim_act (w : WS st) (op x y : Int) : Sim st mX8_act mX9_act [pI op, pI x, pI y] := by
  intro h g R M
  by_cases hk : 0 ≤ op ∧ op ≤ 5
  · obtain ⟨r, st', w', c, m⟩ := sim_tell w (k := 2) (v := op) (n := 2) (by decide) x y (-4) (by decide) ⟨by omega, by omega, fun _ => hk⟩ rfl
    exact ⟨r, st', w', sX8_act_0 ⟨fun q => absurd q (by omega), fun _ => ⟨fun q => absurd q (by omega), fun _ => c h R⟩⟩, sX9_act_0 (sX9_give_0 (m_in op 0 5 ⟨fun q => absurd hk (b2_0.mp q), fun _ => m _ (give_rel M) ⟨fun _ => give_at.1, fun _ => give_at.2.1, fun q => absurd q (by decide)⟩⟩))⟩
  · exact ⟨-1, st, w, sX8_act_0 ⟨fun _ => ⟨rfl, R⟩, fun q1 => ⟨fun _ => ⟨rfl, R⟩, fun q2 => absurd ⟨by omega, by omega⟩ hk⟩⟩, sX9_act_0 (sX9_give_0 (m_in op 0 5 ⟨fun _ => ⟨rfl, give_rel M⟩, fun q => absurd (b2_n0.mp q) hk⟩))⟩
theorem sim_join (w : WS st) (k t x y : Int) : Sim st mX8_join mX9_join [pI k, pI t, pI x, pI y] := by
  intro h g R M
  by_cases h3 : k = 3
  · obtain ⟨r, st', w', c, m⟩ := sim_tell w (k := k) (v := 0) (n := 3) (by decide) t x y (by omega) ⟨by omega, by omega, by omega⟩ (by subst h3; rfl)
    refine ⟨r, st', w', sX8_join_0 ⟨fun _ => c h R, fun q => absurd q (by omega), fun q => absurd q (by omega), fun q => absurd q (by omega)⟩, sX9_join_0 ⟨fun _ => sX9_give_0 (m _ (give_rel M) ⟨fun _ => give_at.1, fun _ => give_at.2.1, fun _ => give_at.2.2⟩), fun q => absurd q (by omega), fun q => absurd q (by omega), fun q => absurd q (by omega)⟩⟩
  · by_cases h2 : k = 5 ∨ k = 8 ∨ k = 10
    · obtain ⟨r, st', w', c, m⟩ := sim_tell w (k := k) (v := 0) (n := 2) (by decide) x y (-4) (by omega) ⟨by omega, by omega, by omega⟩ (by rw [if_pos (by omega)])
      exact ⟨r, st', w', sX8_join_0 ⟨fun q => absurd q (by omega), fun _ => c h R, fun q => absurd q (by omega), fun q => absurd q (by omega)⟩, sX9_join_0 ⟨fun q => absurd q (by omega), fun _ => sX9_give_0 (m _ (give_rel M) ⟨fun _ => give_at.1, fun _ => give_at.2.1, fun q => absurd q (by decide)⟩), fun q => absurd q (by omega), fun q => absurd q (by omega)⟩⟩
    · by_cases h1 : k = 7 ∨ k = 9
      · obtain ⟨r, st', w', c, m⟩ := sim_tell w (k := k) (v := 0) (n := 1) (by decide) x (-4) (-4) (by omega) ⟨by omega, by omega, by omega⟩ (by rw [if_neg (by omega), if_neg (by omega), if_pos (by omega)])
        exact ⟨r, st', w', sX8_join_0 ⟨fun q => absurd q (by omega), fun q => absurd q (by omega), fun _ => c h R, fun q => absurd q (by omega)⟩, sX9_join_0 ⟨fun q => absurd q (by omega), fun q => absurd q (by omega), fun _ => sX9_give_0 ⟨fun _ => m _ (give_rel M) ⟨fun _ => give_at.1, fun q => absurd q (by decide), fun q => absurd q (by decide)⟩, fun q => absurd q (by omega)⟩, fun q => absurd q (by omega)⟩⟩
      · have hb : k < 3 ∨ 10 < k ∨ k = 4 ∨ k = 6 := by omega
        refine ⟨-1, st, w, sX8_join_0 ⟨fun q => absurd q (by omega), fun q => absurd q (by omega), fun q => absurd q (by omega), fun _ => ⟨rfl, R⟩⟩, sX9_join_0 ⟨fun q => absurd q (by omega), fun q => absurd q (by omega), fun q => sX9_give_0 ⟨fun q2 => absurd q (by omega), fun _ => ⟨rfl, give_rel M⟩⟩, fun q => ⟨rfl, M⟩⟩⟩
theorem sim_call (w : WS st) (r x y z : Int) : Sim st mX8_call mX9_call [pI r, pI x, pI y, pI z] := by
  intro h g R M
  by_cases hr : 0 ≤ r ∧ r < (rt (sT st) : Int)
  · have hp := w.1.prr r
    have e1 : prI (sT st) r = pr (sT st) r.toNat := by unfold prI; rw [if_pos hr]
    have e2 : (((prI (sT st) r).toNat : Nat) : Int) = prI (sT st) r := by omega
    obtain ⟨q, st', w', c, m⟩ := sim_tell w (k := 6) (v := r) (n := (prI (sT st) r).toNat) (by omega) x y z (by decide) ⟨by omega, fun _ => hr, by omega⟩ (by rw [e1]; rfl)
    have hm := w.1.m
    rw [e2] at c m
    refine ⟨q, st', w', sX8_call_0 (c_isRoutine R.1 r ⟨fun q => absurd hr (b2_0.mp q), fun _ => c_paramsOf R.1 r (c h R)⟩), sX9_call_0 (sX9_give_0 (m_isRoutine (give_rel M).1 r ⟨fun q => absurd hr (b2_0.mp q), fun _ => ⟨r.toNat, by omega, by omega, ?_⟩⟩))⟩
    rw [(give_rel M (x := x) (y := y) (z := z)).1.q (by omega), ← e1]
    exact m _ (give_rel M) ⟨fun _ => give_at.1, fun _ => give_at.2.1, fun _ => give_at.2.2⟩
  · exact ⟨-1, st, w, sX8_call_0 (c_isRoutine R.1 r ⟨fun _ => ⟨rfl, R⟩, fun q => absurd (b2_n0.mp q) hr⟩), sX9_call_0 (sX9_give_0 (m_isRoutine (give_rel M).1 r ⟨fun _ => ⟨rfl, give_rel M⟩, fun q => absurd (b2_n0.mp q) hr⟩))⟩
end ST
