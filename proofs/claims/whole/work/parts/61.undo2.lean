/-! THE CLASS: takeBack -/
section UC
variable {P : Int → Hp → Prop}
def SDc (v : TV) (n : Nat) (h : Hp) : Prop := (∀ s, s < n → h.1 3 s = kd v s ∧ h.1 4 s = nm v s ∧ h.1 6 s = up v s) ∧ ∀ j, j < 3 * n → h.1 5 j = v.1 2 j
theorem RC.sd {t : TV} {h : Hp} (R : RC t h) : SDc t (mk t) h := ⟨fun s hs => R.2.2.2.2.1 s hs, fun j hj => R.2.2.2.2.2.1 j hj⟩
/-- rows of a kept state brought back -/
theorem rc_cp {u : TV} {o : Nat} {h : Hp} (x : slot o u h) (ho : 46 ≤ o) : RC u (cpR h 2 o (mk u) (rt u)) := by
  obtain ⟨x1, x2, r3, r4, r5, r6, r7⟩ := x
  obtain ⟨c1, c2, c3, c4, c5⟩ := cpR_at (h := h) (o := 2) (s := o) (m := mk u) (r := rt u) (Or.inr (by omega))
  refine ⟨c4, c5, r3, r4, fun s hs => ?_, fun j hj => ?_, fun r hr => ?_⟩
  · obtain ⟨a1, a2, a3⟩ := c1 s hs
    obtain ⟨b1, b2, b3⟩ := r5 s hs
    exact ⟨a1.trans b1, a2.trans b2, a3.trans b3⟩
  · exact (c2 j hj).trans (r6 j hj)
  · obtain ⟨a1, a2⟩ := c3 r hr
    obtain ⟨b1, b2⟩ := r7 r hr
    exact ⟨a1.trans b1, a2.trans b2⟩
theorem c_gone {u : TV} {m : Nat} {h : Hp} (R : RC u h) (hm : mk u ≤ m) (h6 : m ≤ 600) (p : ∀ h', fr 2 8 h h' → RC (und u m) h' → P 1 h') : Ok shC 0 0 mX4_takeBack 34 [none, some (pR 2), some (pI (m : Int)), some (pI (mk u : Int))] [] h P := by
  have l34 : ∀ (d s : Nat) (T : TV) (h1 : Hp), s + d = m → mk u ≤ s → fr 2 8 h h1 → RC T h1 → T.2 = u.2 → h1.1 7 = h.1 7 → h1.1 8 = h.1 8 → SDc (und u m) s h1 → Ok shC 0 0 mX4_takeBack 34 [none, some (pR 2), some (pI (m : Int)), some (pI (s : Int))] [] h1 P := by
    intro d
    induction d with
    | zero =>
      intro s T h1 hs h0 f RT eT e7 e8 S
      have e : s = m := hs
      subst e
      have ert : rt T = rt u := congrArg Prod.snd eT
      refine sX4_takeBack_34 ⟨fun _ => p _ (f.I ⟨by decide, by decide⟩) ⟨?_, ?_, h6, R.m.2, fun x hx => S.1 x hx, fun j hj => S.2 j hj, fun r hr => ?_⟩, fun c => absurd (Int.le_refl _) c⟩
      · rw [hI_at, if_pos ⟨rfl, rfl⟩]
        rfl
      · rw [hI_at, if_neg (by omega), und_rt, ← ert]
        exact RT.2.1
      · have hr : r < rt u := hr
        refine ⟨?_, ?_⟩
        · show h1.1 7 r = pr u r
          rw [e7]; exact R.q hr
        · show h1.1 8 r = bd u r
          rw [e8]; exact R.b hr
    | succ d ih =>
      intro s T h1 hs h0 f RT eT e7 e8 S
      refine sX4_takeBack_34 ⟨fun c => absurd c (by omega), fun _ => c_clear RT (by omega) (-1) 0 (fun h2 x2 R2 e1 e2 e3 e4 _ => ⟨by unfold inR; omega, ?_⟩)⟩
      refine ih (s + 1) _ h2 (by omega) (by omega) (f.tr x2) R2 eT ((e1 7 (by decide)).trans e7) ((e1 8 (by decide)).trans e8) ⟨fun x hx => ?_, fun j hj => ?_⟩
      · by_cases c : x = s
        · rw [c, e3.1, e3.2.1, e3.2.2.1]
          exact ⟨by rw [und_kd, if_neg (by omega)], by rw [und_nm, if_neg (by omega)], by rw [und_up, if_neg (by omega)]⟩
        · rw [e2 3 x c (by decide), e2 4 x c (by decide), e2 6 x c (by decide)]
          exact S.1 x (by omega)
      · by_cases c : j / 3 = s
        · rw [e3.2.2.2 j c]
          show -4 = if j / 3 < mk u then u.1 2 j else -4
          rw [if_neg (by omega)]
        · rw [e4 j c]
          exact S.2 j (by omega)
  refine l34 (m - mk u) (mk u) u h (by omega) (Nat.le_refl _) fr.rf R rfl rfl rfl ⟨fun s hs => ?_, fun j hj => ?_⟩
  · rw [und_kd, und_nm, und_up, if_pos hs, if_pos hs, if_pos hs]
    exact R.sd.1 s hs
  · show h.1 5 j = if j / 3 < mk u then u.1 2 j else -4
    rw [if_pos (by omega)]
    exact R.sd.2 j hj
theorem c_takeBack {t u : TV} {us : List TV} {h : Hp} (R : RC t h) (C : CP (us ++ [u]) h) (hm : mk u ≤ mk t) (p : ∀ h', (∀ a, a < 2 ∨ (8 < a ∧ a < 38) ∨ (38 < a ∧ a < 46) → h'.1 a = h.1 a ∧ h'.2.1 a = h.2.1 a) → RC (und u (mk t)) h' → CP us h' → P 1 h') : Cl shC mX4_takeBack [pR 38, pR 2] h P := by
  obtain ⟨f, x1, x2, x3, x4, x5, x6, x7, x8⟩ := C
  have hl : (us ++ [u]).length = us.length + 1 := by simp
  rw [hl] at x3 x4 x5
  have hmt := R.m
  have hslot := x8 us.length u (by simp)
  have hc : (f + us.length) % 13 < h.2.2 := by
    by_cases e : f = 0
    · have := x5 e
      rw [e, Nat.zero_add, Nat.mod_eq_of_lt (by omega)]
      omega
    · have := x6 e
      have := Nat.mod_lt (f + us.length) (show 0 < 13 by decide)
      omega
  have k13 := Nat.mod_lt (f + us.length) (show 0 < 13 by decide)
  refine sX4_takeBack_0 ⟨fun c => ⟨by rw [x3]; unfold inR; omega, ?_⟩, fun c => absurd c (by omega)⟩
  rw [x3, show (((us.length + 1 : Nat) : Int) - 1) = (us.length : Int) by omega]
  have s2 : slot (46 + 7 * ((f + us.length) % 13)) u (hI h 38 2 (us.length : Int)) := hslot.kp (by funext j; rw [hI_at, if_neg (by omega)]) (fun _ _ => rfl)
  have C2 : CPf us f (hI h 38 2 (us.length : Int)) := by
    refine ⟨by rw [hI_at, if_neg (by omega)]; exact x1, x2, by rw [hI_at, if_pos ⟨rfl, rfl⟩], by omega, fun e => by have := x5 e; show us.length ≤ h.2.2; omega, fun e => x6 e, x7, fun i v hv => ?_⟩
    have hi := (List.getElem?_eq_some_iff.mp hv).1
    exact (x8 i v (by rw [List.getElem?_append_left hi]; exact hv)).kp (by funext j; rw [hI_at, if_neg (by omega)]) (fun _ _ => rfl)
  refine c_bring (f := f) (z := us.length) (m := mk u) (r := rt u) (by rw [hI_at, if_neg (by omega)]; exact x1) (by rw [hI_at, if_pos ⟨rfl, rfl⟩]) (by omega) hc s2.1 s2.2.1 s2.2.2.1 s2.2.2.2.1 ?_
  have R3 := rc_cp s2 (by omega)
  have f3 := cpR_fr (h := hI h 38 2 (us.length : Int)) (o := 2) (s := 46 + 7 * ((f + us.length) % 13)) (m := mk u) (r := rt u)
  have e2 : h.2.1 2 6 = (mk t : Int) := R.1
  rw [R3.1, e2]
  refine c_gone R3 hm hmt.1 (fun h4 f4 R4 => p h4 (fun a ha => ?_) R4 ?_)
  · have f34 := (f3.wd (lo' := 2) (hi' := 8) (by decide) (by decide)).tr f4
    refine ⟨f34.a (by omega), (f34.i (by omega)).trans ?_⟩
    funext j
    rw [hI_at, if_neg (by omega)]
  · have C3 : CP us (hI h 38 2 (us.length : Int)) := ⟨f, C2⟩
    exact C3.fw ((f3.wd (lo' := 2) (hi' := 8) (by decide) (by decide)).tr f4) (Or.inl (by decide))
theorem sim_undo {st : St} (w : WS st) : Sim st mX8_undo mX9_undo [] := by
  intro h g R M
  have hm := w.1.m
  by_cases hu : sU st = []
  · have c0 := R.2.2
    have m0 := M.2.2
    rw [hu] at c0 m0
    obtain ⟨f, _, _, c3, _⟩ := c0
    refine ⟨-2, st, w, sX8_undo_0 (sX4_takeBack_0 ⟨fun c => absurd c3 c, fun _ => ⟨fun _ => ⟨rfl, R⟩, fun c => absurd rfl c⟩⟩), sX9_undo_0 ⟨fun c => absurd m0.1 c, fun _ => ⟨rfl, M⟩⟩⟩
  · obtain ⟨us, u, e⟩ : ∃ us u, sU st = us ++ [u] := ⟨_, _, (List.dropLast_concat_getLast hu).symm⟩
    have hk : ∀ v ∈ us ++ [u], kin (sT st) v := fun v hv => w.2.2.1 v (by rw [e]; exact hv)
    have ku := hk u (by simp)
    have hlen := w.2.1
    rw [e, List.length_append] at hlen
    have hlen : us.length + 1 ≤ 12 := hlen
    refine ⟨1, (und u (mk (sT st)), sN st, sW st, us, sQ st, sL st), ⟨wf_und ku.1 ku.2.2.2 hm.1, by show us.length ≤ 12; omega, fun v hv => ?_, w.2.2.2.1, w.2.2.2.2⟩, ?_, ?_⟩
    · obtain ⟨a1, a2, a3, a4⟩ := hk v (List.mem_append_left _ hv)
      refine ⟨a1, a2.trans ku.2.1.symm, fun r hr => ?_, a4⟩
      have hr : r < rt u := hr
      rw [ku.2.1] at hr
      exact (a3 r hr).trans (ku.2.2.1 r hr).symm
    · have C := R.2.2
      rw [e] at C
      refine sX8_undo_0 (c_takeBack R.1 C ku.2.2.2 (fun h' f R' C' => ⟨fun c => absurd c (by decide), fun _ => ⟨rfl, R', ?_, C'⟩⟩))
      have c0 : CX (und u (mk (sT st)), sN st, sW st, us, sQ st, sL st) h := R.2.1
      exact c0.kp (f 19 (by decide)).2 (f 20 (by decide)).1 (f 21 (by decide)).1 (f 40 (by decide)).2 (f 44 (by decide)).1
    · have M2 := M.2.2
      rw [e] at M2
      have e13 : g.2.1 0 13 = ((us.length : Int) + 1) := by
        rw [M2.1, List.length_append]
        rfl
      refine sX9_undo_0 ⟨fun _ => ?_, fun c => absurd c (by omega)⟩
      rw [e13, show (us.length : Int) + 1 - 1 = (us.length : Int) by omega]
      have R2 : RM (sT st) (hI g 0 13 (us.length : Int)) := by
        refine ⟨?_, ?_, M.1.2.2⟩
        · rw [hI_at, if_neg (by omega)]; exact M.1.1
        · rw [hI_at, if_neg (by omega)]; exact M.1.2.1
      have K2 : ∀ i v, (us ++ [u])[i]? = some v → keptS i v (hI g 0 13 (us.length : Int)) := fun i v hv => (M2.2 i v hv).kp rfl rfl rfl
      refine ⟨by unfold inR; omega, m_back R2 (K2 us.length u (by simp)) (by omega) ku (fun g' b R' => ⟨rfl, R', ?_, ?_, fun i v hv => ?_⟩)⟩
      · have c0 : MX (und u (mk (sT st)), sN st, sW st, us, sQ st, sL st) g := M.2.1
        refine c0.kp (fun s _ => congrFun (b.1 5 (by decide) (by decide) (by decide) (by decide) (by decide)) s) (b.1 8 (by decide) (by decide) (by decide) (by decide) (by decide)) (b.1 27 (by decide) (by decide) (by decide) (by decide) (by decide)) (fun k hk => ?_)
        rw [b.2, hI_at, if_neg (by omega)]
      · rw [b.2, hI_at, if_pos ⟨rfl, rfl⟩]
      · have hi := (List.getElem?_eq_some_iff.mp hv).1
        exact (K2 i v (by rw [List.getElem?_append_left hi]; exact hv)).kp (b.1 19 (by decide) (by decide) (by decide) (by decide) (by decide)) (b.1 20 (by decide) (by decide) (by decide) (by decide) (by decide)) (b.1 21 (by decide) (by decide) (by decide) (by decide) (by decide))
end UC
