/-! BOTH SIDES: run -/
section RU
variable {st : St} {P : Int → Hp → Prop}
/-- the reference is done -/
theorem m_done (w : WS st) {g g1 : Hp} {fuel : Int} {rs : RS} (R : RelM st g) (hf : 0 ≤ fuel ∧ fuel ≤ 2000) (hq : sQ st 4 < 60000) (o : okR (sT st) fuel rs) (S : NR (sT st) fuel rs.2.2.2 g1) (e30 : g1.2.1 0 30 = sQ st 4) (e31 : g1.2.1 0 31 = 1) (ea : ∀ a, 18 < a → g1.1 a = g.1 a) (ei : ∀ k, k = 13 ∨ 37 ≤ k → g1.2.1 0 k = g.2.1 0 k) (h29 : g1.2.1 0 29 ≠ 0) (h25 : g1.2.1 0 25 = rnC rs) (h28 : g1.2.1 0 28 = if rs.1 = 2 then rs.2.2.1 else -4) (h26 : g1.2.1 0 26 = if rs.1 = 2 then 0 else rs.2.1) (q : ∀ g', RelM (rnS st fuel rs) g' → P (rnC rs) g') : LG P g1 := by
  have gg := o.2.1.1
  have g2 := o.2.2
  have hw4 := w.2.2.2.2.1
  obtain ⟨y1, y2, y3, y4, y5, y6⟩ := S
  refine sX9_run_184 ⟨fun _ => ?_, fun c => absurd c h29⟩
  rw [h25, e30, y6]
  refine ⟨by unfold inR; omega, q _ ⟨?_, ⟨y3, y4, ⟨?_, ?_, ?_, ?_, ?_⟩, ?_⟩, ?_⟩⟩
  · obtain ⟨r1, r2, r3⟩ := y1
    exact ⟨by rw [hI_at, if_neg (by omega)]; exact r1, by rw [hI_at, if_neg (by omega)]; exact r2, r3⟩
  · rw [hI_at, if_neg (by omega)]; exact h26
  · rw [hI_at, if_neg (by omega)]; exact y6
  · rw [hI_at, if_neg (by omega)]; exact y5
  · rw [hI_at, if_neg (by omega), hI_at, if_neg (by omega)]; exact h28
  · rw [hI_at, if_pos ⟨rfl, rfl⟩]; rfl
  · have l0 : LM (sL st) g := R.2.1.2.2.2
    exact l0.kp (fun k hk => by rw [hI_at, if_neg (by omega)]; exact ei k (by omega)) (ea 27 (by decide))
  · have m0 : MP (sU st) g := R.2.2
    exact m0.kp (by rw [hI_at, if_neg (by omega)]; exact ei 13 (Or.inl rfl)) (ea 19 (by decide)) (ea 20 (by decide)) (ea 21 (by decide))
theorem m_run (w : WS st) {g : Hp} {r a b c fuel : Int} {k : Nat} (R : RelM st g) (hk : r = (k : Int)) (hk10 : k < 10) (hr : 0 ≤ r ∧ r < (rt (sT st) : Int)) (hf : 0 ≤ fuel ∧ fuel ≤ 2000) (hq : sQ st 4 < 60000) (hm : Cl shM mX9_run [pR 0, pI r, pI a, pI b, pI c, pI fuel] g P → True) (q : ∀ g', RelM (rnS st fuel (RR st r a b c fuel)) g' → P (rnC (RR st r a b c fuel)) g') : Cl shM mX9_run [pR 0, pI r, pI a, pI b, pI c, pI fuel] g P := by
  have hmm := w.1.m
  obtain ⟨ok, wyk⟩ := RR_ok (a := a) (b := b) (c := c) w hr hf
  have hbe : bdI (sT st) r = bd (sT st) k := by
    unfold bdI
    rw [if_pos hr, hk, Int.toNat_natCast]
  have e30 : g.2.1 0 30 = sQ st 4 := R.2.1.2.2.1.2.2.2.2
  refine sX9_run_0 (m_isRoutine R.1 r ⟨fun z => absurd hr (b2_0.mp z), fun _ => m_in _ _ _ ⟨fun _ => ⟨fun _ => ⟨k, hk, hk10, ?_⟩, fun z => absurd (by rw [e30]; exact hq) z⟩, fun z => absurd hf (b2_0.mp z)⟩⟩)
  rw [R.1.b (by omega), ← hbe]
  have i0 : ∀ o j, (hI (hI (hI (hI (hI (hI (hI (hI g 0 31 1) 0 25 0) 0 26 0) 0 24 0) 0 27 0) 0 28 (-4)) 0 29 0) 0 23 fuel).2.1 o j = if o = 0 ∧ j = 23 then fuel else if o = 0 ∧ j = 29 then 0 else if o = 0 ∧ j = 28 then -4 else if o = 0 ∧ j = 27 then 0 else if o = 0 ∧ j = 24 then 0 else if o = 0 ∧ j = 26 then 0 else if o = 0 ∧ j = 25 then 0 else if o = 0 ∧ j = 31 then 1 else g.2.1 o j := fun o j => by
    rw [hI_at, hI_at, hI_at, hI_at, hI_at, hI_at, hI_at, hI_at]
  have a0 : (hI (hI (hI (hI (hI (hI (hI (hI g 0 31 1) 0 25 0) 0 26 0) 0 24 0) 0 27 0) 0 28 (-4)) 0 29 0) 0 23 fuel).1 = g.1 := rfl
  generalize hI (hI (hI (hI (hI (hI (hI (hI g 0 31 1) 0 25 0) 0 26 0) 0 24 0) 0 27 0) 0 28 (-4)) 0 29 0) 0 23 fuel = g0 at *
  have R0 : RM (sT st) g0 := by
    obtain ⟨r1, r2, r3, r4, r5⟩ := R.1
    refine ⟨by rw [i0]; exact r1, by rw [i0]; exact r2, r3, r4, ?_⟩
    rw [a0]
    exact r5
  refine ⟨fun hb => ?_, fun hb => ?_⟩
  · have hRR : RR st r a b c fuel = E (sT st) 200000 1 false (bdI (sT st) r).toNat (args (prI (sT st) r) [a, b, c], fuel, sN st, sW st, max 0 (((0 : Nat) : Int) + 1)) := if_neg hb
    have hal : al (sT st) (bdI (sT st) r) := by
      have e : bdI (sT st) r = bd (sT st) r.toNat := if_pos hr
      rw [e] at hb ⊢
      exact ((w.1.2.2.1 _ (by omega)).2.2.resolve_left hb).1
    obtain ⟨n, hn⟩ := Int.eq_ofNat_of_zero_le hal.1
    rw [hn, Int.toNat_natCast] at hRR
    rw [hn] at hal
    obtain ⟨b1, b2'⟩ := al_n.mp hal
    have h40 := rk_pos w.1 b1 b2'
    rw [hRR] at q ok wyk
    have hpr := w.1.2.2.1 k (by omega)
    have epr : prI (sT st) r = pr (sT st) k := by
      unfold prI
      rw [if_pos hr, hk, Int.toNat_natCast]
    have loop : ∀ (d i : Nat) (g1 : Hp), i + d = 40 → (∀ x, x ≠ 18 → g1.1 x = g0.1 x) → g1.2 = g0.2 → RM (sT st) g1 → (∀ j : Nat, j < i → g1.1 18 j = args (prI (sT st) r) [a, b, c] j) → Ok shM 0 0 mX9_run 103 [some (pR 0), some (pI r), some (pI a), some (pI b), some (pI c), none, some (pI (i : Int))] [] g1 P := by
      intro d
      induction d with
      | zero =>
        intro i g1 hi ex e2 R1 e18
        refine sX9_run_103 ⟨fun _ => ⟨k, hk, hk10, ?_⟩, fun z => absurd (by omega) z⟩
        rw [R1.b (by omega), ← hbe, hn]
        have i2 : ∀ j, (hI (hI (hI g1 0 22 1) 0 27 1) 0 16 0).2.1 0 j = if j = 16 then 0 else if j = 27 then 1 else if j = 22 then 1 else g0.2.1 0 j := fun j => by
          rw [hI_at, hI_at, hI_at, e2]
          simp only [true_and]
        have S2 : NC (sT st) fuel 1 (args (prI (sT st) r) [a, b, c], fuel, sN st, sW st, max 0 (((0 : Nat) : Int) + 1)) (hI (hI (hI g1 0 22 1) 0 27 1) 0 16 0) := by
          refine ⟨⟨?_, ?_, fun s hs => ?_, fun j hj => ?_, ?_, ?_⟩, fun q hq => ?_, ?_, ?_, ?_, ?_, ?_⟩
          · exact (((nf.I (h := g1) (z := 1) (k := 22) (by omega)).tr (nf.I (by omega))).tr (nf.I (by omega))).rm R1
          · rw [i2, i0]; rfl
          · show g1.1 5 s = sN st s
            rw [ex 5 (by decide), a0]
            exact R.2.1.1 s hs
          · show g1.1 8 j = sW st j
            rw [ex 8 (by decide), a0]
            exact R.2.1.2.1 j hj
          · rw [i2]; rfl
          · rw [i2, i0]
            show 0 = fuel - fuel
            omega
          · show g1.1 18 (40 * (1 - 1) + q) = _
            rw [show 40 * (1 - 1) + q = q by omega]
            exact e18 q (by omega)
          · rw [i2]; rfl
          · rw [i2, i0]; rfl
          · rw [i2, i0]; rfl
          · rw [i2, i0]; rfl
          · rw [i2, i0]; rfl
        have ea2 : ∀ x, 18 < x → (hI (hI (hI g1 0 22 1) 0 27 1) 0 16 0).1 x = g.1 x := fun x hx => by
          show g1.1 x = g.1 x
          rw [ex x (by omega), a0]
        have ei2 : ∀ j, j = 13 ∨ 37 ≤ j → (hI (hI (hI g1 0 22 1) 0 27 1) 0 16 0).2.1 0 j = g.2.1 0 j := fun j hj => by
          rw [i2, if_neg (by omega), if_neg (by omega), if_neg (by omega), i0, if_neg (by omega), if_neg (by omega), if_neg (by omega), if_neg (by omega), if_neg (by omega), if_neg (by omega), if_neg (by omega), if_neg (by omega)]
        have e302 : (hI (hI (hI g1 0 22 1) 0 27 1) 0 16 0).2.1 0 30 = sQ st 4 := by
          rw [i2, i0]
          exact e30
        have e312 : (hI (hI (hI g1 0 22 1) 0 27 1) 0 16 0).2.1 0 31 = 1 := by rw [i2, i0]; rfl
        have e162 : (hI (hI (hI g1 0 22 1) 0 27 1) 0 16 0).2.1 0 16 = ((0 : Nat) : Int) := by rw [i2]; rfl
        generalize hI (hI (hI g1 0 22 1) 0 27 1) 0 16 0 = g2 at *
        have frames : ∀ {g'}, nf g2 g' → (∀ x, 18 < x → g'.1 x = g.1 x) ∧ (∀ j, j = 13 ∨ 37 ≤ j → g'.2.1 0 j = g.2.1 0 j) ∧ g'.2.1 0 30 = sQ st 4 ∧ g'.2.1 0 31 = 1 := fun {g'} x => ⟨fun y hy => (x.1 y (by omega)).trans (ea2 y hy), fun j hj => (x.2.1 0 j (by omega)).trans (ei2 j hj), (x.2.1 0 30 (by omega)).trans e302, (x.2.1 0 31 (by omega)).trans e312⟩
        have val : (E (sT st) 200000 1 false n (args (prI (sT st) r) [a, b, c], fuel, sN st, sW st, max 0 (((0 : Nat) : Int) + 1))).1 ≠ 2 → ∀ g', NK 0 1 g2 g' → NC (sT st) fuel 1 (E (sT st) 200000 1 false n (args (prI (sT st) r) [a, b, c], fuel, sN st, sW st, max 0 (((0 : Nat) : Int) + 1))).2.2.2 g' → g'.2.1 0 16 = 1 → EN (E (sT st) 200000 1 false n (args (prI (sT st) r) [a, b, c], fuel, sN st, sW st, max 0 (((0 : Nat) : Int) + 1))).2.1 g' (LG P) := fun e g' K' S' ht' => by
          generalize E (sT st) 200000 1 false n (args (prI (sT st) r) [a, b, c], fuel, sN st, sW st, max 0 (((0 : Nat) : Int) + 1)) = rs at *
          have fin : LG P (hI (hI (hI g' 0 16 0) 0 26 rs.2.1) 0 29 1) := by
            obtain ⟨f1, f2, f3, f4⟩ := frames (K'.1.tr (((nf.I (z := 0) (k := 16) (by omega)).tr (nf.I (z := rs.2.1) (k := 26) (by omega))).tr (nf.I (z := 1) (k := 29) (by omega))))
            refine m_done w R hf hq ok (((S'.1.I (by omega)).I (by omega)).I (by omega)) f3 f4 f1 f2 (by rw [hI_at, if_pos ⟨rfl, rfl⟩]; decide) ?_ ?_ ?_ q
            · rw [hI_at, if_neg (by omega), hI_at, if_neg (by omega), hI_at, if_neg (by omega), rnC, if_neg e]
              exact S'.2.2.2.1
            · rw [hI_at, if_neg (by omega), hI_at, if_neg (by omega), hI_at, if_neg (by omega), if_neg e]
              exact S'.2.2.2.2.2.1
            · rw [hI_at, if_neg (by omega), hI_at, if_pos ⟨rfl, rfl⟩, if_neg e]
          constructor
          · refine sX9_ends_0 ?_
            rw [ht', show (1 : Int) - 1 = 0 from rfl]
            exact ⟨by unfold inR; omega, fun z => absurd rfl z, fun _ => fin⟩
          · refine sX9_ends2_2 ?_
            rw [ht', show (1 : Int) - 1 = 0 from rfl]
            exact ⟨fun z => absurd z (by decide), fun _ => ⟨by unfold inR; omega, fun z => absurd rfl z, fun _ => sX9_ends2_2 ⟨fun _ => fin, fun z => absurd rfl z⟩⟩⟩
        refine (m_ev w.1 (has := fuel) ⟨hf.1, by omega⟩ 200000 1 false n _ 0 g2 b1 b2' (fun q => by cases q) ⟨hf.1, w.2.2.2.1⟩ hf.2 (by show 50 * fuel + _ < _; omega) (by decide) (by decide) (by omega) S2 ⟨fun e g' K' S' ht' => val (by omega) g' K' S' ht', fun e g' K' S' => ?_, fun e g' K' S' => ?_⟩).1 rfl e162
        · refine sX9_leaves_7 ⟨fun _ => ⟨by unfold inR; omega, ?_⟩, fun z => absurd (by decide) z⟩
          exact (val (by omega) _ (K'.I (Or.inl rfl)) (S'.sp _) (by rw [hI_at, if_pos ⟨rfl, rfl⟩]; rfl)).1
        · generalize E (sT st) 200000 1 false n (args (prI (sT st) r) [a, b, c], fuel, sN st, sW st, max 0 (((0 : Nat) : Int) + 1)) = rs at *
          refine sX9_refuses_0 ?_
          obtain ⟨f1, f2, f3, f4⟩ := frames (K'.tr ((((nf.I (z := rs.2.1) (k := 25) (by omega)).tr (nf.I (z := rs.2.2.1) (k := 28) (by omega))).tr (nf.I (z := 0) (k := 26) (by omega))).tr (nf.I (z := 1) (k := 29) (by omega))))
          refine m_done w R hf hq ok ((((S'.I (by omega)).I (by omega)).I (by omega)).I (by omega)) f3 f4 f1 f2 (by rw [hI_at, if_pos ⟨rfl, rfl⟩]; decide) ?_ ?_ ?_ q
          · rw [hI_at, if_neg (by omega), hI_at, if_neg (by omega), hI_at, if_neg (by omega), hI_at, if_pos ⟨rfl, rfl⟩, rnC, if_pos e]
          · rw [hI_at, if_neg (by omega), hI_at, if_neg (by omega), hI_at, if_pos ⟨rfl, rfl⟩, if_pos e]
          · rw [hI_at, if_neg (by omega), hI_at, if_pos ⟨rfl, rfl⟩, if_pos e]
      | succ d ih =>
        intro i g1 hi ex e2 R1 e18
        have st : ∀ z, z = args (prI (sT st) r) [a, b, c] i → Ok shM 0 0 mX9_run 103 [some (pR 0), some (pI r), some (pI a), some (pI b), some (pI c), none, some (pI ((i : Int) + 1))] [] (hA g1 18 i z) P := fun z hz => by
          refine ih (i + 1) _ (by omega) (fun x hx => ?_) e2 (R1.oth (Or.inr (Or.inr (by decide))) _ _) (fun j hj => ?_)
          · funext y
            rw [hA_at, if_neg (by omega)]
            exact congrFun (ex x hx) y
          · rw [hA_at]
            by_cases e : j = i
            · rw [if_pos ⟨rfl, e⟩, e]; exact hz
            · rw [if_neg (fun y => e y.2)]
              exact e18 j (by omega)
        refine sX9_run_103 ⟨fun z => absurd z (by omega), fun _ => ⟨k, hk, hk10, ?_⟩⟩
        rw [R1.q (by omega), ← epr]
        refine ⟨fun z => ⟨fun z0 => ⟨fun z1 => ⟨i, rfl, by omega, by unfold inR; omega, st c ?_⟩, fun z1 => ⟨i, rfl, by omega, by unfold inR; omega, st b ?_⟩⟩, fun z0 => ⟨i, rfl, by omega, by unfold inR; omega, st a ?_⟩⟩, fun z => ⟨i, rfl, by omega, by unfold inR; omega, st 0 ?_⟩⟩
        · obtain rfl : i = 2 := by omega
          unfold args
          rw [if_pos ⟨z, by decide⟩]
          rfl
        · obtain rfl : i = 1 := by omega
          unfold args
          rw [if_pos ⟨z, by decide⟩]
          rfl
        · obtain rfl : i = 0 := by omega
          unfold args
          rw [if_pos ⟨z, by decide⟩]
          rfl
        · unfold args
          rw [if_neg (fun y => z y.1)]
    exact loop 40 0 g0 rfl (fun _ _ => rfl) rfl R0 (fun j hj => absurd hj (Nat.not_lt_zero _))
  · have hRR : RR st r a b c fuel = (2, 3, -4, (fun _ => 0, fuel, sN st, sW st, 0)) := if_pos hb
    rw [hRR] at q
    refine sX9_refuses_0 ?_
    have e25 : (hI (hI (hI (hI g0 0 25 3) 0 28 (-4)) 0 26 0) 0 29 1).2.1 0 25 = 3 := by
      rw [hI_at, if_neg (by omega), hI_at, if_neg (by omega), hI_at, if_neg (by omega), hI_at, if_pos ⟨rfl, rfl⟩]
    have i3 : ∀ j, j ≠ 25 → j ≠ 26 → j ≠ 28 → j ≠ 29 → (hI (hI (hI (hI g0 0 25 3) 0 28 (-4)) 0 26 0) 0 29 1).2.1 0 j = g0.2.1 0 j := fun j h1 h2 h3 h4 => by
      rw [hI_at, if_neg (by omega), hI_at, if_neg (by omega), hI_at, if_neg (by omega), hI_at, if_neg (by omega)]
    have i4 : ∀ j, j = 13 ∨ 37 ≤ j → g0.2.1 0 j = g.2.1 0 j := fun j hj => by
      rw [i0, if_neg (by omega), if_neg (by omega), if_neg (by omega), if_neg (by omega), if_neg (by omega), if_neg (by omega), if_neg (by omega), if_neg (by omega)]
    rw [e25]
    refine q _ ⟨?_, ⟨fun s hs => ?_, fun j hj => ?_, ⟨?_, ?_, ?_, ?_, ?_⟩, ?_⟩, ?_⟩
    · exact ((((nf.I (h := g0) (z := 3) (k := 25) (by omega)).tr (nf.I (by omega))).tr (nf.I (by omega))).tr (nf.I (by omega))).rm R0
    · show g0.1 5 s = sN st s
      rw [a0]
      exact R.2.1.1 s hs
    · show g0.1 8 j = sW st j
      rw [a0]
      exact R.2.1.2.1 j hj
    · rw [hI_at, if_neg (by omega), hI_at, if_pos ⟨rfl, rfl⟩]; rfl
    · rw [i3 24 (by decide) (by decide) (by decide) (by decide), i0]
      show 0 = fuel - fuel
      omega
    · rw [i3 27 (by decide) (by decide) (by decide) (by decide), i0]; rfl
    · rw [i3 31 (by decide) (by decide) (by decide) (by decide), i0]
      show (if (1 : Int) = 0 then 0 else _) = (-4 : Int)
      rw [if_neg (by decide), hI_at, if_neg (by omega), hI_at, if_neg (by omega), hI_at, if_pos ⟨rfl, rfl⟩]
    · rw [i3 30 (by decide) (by decide) (by decide) (by decide), i0]
      show g.2.1 0 30 = sQ st 4 + (fuel - fuel)
      omega
    · have l0 : LM (sL st) g := R.2.1.2.2.2
      exact l0.kp (fun j hj => by rw [i3 j (by omega) (by omega) (by omega) (by omega)]; exact i4 j (by omega)) (by show g0.1 27 = g.1 27; rw [a0])
    · have m0 : MP (sU st) g := R.2.2
      exact m0.kp (by rw [i3 13 (by decide) (by decide) (by decide) (by decide)]; exact i4 13 (Or.inl rfl)) (by show g0.1 19 = g.1 19; rw [a0]) (by show g0.1 20 = g.1 20; rw [a0]) (by show g0.1 21 = g.1 21; rw [a0])
theorem sim_run (w : WS st) (r a b c fuel : Int) : Sim st mX8_run mX9_run [pI r, pI a, pI b, pI c, pI fuel] := by
  intro h g R M
  by_cases ok : 0 ≤ r ∧ r < (rt (sT st) : Int)
  · by_cases hf : 0 ≤ fuel ∧ fuel ≤ 2000
    · obtain ⟨k, hk1, hk2, hk3⟩ := m_routI w.1 M.1 ok
      have e12 : h.2.1 19 12 = sQ st 4 := R.2.1.2.2.1.2.2.2.2
      have e30 : g.2.1 0 30 = sQ st 4 := M.2.1.2.2.1.2.2.2.2
      by_cases hq : sQ st 4 < 60000
      · refine ⟨rnC (RR st r a b c fuel), _, rn_ws (a := a) (b := b) (c := c) w ok hf hq, sX8_run_0 (c_isRoutine R.1 r ⟨fun z => absurd ok (b2_0.mp z), fun _ => ⟨fun z => absurd z (by omega), fun _ => ⟨fun _ => ?_, fun z => absurd hf.2 z⟩⟩⟩), m_run w M hk1 hk2 ok hf hq (fun _ => trivial) (fun g' R' => ⟨rfl, R'⟩)⟩
        exact sX2_isSpent_0 ⟨fun _ => ⟨fun _ => c_start w R ok hf hq (fun h' R' => ⟨rfl, R'⟩), fun z => absurd rfl z⟩, fun z => absurd (by rw [e12]; exact hq) z⟩
      · refine ⟨-3, st, w, sX8_run_0 (c_isRoutine R.1 r ⟨fun z => absurd ok (b2_0.mp z), fun _ => ⟨fun z => absurd z (by omega), fun _ => ⟨fun _ => ?_, fun z => absurd hf.2 z⟩⟩⟩), sX9_run_0 (m_isRoutine M.1 r ⟨fun z => absurd ok (b2_0.mp z), fun _ => m_in _ _ _ ⟨fun _ => ⟨fun z => absurd (by rw [e30] at z; exact z) hq, fun _ => ⟨rfl, M⟩⟩, fun z => absurd hf (b2_0.mp z)⟩⟩)⟩
        exact sX2_isSpent_0 ⟨fun z => absurd (by rw [e12] at z; exact z) hq, fun _ => ⟨fun z => absurd z (by decide), fun _ => ⟨rfl, R⟩⟩⟩
    · refine ⟨-1, st, w, sX8_run_0 (c_isRoutine R.1 r ⟨fun z => absurd ok (b2_0.mp z), fun _ => ⟨fun z => ⟨rfl, R⟩, fun z => ⟨fun z2 => absurd ⟨by omega, z2⟩ hf, fun _ => ⟨rfl, R⟩⟩⟩⟩), sX9_run_0 (m_isRoutine M.1 r ⟨fun z => absurd ok (b2_0.mp z), fun _ => m_in _ _ _ ⟨fun z => absurd (b2_n0.mp z) hf, fun _ => ⟨rfl, M⟩⟩⟩)⟩
  · exact ⟨-1, st, w, sX8_run_0 (c_isRoutine R.1 r ⟨fun _ => ⟨rfl, R⟩, fun z => absurd (b2_n0.mp z) ok⟩), sX9_run_0 (m_isRoutine M.1 r ⟨fun _ => ⟨rfl, M⟩, fun z => absurd (b2_n0.mp z) ok⟩)⟩
end RU
