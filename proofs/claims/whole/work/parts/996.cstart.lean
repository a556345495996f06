/-! RUN: the class starts a run -/
section CSt
variable {st : St} {P : Int → Hp → Prop}
noncomputable def RR (st : St) (r a b c fuel : Int) : RS := if bdI (sT st) r = -4 then (2, 3, -4, (fun _ => 0, fuel, sN st, sW st, 0)) else E (sT st) 200000 1 false (bdI (sT st) r).toNat (args (prI (sT st) r) [a, b, c], fuel, sN st, sW st, max 0 (((0 : Nat) : Int) + 1))
def rnS (st : St) (fuel : Int) (rs : RS) : St := (sT st, mC rs.2.2.2, mR rs.2.2.2, sU st, qf (if rs.1 = 2 then 0 else rs.2.1) (fuel - mL rs.2.2.2) (mO rs.2.2.2) (if rs.1 = 2 then rs.2.2.1 else -4) (sQ st 4 + (fuel - mL rs.2.2.2)), sL st)
def rnC (rs : RS) : Int := if rs.1 = 2 then rs.2.1 else 0
def ff (h h' : Hp) : Prop := (∀ a, a < 9 ∨ (13 < a ∧ a < 19) ∨ 27 < a → h'.1 a = h.1 a ∧ h'.2.1 a = h.2.1 a) ∧ h'.2.2 = h.2.2 ∧ h'.2.1 19 12 = h.2.1 19 12
theorem ff.rf {h : Hp} : ff h h := ⟨fun _ _ => ⟨rfl, rfl⟩, rfl, rfl⟩
theorem ff.tr {h h1 h2 : Hp} (x : ff h h1) (y : ff h1 h2) : ff h h2 := ⟨fun a ha => ⟨(y.1 a ha).1.trans (x.1 a ha).1, (y.1 a ha).2.trans (x.1 a ha).2⟩, y.2.1.trans x.2.1, y.2.2.trans x.2.2⟩
theorem ff.f12 {h h1 : Hp} (x : F12 h h1) : ff h h1 := ⟨fun a ha => x.1.1 a (by omega), x.1.2, x.2⟩
theorem ff.wk {h h1 : Hp} (x : fr 9 13 h h1) : ff h h1 := ⟨fun a ha => x.1 a (by omega), x.2, by rw [x.i (by decide)]⟩
theorem RR_ok (w : WS st) {r a b c fuel : Int} (hr : 0 ≤ r ∧ r < (rt (sT st) : Int)) (hf : 0 ≤ fuel ∧ fuel ≤ 2000) : okR (sT st) fuel (RR st r a b c fuel) ∧ wy (RR st r a b c fuel) := by
  unfold RR
  split
  · exact ⟨ok2 (by decide) ⟨hf.1, w.2.2.2.1⟩ (Int.le_refl _), fun _ => by show (3 : Int) ≠ 0; decide⟩
  · rename_i hb
    refine ⟨?_, E_wy _ _ _ _ _⟩
    have hal : al (sT st) (bdI (sT st) r) := by
      have e : bdI (sT st) r = bd (sT st) r.toNat := if_pos hr
      rw [e] at hb ⊢
      exact ((w.1.2.2.1 _ (by omega)).2.2.resolve_left hb).1
    obtain ⟨n, hn⟩ := Int.eq_ofNat_of_zero_le hal.1
    rw [hn] at hal ⊢
    rw [Int.toNat_natCast]
    obtain ⟨b1, b2⟩ := al_n.mp hal
    have h40 := rk_pos w.1 b1 b2
    exact E_ok w.1 200000 1 false _ _ b1 b2 (fun q => by cases q) ⟨hf.1, w.2.2.2.1⟩ (by show 50 * fuel + _ < _; omega)
theorem rn_ws (w : WS st) {r a b c fuel : Int} (hr : 0 ≤ r ∧ r < (rt (sT st) : Int)) (hf : 0 ≤ fuel ∧ fuel ≤ 2000) (hq : sQ st 4 < 60000) : WS (rnS st fuel (RR st r a b c fuel)) := by
  obtain ⟨⟨_, o2, o3⟩, _⟩ := RR_ok (a := a) (b := b) (c := c) w hr hf
  have g := o2.1
  refine ⟨w.1, w.2.1, w.2.2.1, o2.2, ?_, w.2.2.2.2.2⟩
  have := w.2.2.2.2.1
  show 0 ≤ sQ st 4 + (fuel - mL _) ∧ sQ st 4 + (fuel - mL _) ≤ 62000
  omega
/-- the class is done -/
theorem c_done (w : WS st) {h h1 : Hp} {fuel v6 : Int} {rs : RS} {T : Int} (R : RelC st h) (hf : 0 ≤ fuel ∧ fuel ≤ 2000) (hq : sQ st 4 < 60000) (o : okR (sT st) fuel rs) (S : SR (sT st) rs.2.2.2 h1) (f : ff h h1) (ht : h1.2.1 19 9 = T) (h13 : h1.2.1 19 13 = rnC rs) (h17 : h1.2.1 19 17 = if rs.1 = 2 then rs.2.2.1 else -4) (h14 : h1.2.1 19 14 = if rs.1 = 2 then 0 else rs.2.1) (hs : T ≤ 0 ∨ rnC rs ≠ 0) (q : ∀ h', RelC (rnS st fuel rs) h' → P (rnC rs) h') : LO fuel P v6 h1 := by
  have g := o.2.1.1
  have g2 := o.2.2
  have hw4 := w.2.2.2.2.1
  have e12 : h1.2.1 19 12 = sQ st 4 := f.2.2.trans R.2.1.2.2.1.2.2.2.2
  refine c_end (T := 0) (h0 := h1) S F12.rf h13 h17 h14 e12 (by rw [ht]; exact hs) (by unfold inR; omega) (by unfold inR; omega) (fun h' _ ea fr' e14 e15 e16 e17 e12' => q h' ⟨S.1.kp fr' (Or.inl (by decide)), ⟨fun s hs => by rw [ea 20]; exact S.2.2.1 s hs, fun i hi => by rw [ea 21]; exact S.2.2.2.1 i hi, ⟨e14, e15, e16, e17, e12'⟩, ?_⟩, ?_⟩)
  · have l0 : LC (sL st) h := R.2.1.2.2.2
    have e40 : h'.2.1 40 = h.2.1 40 := (fr'.i (by decide)).trans (f.1 40 (by decide)).2
    have e44 : h'.1 44 = h.1 44 := (fr'.a (by decide)).trans (f.1 44 (by decide)).1
    exact l0.kp e40 e44
  · have c0 : CP (sU st) h := R.2.2
    have c1 : CP (sU st) h1 := c0.kp (f.1 38 (by decide)).2 f.2.1 (fun a ha => f.1 a (by omega))
    exact c1.fw fr' (Or.inl (by decide))
theorem c_start (w : WS st) {h : Hp} {r a b c fuel : Int} (R : RelC st h) (hr : 0 ≤ r ∧ r < (rt (sT st) : Int)) (hf : 0 ≤ fuel ∧ fuel ≤ 2000) (hq : sQ st 4 < 60000) (q : ∀ h', RelC (rnS st fuel (RR st r a b c fuel)) h' → P (rnC (RR st r a b c fuel)) h') : Cl shC mX2_start [pR 19, pI r, pI a, pI b, pI c, pI fuel] h P := by
  have hm := w.1.m
  obtain ⟨ok, wyk⟩ := RR_ok (a := a) (b := b) (c := c) w hr hf
  refine sX2_start_0 ?_
  have x0 : F12 h (hI (hI (hI (hI (hI (hI (hI h 19 9 0) 19 10 0) 19 11 fuel) 19 13 0) 19 14 0) 19 16 0) 19 17 (-4)) := ((((((F12.rf.I (by decide)).I (by decide)).I (by decide)).I (by decide)).I (by decide)).I (by decide)).I (by decide)
  have i0 : ∀ k, (hI (hI (hI (hI (hI (hI (hI h 19 9 0) 19 10 0) 19 11 fuel) 19 13 0) 19 14 0) 19 16 0) 19 17 (-4)).2.1 19 k = if k = 17 then -4 else if k = 16 then 0 else if k = 14 then 0 else if k = 13 then 0 else if k = 11 then fuel else if k = 10 then 0 else if k = 9 then 0 else h.2.1 19 k := fun k => by
    rw [hI_at, hI_at, hI_at, hI_at, hI_at, hI_at, hI_at]
    simp only [true_and]
  have a0 : (hI (hI (hI (hI (hI (hI (hI h 19 9 0) 19 10 0) 19 11 fuel) 19 13 0) 19 14 0) 19 16 0) 19 17 (-4)).1 = h.1 := rfl
  generalize hI (hI (hI (hI (hI (hI (hI h 19 9 0) 19 10 0) 19 11 fuel) 19 13 0) 19 14 0) 19 16 0) 19 17 (-4) = h0 at *
  have R0 : RC (sT st) h0 := R.1.kp x0.1 (Or.inl (by decide))
  -- what the routines use is found
  have loop : ∀ (d i : Nat) (h1 : Hp), i + d = 10 → ff h h1 → RC (sT st) h1 → (∀ k, h1.2.1 19 k = h0.2.1 19 k) → (∀ s, h1.1 20 s = h.1 20 s) → (∀ s, h1.1 21 s = h.1 21 s) → (∀ j, j < i → h1.1 22 j = uses (sT st) (j : Int)) → Ok shC 0 0 mX2_start 40 [some (pR 19), some (pI r), some (pI a), some (pI b), some (pI c), some (pI fuel), some (pI (i : Int)), none] [] h1 P := by
    intro d
    induction d with
    | zero =>
      intro i h1 hi f1 R1 e19 e20 e21 e22
      have S0 : SC (sT st) 0 (fun k => h1.1 23 k, fuel, sN st, sW st, 0) h1 := by
        refine ⟨⟨R1, ?_, fun s hs => (e20 s).trans (R.2.1.1 s hs), fun i hi => (e21 i).trans (R.2.1.2.1 i hi), ?_⟩, fun k _ => ?_, ?_, ?_, ?_, ?_, fun j hj => e22 j (by omega)⟩
        · rw [e19, i0]; rfl
        · rw [e19, i0]; rfl
        · rw [show 40 * (0 - 1) + k = k by omega]
        · rw [e19, i0]; rfl
        · rw [e19, i0]; rfl
        · rw [e19, i0]; rfl
        · rw [e19, i0]; rfl
      have t0 : h1.2.1 19 9 = 0 := by rw [e19, i0]; rfl
      refine sX2_start_40 ⟨fun _ => c_isMissing R1 r ⟨fun c0 => ?_, fun c0 => ?_⟩, fun z => absurd (by omega) z⟩
      · have hb := b2_0.mp c0
        have hRR : RR st r a b c fuel = E (sT st) 200000 1 false (bdI (sT st) r).toNat (args (prI (sT st) r) [a, b, c], fuel, sN st, sW st, max 0 (((0 : Nat) : Int) + 1)) := if_neg hb
        refine c_paramsOf R1 r (c_openCall (vs := [a, b, c]) S0 (by decide) (fun _ => rfl) (fun _ => rfl) (fun _ => rfl) (fun h2 S2 K2 _ n24 n9 => ?_))
        have S2 : SC (sT st) 1 (args (prI (sT st) r) [a, b, c], fuel, sN st, sW st, max 0 (((0 : Nat) : Int) + 1)) h2 := S2
        refine c_bodyOf S2.1.1 r ?_
        have hal : al (sT st) (bdI (sT st) r) := by
          have e : bdI (sT st) r = bd (sT st) r.toNat := if_pos hr
          rw [e] at hb ⊢
          exact ((w.1.2.2.1 _ (by omega)).2.2.resolve_left hb).1
        obtain ⟨n, hn⟩ := Int.eq_ofNat_of_zero_le hal.1
        rw [hn, Int.toNat_natCast] at hRR
        rw [hn] at hal ⊢
        obtain ⟨b1, b2'⟩ := al_n.mp hal
        have h40 := rk_pos w.1 b1 b2'
        have hz := sz_600 w.1 n
        have f2 : ff h h2 := f1.tr (ff.f12 (K2 0).1)
        rw [hRR] at q ok wyk
        -- a value at the end
        have val : (E (sT st) 200000 1 false n (args (prI (sT st) r) [a, b, c], fuel, sN st, sW st, max 0 (((0 : Nat) : Int) + 1))).1 ≠ 2 → ∀ h' v6, SK 0 1 h2 h' → SC (sT st) 1 (E (sT st) 200000 1 false n (args (prI (sT st) r) [a, b, c], fuel, sN st, sW st, max 0 (((0 : Nat) : Int) + 1))).2.2.2 h' → h'.2.1 19 9 = 0 → Cl shC mX2_deliver [pR 19, pI (E (sT st) 200000 1 false n (args (prI (sT st) r) [a, b, c], fuel, sN st, sW st, max 0 (((0 : Nat) : Int) + 1))).2.1] h' (fun _ h'' => LO fuel P v6 h'') := fun e h' v6 K' S' ht' => by
          generalize E (sT st) 200000 1 false n (args (prI (sT st) r) [a, b, c], fuel, sN st, sW st, max 0 (((0 : Nat) : Int) + 1)) = rs at *
          refine sX2_deliver_0 ?_
          rw [ht']
          refine ⟨by unfold inR; omega, fun z => absurd z (by decide), fun _ => ?_⟩
          refine c_done w R hf hq ok (S'.1.I (by decide)) (f2.tr ((ff.f12 K'.1).tr (ff.f12 (F12.rf.I (by decide))))) (T := 0) (by rw [hI_at, if_neg (by omega)]; exact ht') ?_ ?_ ?_ (Or.inl (Int.le_refl _)) q
          · rw [hI_at, if_neg (by omega), rnC, if_neg e]; exact S'.2.2.2.1
          · rw [hI_at, if_neg (by omega), if_neg e]; exact S'.2.2.2.2.2.1
          · rw [hI_at, if_pos ⟨rfl, rfl⟩, if_neg e]
        refine (c_ev w.1 200000 1 false n _ 0 0 h2 0 b1 b2' (fun q => by cases q) ⟨hf.1, w.2.2.2.1⟩ (by show 50 * fuel + _ < _; omega) (by decide) (by decide) (by omega) (Nat.le_refl _) S2 (by rw [n24]; rfl) (Int.le_refl _) (by show 0 + 3000 * fuel + _ ≤ _; omega) ⟨fun e h' v6 K' S' ht' _ _ => val (by omega) h' v6 K' S' ht', fun e h' v6 K' S' _ _ => ?_, fun e h' v6 K' S' _ _ => ?_⟩).1 rfl (by rw [n9, t0]; rfl)
        · refine sX2_leaveWith_30 ⟨fun _ => ⟨by unfold inR; omega, ?_⟩, fun z => absurd (by decide) z⟩
          exact val (by omega) _ v6 (K'.I (by decide)) (S'.top _) (by rw [hI_at, if_pos ⟨rfl, rfl⟩]; rfl)
        · generalize E (sT st) 200000 1 false n (args (prI (sT st) r) [a, b, c], fuel, sN st, sW st, max 0 (((0 : Nat) : Int) + 1)) = rs at *
          refine sX2_refuse_0 ?_
          refine c_done w R hf hq ok ((S'.1.I (by decide)).I (by decide)) (f2.tr ((ff.f12 K').tr (ff.f12 ((F12.rf.I (by decide)).I (by decide))))) (T := h'.2.1 19 9) (by rw [hI_at, if_neg (by omega), hI_at, if_neg (by omega)]) ?_ ?_ ?_ (Or.inr (by rw [rnC, if_pos e]; exact wyk e)) q
          · rw [hI_at, if_neg (by omega), hI_at, if_pos ⟨rfl, rfl⟩, rnC, if_pos e]
          · rw [hI_at, if_pos ⟨rfl, rfl⟩, if_pos e]
          · rw [hI_at, if_neg (by omega), hI_at, if_neg (by omega), if_pos e]; exact S'.2
      · have hb := b2_n0.mp c0
        have hRR : RR st r a b c fuel = (2, 3, -4, (fun _ => 0, fuel, sN st, sW st, 0)) := if_pos hb
        rw [hRR] at q ok
        have S1 : SR (sT st) (fun _ => 0, fuel, sN st, sW st, 0) h1 := S0.1
        refine sX2_refuse_0 ?_
        refine c_done (rs := (2, 3, -4, (fun _ => 0, fuel, sN st, sW st, 0))) w R hf hq ok ((S1.I (by decide)).I (by decide)) (f1.tr (ff.f12 ((F12.rf.I (by decide)).I (by decide)))) (T := 0) (by rw [hI_at, if_neg (by omega), hI_at, if_neg (by omega)]; exact t0) ?_ ?_ ?_ (Or.inl (Int.le_refl _)) q
        · rw [hI_at, if_neg (by omega), hI_at, if_pos ⟨rfl, rfl⟩]; rfl
        · rw [hI_at, if_pos ⟨rfl, rfl⟩]; rfl
        · rw [hI_at, if_neg (by omega), hI_at, if_neg (by omega)]; exact S0.2.2.2.2.1
    | succ d ih =>
      intro i h1 hi f1 R1 e19 e20 e21 e22
      refine sX2_start_40 ⟨fun z => absurd z (by omega), fun _ => c_usesOf w.1 R1 _ (fun h2 x2 => ⟨i, rfl, by omega, by unfold inR; omega, ?_⟩)⟩
      have R2 := R1.wk isW9 x2
      refine ih (i + 1) _ (by omega) (f1.tr ((ff.wk x2).tr (ff.f12 (F12.rf.A ⟨by decide, by decide⟩)))) (R2.kp (fr.rf.A (lo := 19) (hi := 27) ⟨by decide, by decide⟩) (Or.inl (by decide))) (fun k => ?_) (fun s => ?_) (fun s => ?_) (fun j hj => ?_)
      · rw [hA_i, x2.i (by decide)]
        exact e19 k
      · rw [hA_at, if_neg (by omega), x2.a (by decide)]
        exact e20 s
      · rw [hA_at, if_neg (by omega), x2.a (by decide)]
        exact e21 s
      · rw [hA_at]
        by_cases e : j = i
        · rw [if_pos ⟨rfl, e⟩, e]
        · rw [if_neg (fun z => e z.2), x2.a (by decide)]
          exact e22 j (by omega)
  exact loop 10 0 h0 rfl (ff.f12 x0) R0 (fun _ => rfl) (fun s => by rw [a0]) (fun s => by rw [a0]) (fun j hj => absurd hj (Nat.not_lt_zero _))
end CSt
