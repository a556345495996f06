/-! RUN: the class, whatever the step -/
section CV
variable {t : TV} {fuel : Int} {P : Int → Hp → Prop}
theorem prI_ar (w : WF t) {s : Nat} (hs : s < mk t) (hk6 : kd t s = 6) : prI t (nm t s) = (ar t s : Int) ∧ ar t s ≤ 3 ∧ 0 ≤ nm t s ∧ nm t s < (rt t : Int) := by
  have hn := (w.nmr hs (by rw [hk6]; decide)).2 hk6
  have hp := w.2.2.1 (nm t s).toNat (by omega)
  have e : prI t (nm t s) = pr t (nm t s).toNat := if_pos hn
  have ea : ar t s = (pr t (nm t s).toNat).toNat := by
    unfold ar
    rw [hk6, if_neg (by decide), if_neg (by decide), if_neg (by decide), if_pos rfl]
  rw [e, ea]
  omega
theorem rtn_1 {r : RS} {f : Nat → Int} (h : r.1 ≤ 1) : rtn r f = (0, r.2.1, 0, (f, r.2.2.2.2)) := if_pos h
theorem rtn_2 {r : RS} {f : Nat → Int} (h : ¬ r.1 ≤ 1) : rtn r f = r := if_neg h
/-- the parts of a call have come: the call is made -/
theorem c_enter {n T l fl s : Nat} {h0 h : Hp} {B v6 : Int} {σ : MS} {vs : List Int} (w : WF t) (IH : CE t fuel P n) (hs : s < mk t) (hk6 : kd t s = 6) (G : GM t σ) (hN : 50 * mL σ < (n : Int)) (hvs : vs.length = ar t s) (hl1 : 1 ≤ l) (hl2 : l ≤ 12) (hTl : T + 1 ≤ 40 * l) (x : SK T l h0 h) (S : SC t l σ h) (ht : h.2.1 19 9 = (T : Int) + 1) (fv : FV T s vs h) (hv : 0 ≤ v6) (hb : v6 + 2 + 3000 * mL σ ≤ B) (hB9 : B ≤ 9000000)
    (k : KS t fuel P T l fl h0 B (if bdI t (nm t s) = -4 then (2, 3, (s : Int), σ) else if mL σ < 4 + uses t (nm t s) then (2, 4, (s : Int), σ) else if ¬ l < 12 then (2, 5, (s : Int), tick s (pay (4 + uses t (nm t s)) σ))
      else rtn (E t n (l + 1) false (bdI t (nm t s)).toNat (args (prI t (nm t s)) vs, mL σ - (4 + uses t (nm t s)), mC (tick s σ), mR σ, max (mO σ) ((l : Int) + 1))) (mN σ))) : LO fuel P v6 h := by
  have hk : kd t s ≠ -1 := by rw [hk6]; decide
  have hm := w.m
  have hT : T < 480 := by omega
  have g0 := G.1
  obtain ⟨epr, ha3, hn0, hn1⟩ := prI_ar w hs hk6
  have hu := w.us (nm t s)
  have rf : ∀ {v z : Int} {σ' : MS} {h' : Hp}, KS t fuel P T l fl h0 B (2, v, z, σ') → F12 h h' → SZ t σ' h' → mL σ' ≤ mL σ → Cl shC mX2_refuse [pR 19, pI v, pI z] h' (fun _ h1 => AQ fuel P (v6 + 1) (-4) h1) := fun {v z σ' h'} k y S' hl' =>
    (k.2.2 rfl h' (v6 + 1) (x.1.tr y) S' (by omega) (by show v6 + 1 + 3000 * mL σ' ≤ B; omega)).mono (fun _ _ y => AQ.fin y)
  refine c_lp ht S.2.2.2.1 hT ⟨hv, by omega⟩ (c_adv w S.1.1 hT hs hk fv.1 (fun q => absurd hk6 (by omega)) (fun _ => ?_) (fun q => absurd hk6 (by omega)) (fun _ q => absurd hk6 q))
  refine sX2_advanceCall_0 (c_numberOf S.1.1 _ ?_)
  rw [nmI_at hs]
  refine c_paramsOf S.1.1 _ ⟨T, rfl, hT, ?_⟩
  rw [epr, fv.2.1, hvs]
  refine ⟨fun _ => ⟨fun q => absurd rfl q, fun _ => ?_⟩, fun q => absurd (Int.le_refl _) q⟩
  refine sX2_enter_0 (c_isMissing S.1.1 _ ⟨fun c0 => ?_, fun c0 => ?_⟩)
  · have hbd := b2_0.mp c0
    rw [if_neg hbd] at k
    refine ⟨fun q => absurd q (by omega), fun _ => ⟨fun q => absurd q (by omega), fun _ => ⟨(nm t s).toNat, by omega, by omega, ?_⟩⟩⟩
    rw [S.2.2.2.2.2.2 _ (by omega), show (((nm t s).toNat : Nat) : Int) = nm t s by omega]
    refine ⟨by unfold inR; omega, sX2_pay_0 ?_⟩
    rw [S.1.2.1]
    refine ⟨fun cm => ⟨by unfold inR; omega, fun _ => ?_, fun q => absurd q (by decide)⟩, fun cm => ?_⟩
    · rw [if_neg (by omega)] at k
      refine sX2_countOne_0 ⟨fun z => absurd z (by omega), fun _ => ⟨fun z => absurd z (by omega), fun _ => ⟨s, rfl, by omega, ?_⟩⟩⟩
      have S1 := (S.pay (4 + uses t (nm t s))).tick (s := s) (by omega)
      have K1 : ∀ T, SK T l h (hA (hI h 19 11 (mL σ - (4 + uses t (nm t s)))) 20 s (wr ((hI h 19 11 (mL σ - (4 + uses t (nm t s)))).1 20 s + 1))) := fun T => (SK.rf.I (by decide)).A (Or.inl (Or.inl rfl))
      have n9 : (hA (hI h 19 11 (mL σ - (4 + uses t (nm t s)))) 20 s (wr ((hI h 19 11 (mL σ - (4 + uses t (nm t s)))).1 20 s + 1))).2.1 19 9 = (T : Int) + 1 := by
        rw [hA_i, hI_at, if_neg (by omega)]
        exact ht
      generalize hA (hI h 19 11 (mL σ - (4 + uses t (nm t s)))) 20 s (wr ((hI h 19 11 (mL σ - (4 + uses t (nm t s)))).1 20 s + 1)) = h1 at *
      have fv1 := fv.sk (K1 (T + 1)) (by omega)
      rw [S1.2.2.1]
      refine ⟨fun cl => ⟨by unfold inR; omega, c_paramsOf S1.1.1 _ ⟨4 * T, by omega, by omega, by unfold inR; omega, 4 * T + 1, by omega, by omega, by unfold inR; omega, 4 * T + 2, by omega, by omega, ?_⟩⟩, fun cl => ?_⟩
      · have hl : l < 12 := by omega
        rw [if_neg (fun q => q hl)] at k
        rw [epr] at k ⊢
        refine c_openCall (vs := vs) S1 hl (fun q => fv1.2.2 0 _ (gD (by omega))) (fun q => fv1.2.2 1 _ (gD (by omega))) (fun q => fv1.2.2 2 _ (gD (by omega))) (fun h2 S2 K2 n23 n24 n92 => ⟨fun q => absurd q (by decide), fun _ => ?_⟩)
        have S2 : SC t (l + 1) (args (ar t s) vs, mL σ - (4 + uses t (nm t s)), mC (tick s σ), mR σ, max (mO σ) ((l : Int) + 1)) h2 := S2
        refine c_bodyOf S2.1.1 _ ?_
        have hbe : bdI t (nm t s) = bd t (nm t s).toNat := if_pos ⟨hn0, hn1⟩
        have hal : al t (bdI t (nm t s)) := by
          rw [hbe] at hbd ⊢
          exact ((w.2.2.1 _ (by omega)).2.2.resolve_left hbd).1
        obtain ⟨b, hbn⟩ := Int.eq_ofNat_of_zero_le hal.1
        rw [hbn, Int.toNat_natCast] at k
        rw [hbn] at hal ⊢
        obtain ⟨b1, b2'⟩ := al_n.mp hal
        have h40 := rk_pos w b1 b2'
        have hzb := sz_600 w b
        have G2 : GM t (args (ar t s) vs, mL σ - (4 + uses t (nm t s)), mC (tick s σ), mR σ, max (mO σ) ((l : Int) + 1)) := ⟨by show 0 ≤ mL σ - _; omega, (G.tick hs).2⟩
        have ok := E_ok w n (l + 1) false b _ b1 b2' (fun q => by cases q) G2 (by show 50 * (mL σ - _) + _ < _; omega)
        have fv2 := fv1.sk (K2 (T + 1)) (by omega)
        have K12 : ∀ T, SK T l h h2 := fun T => (K1 T).tr (K2 T) (Nat.le_refl _) (Nat.le_refl _)
        have nam : ∀ k, k < 40 → h2.1 23 (40 * (l - 1) + k) = mN σ k := fun k hk => by
          rw [n23 _ (by omega)]
          exact S1.2.1 k hk
        obtain ⟨_, okG, okL⟩ := ok
        have okL : mL (E t n (l + 1) false b (args (ar t s) vs, mL σ - (4 + uses t (nm t s)), mC (tick s σ), mR σ, max (mO σ) ((l : Int) + 1))).2.2.2 ≤ mL σ - (4 + uses t (nm t s)) := okL
        have g2 := okG.1
        -- the body's value comes to the call
        have back : (E t n (l + 1) false b (args (ar t s) vs, mL σ - (4 + uses t (nm t s)), mC (tick s σ), mR σ, max (mO σ) ((l : Int) + 1))).1 ≤ 1 → ∀ h' v', SK (T + 1) (l + 1) h2 h' → SC t (l + 1) (E t n (l + 1) false b (args (ar t s) vs, mL σ - (4 + uses t (nm t s)), mC (tick s σ), mR σ, max (mO σ) ((l : Int) + 1))).2.2.2 h' → h'.2.1 19 9 = (T : Int) + 1 → 0 ≤ v' → v' + 3000 * mL (E t n (l + 1) false b (args (ar t s) vs, mL σ - (4 + uses t (nm t s)), mC (tick s σ), mR σ, max (mO σ) ((l : Int) + 1))).2.2.2 ≤ v6 + 1 + 3000 * (mL σ - (4 + uses t (nm t s))) + 5 * (sz t b : Int) → Cl shC mX2_deliver [pR 19, pI (E t n (l + 1) false b (args (ar t s) vs, mL σ - (4 + uses t (nm t s)), mC (tick s σ), mR σ, max (mO σ) ((l : Int) + 1))).2.1] h' (fun _ h'' => LO fuel P v' h'') := fun e h' v' y S' ht' hv' hb' => by
          rw [rtn_1 e] at k
          generalize E t n (l + 1) false b (args (ar t s) vs, mL σ - (4 + uses t (nm t s)), mC (tick s σ), mR σ, max (mO σ) ((l : Int) + 1)) = r at *
          have fv' := fv2.sk (y.lo (l := l) (Nat.le_refl _) (Nat.le_succ _)) (by omega)
          refine c_deliver ht' hT fv' (by omega) (fun fv3 => ?_)
          have S3 := (S'.A (a := 27) (i := 4 * T + vs.length) (z := r.2.1) ⟨by decide, by decide⟩).A (a := 26) (i := T) (z := (vs.length : Int) + 1) ⟨by decide, by decide⟩
          have K3 : SK T l h0 (hA (hA h' 27 (4 * T + vs.length) r.2.1) 26 T ((vs.length : Int) + 1)) := ((x.tr ((K12 T).tr y (Nat.le_succ _) (Nat.le_succ _)) (Nat.le_refl _) (Nat.le_refl _)).A (Or.inr (Or.inr (Or.inl ⟨rfl, by omega⟩)))).A (Or.inr (Or.inl ⟨Or.inr rfl, Nat.le_refl _⟩))
          have n3 : ∀ z, z < 40 * l → (hA (hA h' 27 (4 * T + vs.length) r.2.1) 26 T ((vs.length : Int) + 1)).1 23 z = h2.1 23 z := fun z hz => by
            rw [hA_at, if_neg (by omega), hA_at, if_neg (by omega)]
            exact y.2.2.2 z (by omega)
          have ht3 : (hA (hA h' 27 (4 * T + vs.length) r.2.1) 26 T ((vs.length : Int) + 1)).2.1 19 9 = (T : Int) + 1 := ht'
          generalize hA (hA h' 27 (4 * T + vs.length) r.2.1) 26 T ((vs.length : Int) + 1) = h3 at *
          refine c_lp ht3 S3.2.2.2.1 hT ⟨hv', by omega⟩ (c_adv w S3.1.1 hT hs hk fv3.1 (fun q => absurd hk6 (by omega)) (fun _ => ?_) (fun q => absurd hk6 (by omega)) (fun _ q => absurd hk6 q))
          refine sX2_advanceCall_0 (c_numberOf S3.1.1 _ ?_)
          rw [nmI_at hs]
          refine c_paramsOf S3.1.1 _ ⟨T, rfl, hT, ?_⟩
          have e26 : h3.1 26 T = (ar t s : Int) + 1 := by
            rw [fv3.2.1, List.length_append, hvs]
            rfl
          have e27 : h3.1 27 (4 * T + ar t s) = r.2.1 := by
            refine fv3.2.2 (ar t s) _ ?_
            rw [← hvs, List.getElem?_append_right (Nat.le_refl _), Nat.sub_self]
            rfl
          rw [epr, e26, S3.2.2.1]
          refine ⟨fun _ => ⟨fun _ => ⟨by unfold inR; omega, by unfold inR; omega, by unfold inR; omega, 4 * T + ar t s, by omega, by omega, ?_⟩, fun q => absurd q (by omega)⟩, fun q => absurd (by omega) q⟩
          rw [e27]
          have S4 : SC t l (mN σ, r.2.2.2.2) (hI h3 19 10 (((l + 1 : Nat) : Int) - 1)) := by
            obtain ⟨y1, y2, y3, y4, y5, y6, y7⟩ := S3
            have y1' : SR t (mN σ, r.2.2.2.2) h3 := y1
            refine ⟨y1'.I ⟨by decide, by decide⟩, fun k hk => ?_, ?_, ?_, ?_, ?_, y7⟩
            · rw [hI_a, n3 _ (by omega)]
              exact nam k hk
            · rw [hI_at, if_pos ⟨rfl, rfl⟩]; omega
            · rw [hI_at, if_neg (by omega)]; exact y4
            · rw [hI_at, if_neg (by omega)]; exact y5
            · rw [hI_at, if_neg (by omega)]; exact y6
          exact c_fin k (K3.I (by decide)) S4 (by rw [hI_at, if_neg (by omega)]; exact ht3) hT (by omega) (by show v' + 1 + 3000 * mL r.2.2.2 ≤ B; omega)
        refine AQ.beg ((IH (l + 1) false b _ (T + 1) (T + 1) h2 (v6 + 1) b1 b2' (fun q => by cases q) G2 (by show 50 * (mL σ - _) + _ < _; omega) (by omega) (by omega) (by omega) (Nat.le_refl _) S2 (by rw [show l + 1 - 1 = l by omega, n24]; omega) (by omega) (by show v6 + 1 + 3000 * (mL σ - _) + _ ≤ _; omega) ⟨fun e h' v' y a c d f => back (by omega) h' v' y a (by omega) d f, fun e h' v' y a c d => ?_, fun e h' v' y a c d => ?_⟩).1 rfl (by rw [n92, n9]; omega))
        · refine sX2_leaveWith_30 ⟨fun _ => ⟨by unfold inR; omega, ?_⟩, fun q => absurd (by omega) q⟩
          exact back (by omega) _ v' (y.I (by decide)) (a.top _) (by rw [hI_at, if_pos ⟨rfl, rfl⟩]; omega) c d
        · rw [rtn_2 (by omega)] at k
          refine k.2.2 e h' v' (x.1.tr ((K12 T).1.tr y)) a c ?_
          have d : v' + 3000 * mL (E t n (l + 1) false b (args (ar t s) vs, mL σ - (4 + uses t (nm t s)), mC (tick s σ), mR σ, max (mO σ) ((l : Int) + 1))).2.2.2 ≤ v6 + 1 + 3000 * (mL σ - (4 + uses t (nm t s))) + 5 * (sz t b : Int) := d
          omega
      · rw [if_pos (by omega)] at k
        exact (rf k (K1 T).1 S1.z (by show mL σ - _ ≤ mL σ; omega)).mono (fun _ _ y => ⟨fun _ => y, fun q => absurd rfl q⟩)
    · rw [if_pos (by omega)] at k
      exact (rf k F12.rf S.z (Int.le_refl _)).mono (fun _ _ y => ⟨fun q => absurd rfl q, fun _ => ⟨fun _ => y, fun q => absurd rfl q⟩⟩)
  · rw [if_pos (b2_n0.mp c0)] at k
    exact (rf k F12.rf S.z (Int.le_refl _)).mono (fun _ _ y => ⟨fun _ => y, fun q => absurd rfl q⟩)
end CV
