/-! RUN: the class, all kinds together -/
section CZ
variable {t : TV} {fuel : Int} {P : Int → Hp → Prop}
theorem c_ev (w : WF t) : ∀ n, CE t fuel P n := by
  intro n
  induction n with
  | zero =>
    intro l b s σ T fl h v6 hs hk hb8 G hN
    have := G.1
    exact absurd hN (by omega)
  | succ n IH =>
    intro l b s σ T fl h v6 hs hk hb8 G hN hl1 hl2 hTr hfl S hf hv hb k
    have hm := w.m
    have g0 := G.1
    have h6 := sz_600 w s
    have hr := rk_pos w hs hk
    have hT : T < 480 := by omega
    have hkb := w.2.2.2.2.1 s hs
    have hks := w.2.2.2.2.2.1 s hs hk
    have hzs := sz_ch w hs hk
    obtain ⟨hcl, hcg⟩ := chgt w hs hk
    cases b with
    | true => exact ⟨fun q => (by cases q), fun _ ht fv => c_while w IH hs (hb8 rfl) G hN hl1 hl2 hTr hfl S hf hv hb k ht fv⟩
    | false =>
      refine ⟨fun _ ht => ?_, fun q => (by cases q)⟩
      rw [E] at k
      -- all the parts, one after another
      have kid : ∀ p ∈ ch t s, p < mk t ∧ kd t p ≠ -1 ∧ rk t p < rk t s := fun p hp => ⟨(ch_al w hs hk hp).1, (ch_al w hs hk hp).2, rk_ch w hs hk hp⟩
      have ptc : ∀ (j p : Nat), (ch t s)[j]? = some p → j < ar t s ∧ ptI t (s : Int) (j : Int) = (p : Int) := fun j p hp => by
        have h1 := (List.getElem?_eq_some_iff.mp hp).1
        have h2 := hcg j (by omega)
        rw [hp] at h2
        have h3 : p = (pt t s j).toNat := Option.some.inj h2
        have ha : ar t s ≤ 3 := by
          refine ar_le3 ⟨hkb.1, hkb.2.1, fun q => ?_⟩
          have h1 := hks.2.1 q
          have h2 := w.2.2.1 (nm t s).toNat (by omega)
          exact ⟨h1.1, h1.2, h2.1, h2.2.1⟩
        have h4 := (p_of w hs hk (j := j) (by omega) (by omega)).2.2.2
        exact ⟨by omega, by rw [ptI_at hs (by omega), h4, h3]⟩
      have ha3 : (ch t s).length ≤ 3 := by
        rw [hcl]
        refine ar_le3 ⟨hkb.1, hkb.2.1, fun q => ?_⟩
        have h1 := hks.2.1 q
        have h2 := w.2.2.1 (nm t s).toNat (by omega)
        exact ⟨h1.1, h1.2, h2.1, h2.2.1⟩
      refine c_begin w S hs hk ⟨g0, by omega⟩ (fun k6 => ?_) (fun n6 nc h2 S2 K2 n92 => ?_) (fun n6 c => ?_)
      · rw [if_pos k6] at k
        refine c_push S (by omega) (by omega) ht hT (fun h3 S3 K3 ht3 fv3 => ?_)
        have hszs : (szs t (ch t s) : Int) = sz t s - 1 := by omega
        refine c_parts (B := v6 + 3000 * mL σ + 5 * (sz t s : Int)) (B0 := v6 + 3000 * mL σ + 5 * (sz t s : Int) - 2) (M := mL σ) (L0 := ch t s) w IH hs (by omega) ha3 kid (by omega) hl1 hl2 hTr hT hfl (by omega) (by omega) (fun p vs σ' h1 v hp S' ht' fv' hv' hv9 q => ?_) (fun vs σ' h1 v e1 G' hM x S' ht' hf' fv' hv' hb' k' => ?_) (ch t s) [] σ h3 v6 (Nat.zero_add _) (fun i => by rw [List.length_nil, Nat.zero_add]) G (Int.le_refl _) K3 S3 ht3 ((K3.2.2.1 _ (by omega)).trans hf) fv3 hv (by omega) k
        · obtain ⟨j1, j2⟩ := ptc _ _ hp
          obtain ⟨epr, _, _, _⟩ := prI_ar w hs k6
          refine c_lp ht' S'.2.2.2.1 hT ⟨hv', hv9⟩ (c_adv w S'.1.1 hT hs hk fv'.1 (fun z => absurd k6 (by omega)) (fun _ => ?_) (fun z => absurd k6 (by omega)) (fun _ z => absurd k6 z))
          refine sX2_advanceCall_0 (c_numberOf S'.1.1 _ ?_)
          rw [nmI_at hs]
          refine c_paramsOf S'.1.1 _ ⟨T, rfl, hT, ?_⟩
          rw [epr, fv'.2.1]
          refine ⟨fun z => absurd z (by omega), fun _ => c_partOf S'.1.1 _ _ ?_⟩
          rw [j2]
          exact AQ.beg q
        · exact c_enter w IH hs k6 G' (by omega) (by rw [e1, hcl]) hl1 hl2 (by omega) x S' ht' fv' hv' (by omega) (by omega) k'
      · rw [if_neg n6, if_neg nc] at k
        have ht2 : h2.2.1 19 9 = (T : Int) := n92.trans ht
        have hst := stT0_in (kd t s).toNat (by omega)
        have G2 : GM t (tick s (pay (stT 0 (kd t s).toNat) σ)) := (G.pay nc).tick hs
        have l2 : mL (tick s (pay (stT 0 (kd t s).toNat) σ)) = mL σ - stT 0 (kd t s).toNat := rfl
        have nm2 : mN σ = mN (tick s (pay (stT 0 (kd t s).toNat) σ)) := rfl
        rw [nm2] at k
        generalize tick s (pay (stT 0 (kd t s).toNat) σ) = σ1 at *
        have hl : mL σ1 ≤ mL σ := by omega
        by_cases k0 : kd t s = 0
        · rw [if_pos k0] at k
          refine sX2_begin_58 ⟨fun z => absurd k0 z, fun _ => c_numberOf S2.1.1 _ ?_⟩
          rw [nmI_at hs]
          exact k.1 rfl h2 v6 (K2 T) S2 ht2 hv (by show v6 + 3000 * mL σ1 ≤ _; omega)
        · rw [if_neg k0] at k
          by_cases k1 : kd t s = 1
          · rw [if_pos k1] at k
            have hn := hks.1 (Or.inl k1)
            refine sX2_begin_58 ⟨fun _ => ⟨fun z => absurd k1 z, fun _ => c_numberOf S2.1.1 _ ?_⟩, fun z => absurd z k0⟩
            rw [nmI_at hs]
            refine sX2_readName_0 ⟨fun z => absurd z (by omega), fun _ => ⟨fun z => absurd z (by omega), fun _ => ?_⟩⟩
            rw [S2.2.2.1]
            refine ⟨fun z => absurd z (by omega), fun _ => ⟨by unfold inR; omega, by unfold inR; omega, by unfold inR; omega, 40 * (l - 1) + (nm t s).toNat, by omega, by omega, ?_⟩⟩
            rw [S2.2.1 _ (by omega)]
            exact k.1 rfl h2 v6 (K2 T) S2 ht2 hv (by show v6 + 3000 * mL σ1 ≤ _; omega)
          · rw [if_neg k1] at k
            refine c_push S2 k0 k1 ht2 hT (fun h3 S3 K23 ht3 fv3 => ?_)
            have K3 : SK T l h h3 := (K2 T).tr K23 (Nat.le_refl _) (Nat.le_refl _)
            have hf3 : h3.1 24 (l - 1) = (fl : Int) - 1 := (K3.2.2.1 _ (by omega)).trans hf
            by_cases k8 : kd t s = 8
            · rw [if_pos k8] at k
              have e8 : stT 0 (kd t s).toNat = 1 := by rw [k8]; decide
              obtain ⟨x1, x2, x3, x4⟩ := p_of w hs hk (j := 0) (by rw [ar_2 (by omega)]; decide) (by decide)
              have e0p : ptI t (s : Int) 0 = ((xN t s : Nat) : Int) := (ptI_at (k := 0) hs (by decide)).trans x4
              have c0 : h3.1 26 T = 0 := fv3.2.1
              refine c_lp ht3 S3.2.2.2.1 hT ⟨hv, by omega⟩ (c_adv w S3.1.1 hT hs hk fv3.1 (fun z => absurd k8 (by omega)) (fun z => absurd k8 (by omega)) (fun _ => ?_) (fun _ _ z => absurd k8 z))
              refine sX2_advanceWhile_0 ⟨T, rfl, hT, ?_⟩
              rw [c0]
              refine ⟨fun _ => ⟨fun z => absurd rfl z, fun _ => c_partOf S3.1.1 _ _ ?_⟩, fun z => absurd z (by decide)⟩
              rw [e0p]
              exact AQ.beg ((IH l true s σ1 T fl h3 (v6 + 1) hs hk (fun _ => k8) G2 (by omega) hl1 hl2 hTr hfl S3 hf3 (by omega) (by omega) (k.mv K3 (by omega))).2 rfl ht3 fv3)
            · rw [if_neg k8] at k
              by_cases k3 : kd t s = 3
              · rw [if_pos k3] at k
                have har := ar_3' (t := t) (s := s) k3
                obtain ⟨x1, x2, x3, x4⟩ := p_of w hs hk (j := 0) (by rw [har]; decide) (by decide)
                obtain ⟨y1, y2, y3, y4⟩ := p_of w hs hk (j := 1) (by rw [har]; decide) (by decide)
                obtain ⟨z1, z2, z3, z4⟩ := p_of w hs hk (j := 2) (by rw [har]; decide) (by decide)
                have e0p : ptI t (s : Int) 0 = ((xN t s : Nat) : Int) := (ptI_at (k := 0) hs (by decide)).trans x4
                have e1p : ptI t (s : Int) 1 = ((pt t s 1).toNat : Int) := (ptI_at (k := 1) hs (by decide)).trans y4
                have e2p : ptI t (s : Int) 2 = ((pt t s 2).toNat : Int) := (ptI_at (k := 2) hs (by decide)).trans z4
                have hsum : sz t s = 1 + (sz t (xN t s) + (sz t (pt t s 1).toNat + sz t (pt t s 2).toNat)) := by
                  rw [hzs]
                  have b0 := hcg 0 (by omega)
                  have b1 := hcg 1 (by omega)
                  have b2x := hcg 2 (by omega)
                  rcases hc : ch t s with _ | ⟨x, _ | ⟨y, _ | ⟨z, _ | ⟨u, L⟩⟩⟩⟩
                  · rw [hc] at hcl; simp at hcl; omega
                  · rw [hc] at hcl; simp at hcl; omega
                  · rw [hc] at hcl; simp at hcl; omega
                  · rw [hc] at b0 b1 b2x
                    have e0 : x = xN t s := Option.some.inj b0
                    have e1 : y = (pt t s 1).toNat := Option.some.inj b1
                    have e2 : z = (pt t s 2).toNat := Option.some.inj b2x
                    rw [e0, e1, e2]
                    rfl
                  · rw [hc] at hcl; simp at hcl; omega
                refine c_parts (B := v6 + 3000 * mL σ + 5 * (sz t s : Int)) (B0 := v6 + 3000 * mL σ + 5 * (sz t (xN t s) : Int) + 1) (M := mL σ) (L0 := [xN t s]) w IH hs (by omega) (by show 1 ≤ 3; decide) (fun p hp => by rw [List.mem_singleton] at hp; rw [hp]; exact ⟨x1, x2, x3⟩) (by omega) hl1 hl2 hTr hT hfl (by omega) (by omega) (fun p vs σ' h1 v hp S' ht' fv' hv' hv9 q => ?_) (fun vs σ' h1 v e1 G' hM x S' ht' hf' fv' hv' hb' k' => ?_) [xN t s] [] σ1 h3 v6 rfl (fun i => by rw [List.length_nil, Nat.zero_add]) G2 hl K3 S3 ht3 hf3 fv3 hv (by show v6 + 3000 * mL σ1 + 5 * ((sz t (xN t s) + 0 : Nat) : Int) + ((1 : Nat) : Int) ≤ _; omega) k
                · have hj := (List.getElem?_eq_some_iff.mp hp).1
                  have hj : vs.length < 1 := hj
                  have h0 : vs.length = 0 := by omega
                  rw [h0] at hp
                  have hp : xN t s = p := Option.some.inj hp
                  have c0 : h1.1 26 T = 0 := by rw [fv'.2.1, h0]; rfl
                  refine c_lp ht' S'.2.2.2.1 hT ⟨hv', hv9⟩ (c_adv w S'.1.1 hT hs hk fv'.1 (fun _ => ?_) (fun z => absurd k3 (by omega)) (fun z => absurd k3 (by omega)) (fun z => absurd k3 z))
                  refine sX2_advancePick_0 ⟨T, rfl, hT, ?_⟩
                  rw [c0]
                  refine ⟨fun z => absurd rfl z, fun _ => c_partOf S'.1.1 _ _ ?_⟩
                  rw [e0p, hp]
                  exact AQ.beg q
                · have e1 : vs.length = 1 := e1
                  have c1 : h1.1 26 T = 1 := by rw [fv'.2.1, e1]; rfl
                  have hx : h1.1 27 (4 * T) = vs.getD 0 0 := fv'.2.2 0 _ (gD (by omega))
                  have gg' := G'.1
                  -- the part that is picked
                  have go : ∀ p : Nat, p < mk t → kd t p ≠ -1 → rk t p < rk t s → sz t p + sz t (xN t s) + 1 ≤ sz t s → KS t fuel P T l fl h (v6 + 3000 * mL σ + 5 * (sz t s : Int)) (E t n l false p σ') → Cl shC mX2_begin [pR 19, pI (p : Int)] h1 (fun _ h2 => LO fuel P (v + 1) h2) := fun p p1 p2 p3 pz kp => by
                    have ok := E_ok w n l false p σ' p1 p2 (fun q => by cases q) G' (by omega)
                    refine (IH l false p σ' (T + 1) fl h1 (v + 1) p1 p2 (fun q => by cases q) G' (by omega) hl1 hl2 (by omega) (by omega) S' hf' (by omega) (by omega) (KS.sub (B := v6 + 3000 * mL σ + 5 * (sz t s : Int)) hT hfl hs (by omega) x fv'.1 (by omega) (fun _ => kp) (fun e h4 v4 k4 S4 ht4 hv4 hb4 => ?_))).1 rfl (by rw [ht']; omega)
                    obtain ⟨_, ok2', ok3⟩ := ok
                    have gg := ok2'.1
                    generalize E t n l false p σ' = r at *
                    have fv4 := fv'.sk k4 (by omega)
                    refine c_deliver ht4 hT fv4 (by omega) (fun fv5 => ?_)
                    have K5 : SK T l h (hA (hA h4 27 (4 * T + vs.length) r.2.1) 26 T ((vs.length : Int) + 1)) := ((x.tr k4 (Nat.le_succ _) (Nat.le_refl _)).A (Or.inr (Or.inr (Or.inl ⟨rfl, by omega⟩)))).A (Or.inr (Or.inl ⟨Or.inr rfl, Nat.le_refl _⟩))
                    have S5 : SC t l r.2.2.2 (hA (hA h4 27 (4 * T + vs.length) r.2.1) 26 T ((vs.length : Int) + 1)) := (S4.A ⟨by decide, by decide⟩).A ⟨by decide, by decide⟩
                    have ht5 : (hA (hA h4 27 (4 * T + vs.length) r.2.1) 26 T ((vs.length : Int) + 1)).2.1 19 9 = (T : Int) + 1 := ht4
                    generalize hA (hA h4 27 (4 * T + vs.length) r.2.1) 26 T ((vs.length : Int) + 1) = h5 at *
                    have c2 : h5.1 26 T = 2 := by rw [fv5.2.1, List.length_append, e1]; rfl
                    have c5 : h5.1 27 (4 * T + 1) = r.2.1 := by
                      refine fv5.2.2 1 _ ?_
                      rw [List.getElem?_append_right (by omega), e1]
                      rfl
                    refine c_lp ht5 S5.2.2.2.1 hT ⟨hv4, by omega⟩ (c_adv w S5.1.1 hT hs hk fv5.1 (fun _ => ?_) (fun z => absurd k3 (by omega)) (fun z => absurd k3 (by omega)) (fun z => absurd k3 z))
                    refine sX2_advancePick_0 ⟨T, rfl, hT, ?_⟩
                    rw [c2]
                    refine ⟨fun _ => ⟨fun _ => ⟨by unfold inR; omega, by unfold inR; omega, 4 * T + 1, by omega, by omega, ?_⟩, fun z => absurd z (by decide)⟩, fun z => absurd z (by decide)⟩
                    rw [c5]
                    exact c_finr kp e K5 S5 ht5 hT (by omega) (by omega)
                  refine c_lp ht' S'.2.2.2.1 hT ⟨hv', by omega⟩ (c_adv w S'.1.1 hT hs hk fv'.1 (fun _ => ?_) (fun z => absurd k3 (by omega)) (fun z => absurd k3 (by omega)) (fun z => absurd k3 z))
                  refine sX2_advancePick_0 ⟨T, rfl, hT, ?_⟩
                  rw [c1]
                  refine ⟨fun _ => ⟨fun z => absurd rfl z, fun _ => ⟨by unfold inR; omega, 4 * T, by omega, by omega, ?_⟩⟩, fun z => absurd z (by decide)⟩
                  rw [hx]
                  refine ⟨fun e0 => c_partOf S'.1.1 _ _ ?_, fun e0 => c_partOf S'.1.1 _ _ ?_⟩
                  · rw [if_pos e0] at k'
                    rw [e2p]
                    exact AQ.beg (go _ z1 z2 z3 (by omega) k')
                  · rw [if_neg e0] at k'
                    rw [e1p]
                    exact AQ.beg (go _ y1 y2 y3 (by omega) k')
              · rw [if_neg k3] at k
                by_cases k11 : kd t s = 11
                · rw [if_pos k11] at k
                  have har := ar_1 (t := t) (s := s) (Or.inr (Or.inr (Or.inr k11)))
                  obtain ⟨x1, x2, x3, x4⟩ := p_of w hs hk (j := 0) (by rw [har]; decide) (by decide)
                  have x1 : xN t s < mk t := x1
                  have x3 : rk t (xN t s) < rk t s := x3
                  have e0p : ptI t (s : Int) 0 = ((xN t s : Nat) : Int) := (ptI_at (k := 0) hs (by decide)).trans x4
                  have hsum : sz t s = 1 + sz t (xN t s) := by
                    rw [hzs]
                    have b0 := hcg 0 (by omega)
                    rcases hc : ch t s with _ | ⟨x, _ | ⟨u, L⟩⟩
                    · rw [hc] at hcl; simp at hcl; omega
                    · rw [hc] at b0
                      have e0 : x = xN t s := Option.some.inj b0
                      rw [e0]
                      rfl
                    · rw [hc] at hcl; simp at hcl; omega
                  have ok := E_ok w n l false (xN t s) σ1 x1 x2 (fun q => by cases q) G2 (by omega)
                  obtain ⟨_, ok2', ok3⟩ := ok
                  have gg := ok2'.1
                  have c0 : h3.1 26 T = 0 := fv3.2.1
                  refine c_lp ht3 S3.2.2.2.1 hT ⟨hv, by omega⟩ (c_adv w S3.1.1 hT hs hk fv3.1 (fun z => absurd z k3) (fun z => absurd z n6) (fun z => absurd z k8) (fun _ _ _ => ⟨fun z => absurd z (by rw [c0, har]; decide), fun _ => ?_⟩))
                  rw [c0, e0p]
                  refine AQ.beg ((IH l false (xN t s) σ1 (T + 1) fl h3 (v6 + 1) x1 x2 (fun q => by cases q) G2 (by omega) hl1 hl2 (by omega) (by omega) S3 hf3 (by omega) (by omega) ⟨fun e h4 v4 k4 S4 ht4 hv4 hb4 => ?_, fun e h4 v4 k4 S4 hv4 hb4 => ?_, fun e h4 v4 k4 S4 hv4 hb4 => ?_⟩).1 rfl (by rw [ht3]; omega))
                  · rw [rtn_1 (by omega)] at k
                    generalize E t n l false (xN t s) σ1 = r at *
                    have ht4 : h4.2.1 19 9 = (T : Int) + 1 := by rw [ht4]; omega
                    have fv4 := fv3.sk k4 (by decide)
                    refine c_deliver ht4 hT fv4 (by decide) (fun fv5 => ?_)
                    have K5 : SK T l h (hA (hA h4 27 (4 * T + ([] : List Int).length) r.2.1) 26 T ((([] : List Int).length : Int) + 1)) := ((K3.tr k4 (Nat.le_succ _) (Nat.le_refl _)).A (Or.inr (Or.inr (Or.inl ⟨rfl, by omega⟩)))).A (Or.inr (Or.inl ⟨Or.inr rfl, Nat.le_refl _⟩))
                    have S5 : SC t l r.2.2.2 (hA (hA h4 27 (4 * T + ([] : List Int).length) r.2.1) 26 T ((([] : List Int).length : Int) + 1)) := (S4.A ⟨by decide, by decide⟩).A ⟨by decide, by decide⟩
                    have ht5 : (hA (hA h4 27 (4 * T + ([] : List Int).length) r.2.1) 26 T ((([] : List Int).length : Int) + 1)).2.1 19 9 = (T : Int) + 1 := ht4
                    generalize hA (hA h4 27 (4 * T + ([] : List Int).length) r.2.1) 26 T ((([] : List Int).length : Int) + 1) = h5 at *
                    have c1 : h5.1 26 T = 1 := fv5.2.1
                    have c5 : h5.1 27 (4 * T) = r.2.1 := fv5.2.2 0 _ rfl
                    refine c_lp ht5 S5.2.2.2.1 hT ⟨hv4, by omega⟩ (c_adv w S5.1.1 hT hs hk fv5.1 (fun z => absurd z k3) (fun z => absurd z n6) (fun z => absurd z k8) (fun _ _ _ => ⟨fun _ => ?_, fun z => absurd (by rw [c1, har]; decide) z⟩))
                    refine sX2_conclude_0 ⟨by unfold inR; omega, 4 * T, by omega, by omega, by unfold inR; omega, 4 * T + 1, by omega, by omega, ?_⟩
                    rw [c5]
                    refine ⟨fun _ => ⟨fun _ => ⟨fun _ => ⟨fun _ => ⟨fun z => absurd z (by omega), fun _ => ⟨fun _ => ?_, fun z => absurd z (by omega)⟩⟩, fun z => absurd z (by omega)⟩, fun z => absurd z (by omega)⟩, fun z => absurd z (by omega)⟩, fun z => absurd z (by omega)⟩
                    exact c_fin k K5 S5 ht5 hT (by omega) (by show v4 + 1 + 3000 * mL r.2.2.2 ≤ _; omega)
                  · rw [rtn_1 (by omega)] at k
                    generalize E t n l false (xN t s) σ1 = r at *
                    have f4 : h4.1 25 T = (s : Int) := (k4.2.1 T (by omega)).1.trans fv3.1
                    rw [show ((T + 1 : Nat) : Int) - 1 = (T : Int) by omega]
                    refine sX2_leaveWith_30 ⟨fun z => absurd z (by omega), fun _ => ⟨T, rfl, hT, ?_⟩⟩
                    rw [f4]
                    refine c_kindOf S4.1.1 _ ?_
                    rw [kdI_at hs]
                    exact ⟨fun _ => k.1 rfl _ v4 ((K3.tr k4 (Nat.le_succ _) (Nat.le_refl _)).I (by decide)) (S4.top _) (by rw [hI_at, if_pos ⟨rfl, rfl⟩]) hv4 (by show v4 + 3000 * mL r.2.2.2 ≤ _; omega), fun z => absurd k11 z⟩
                  · rw [rtn_2 (by omega)] at k
                    exact k.2.2 e h4 v4 (K3.1.tr k4) S4 hv4 (by omega)
                · rw [if_neg k11] at k
                  refine c_parts (B := v6 + 3000 * mL σ + 5 * (sz t s : Int)) (B0 := v6 + 3000 * mL σ + 5 * (sz t s : Int) - 2) (M := mL σ) (L0 := ch t s) w IH hs k11 ha3 kid (by omega) hl1 hl2 hTr hT hfl (by omega) (by omega) (fun p vs σ' h1 v hp S' ht' fv' hv' hv9 q => ?_) (fun vs σ' h1 v e1 G' hM x S' ht' hf' fv' hv' hb' k' => ?_) (ch t s) [] σ1 h3 v6 (Nat.zero_add _) (fun i => by rw [List.length_nil, Nat.zero_add]) G2 hl K3 S3 ht3 hf3 fv3 hv (by omega) k
                  · obtain ⟨j1, j2⟩ := ptc _ _ hp
                    refine c_lp ht' S'.2.2.2.1 hT ⟨hv', hv9⟩ (c_adv w S'.1.1 hT hs hk fv'.1 (fun z => absurd z k3) (fun z => absurd z n6) (fun z => absurd z k8) (fun _ _ _ => ⟨fun z => absurd z (by rw [fv'.2.1]; omega), fun _ => ?_⟩))
                    rw [fv'.2.1, j2]
                    exact AQ.beg q
                  · exact c_doo w hs hk k3 n6 k8 k11 k0 k1 (by rw [e1, hcl]) hl1 hl2 hT hfl x S' ht' hf' fv' hv' (by have := G'.1; omega) (by omega) k'
      · rw [if_neg n6, if_pos c] at k
        exact k.2.2 rfl h v6 F12.rf S.z hv (by show v6 + 3000 * mL σ ≤ _; omega)
end CZ
