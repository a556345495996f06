/-! RUN: the reference, all kinds together -/
section MZ
variable {t : TV} {has : Int} {P : Int → Hp → Prop}
theorem m_ev (w : WF t) (hh : 0 ≤ has ∧ has ≤ 3000) : ∀ n, ME t has P n := by
  intro n
  induction n with
  | zero =>
    intro l b s σ T h hs hk hb8 G _ hN
    have := G.1
    exact absurd hN (by omega)
  | succ n IH =>
    intro l b s σ T h hs hk hb8 G hL hN hl1 hl2 hTr S k
    have hm := w.m
    have g0 := G.1
    have hr := rk_pos w hs hk
    have hT : T < 480 := by omega
    have hkb := w.2.2.2.2.1 s hs
    have hks := w.2.2.2.2.2.1 s hs hk
    obtain ⟨hcl, hcg⟩ := chgt w hs hk
    obtain ⟨_, ha3⟩ := arfk w hs hk
    cases b with
    | true => exact ⟨fun q => (by cases q), fun _ ht fv => m_while w IH hs (hb8 rfl) G hL hh hN hl1 hl2 hTr S k ht fv⟩
    | false =>
      refine ⟨fun _ ht => ?_, fun q => (by cases q)⟩
      rw [E] at k
      have kid : ∀ p ∈ ch t s, p < mk t ∧ kd t p ≠ -1 ∧ rk t p < rk t s := fun p hp => ⟨(ch_al w hs hk hp).1, (ch_al w hs hk hp).2, rk_ch w hs hk hp⟩
      have ptc : ∀ (j p : Nat), (ch t s)[j]? = some p → j < ar t s ∧ pt t s j = (p : Int) := fun j p hp => by
        have h1 := (List.getElem?_eq_some_iff.mp hp).1
        have h2 := hcg j (by omega)
        rw [hp] at h2
        have h3 : p = (pt t s j).toNat := Option.some.inj h2
        have h4 := (p_of w hs hk (j := j) (by omega) (by omega)).2.2.2
        exact ⟨by omega, by rw [h4, h3]⟩
      refine m_begins w S hs hk ⟨g0, by omega⟩ hh ht (by omega) (fun k6 h3 S3 K3 ht3 fv3 => ?_) (fun n6 nc h3 S3 K3 ht3 fv3 => ?_) (fun n6 c => ?_)
      · rw [if_pos k6] at k
        refine m_parts (M := mL σ) (L0 := ch t s) w IH hs (by omega) (by omega) kid hL (by omega) hl1 hl2 hTr hT (fun p vs σ' h1 hp S' ht' fv' q => ?_) (fun vs σ' h1 e1 G' hM x S' ht' fv' k' => ?_) (ch t s) [] σ h3 (Nat.zero_add _) (fun i => by rw [List.length_nil, Nat.zero_add]) G (Int.le_refl _) K3 S3 ht3 fv3 k
        · obtain ⟨j1, j2⟩ := ptc _ _ hp
          refine m_lg w S' hs hk ht' (by omega) fv' hl1 hl2 (fun e => absurd k6 (by omega)) (fun e => absurd k6 (by omega)) (fun e => absurd k6 (by omega)) (fun _ => ⟨fun _ => ?_, fun z => absurd j1 z⟩) (fun e => absurd k6 (by omega)) (fun _ _ _ z => absurd k6 z)
          rw [j2]
          exact q
        · exact m_enter w IH hs k6 G' (by omega) hh (by omega) (by rw [e1, hcl]) hl1 hl2 (by omega) x S' ht' fv' k'
      · rw [if_neg n6, if_neg nc] at k
        have hst := stT0_in (kd t s).toNat (by omega)
        have G2 : GM t (tick s (pay (stT 0 (kd t s).toNat) σ)) := (G.pay nc).tick hs
        have l2 : mL (tick s (pay (stT 0 (kd t s).toNat) σ)) = mL σ - stT 0 (kd t s).toNat := rfl
        have nm2 : mN σ = mN (tick s (pay (stT 0 (kd t s).toNat) σ)) := rfl
        rw [nm2] at k
        generalize tick s (pay (stT 0 (kd t s).toNat) σ) = σ1 at *
        have hl : mL σ1 ≤ mL σ := by omega
        by_cases k0 : kd t s = 0
        · rw [if_pos k0] at k
          exact m_lg w S3 hs hk ht3 (by omega) fv3 hl1 hl2 (fun _ => (k.1 rfl h3 K3 S3 ht3).1) (fun e => absurd k0 (by omega)) (fun e => absurd k0 (by omega)) (fun e => absurd k0 (by omega)) (fun e => absurd k0 (by omega)) (fun z => absurd k0 z)
        · rw [if_neg k0] at k
          by_cases k1 : kd t s = 1
          · rw [if_pos k1] at k
            exact m_lg w S3 hs hk ht3 (by omega) fv3 hl1 hl2 (fun e => absurd e k0) (fun _ => (k.1 rfl h3 K3 S3 ht3).1) (fun e => absurd k1 (by omega)) (fun e => absurd k1 (by omega)) (fun e => absurd k1 (by omega)) (fun _ z => absurd k1 z)
          · rw [if_neg k1] at k
            by_cases k8 : kd t s = 8
            · rw [if_pos k8] at k
              have e8 : stT 0 (kd t s).toNat = 1 := by rw [k8]; decide
              exact (IH l true s σ1 T h3 hs hk (fun _ => k8) G2 (by omega) (by omega) hl1 hl2 hTr S3 (k.mv K3)).2 rfl ht3 fv3
            · rw [if_neg k8] at k
              by_cases k3 : kd t s = 3
              · rw [if_pos k3] at k
                have har := ar_3' (t := t) (s := s) k3
                obtain ⟨x1, x2, x3, x4⟩ := p_of w hs hk (j := 0) (by rw [har]; decide) (by decide)
                obtain ⟨y1, y2, y3, y4⟩ := p_of w hs hk (j := 1) (by rw [har]; decide) (by decide)
                obtain ⟨z1, z2, z3, z4⟩ := p_of w hs hk (j := 2) (by rw [har]; decide) (by decide)
                refine m_parts (M := mL σ) (L0 := [xN t s]) w IH hs (by omega) (by show 1 ≤ 3; decide) (fun p hp => by rw [List.mem_singleton] at hp; rw [hp]; exact ⟨x1, x2, x3⟩) hL (by omega) hl1 hl2 hTr hT (fun p vs σ' h1 hp S' ht' fv' q => ?_) (fun vs σ' h1 e1 G' hM x S' ht' fv' k' => ?_) [xN t s] [] σ1 h3 rfl (fun i => by rw [List.length_nil, Nat.zero_add]) G2 hl K3 S3 ht3 fv3 k
                · have hj := (List.getElem?_eq_some_iff.mp hp).1
                  have hj : vs.length < 1 := hj
                  have h0 : vs.length = 0 := by omega
                  rw [h0] at hp
                  have hp : xN t s = p := Option.some.inj hp
                  refine m_lg w S' hs hk ht' (by omega) fv' hl1 hl2 (fun e => absurd e k0) (fun e => absurd e k1) (fun _ => ⟨fun z => absurd h0 z, fun z => absurd z (by omega), fun _ => ?_⟩) (fun e => absurd e n6) (fun e => absurd e k8) (fun _ _ z => absurd k3 z)
                  rw [x4]
                  have : ((xN t s : Nat) : Int) = (p : Int) := by rw [hp]
                  show Cl shM mX9_begins [pR 0, pI ((xN t s : Nat) : Int)] h1 _
                  rw [this]
                  exact q
                · have e1 : vs.length = 1 := e1
                  have hx : h1.1 16 (3 * T) = vs.getD 0 0 := fv'.2.2.2 0 _ (gD (by omega))
                  have gg' := G'.1
                  have go : ∀ p : Nat, p < mk t → kd t p ≠ -1 → rk t p < rk t s → KM t has P T l h (E t n l false p σ') → Cl shM mX9_begins [pR 0, pI (p : Int)] h1 (fun _ h2 => LG P h2) := fun p p1 p2 p3 kp => by
                    refine (IH l false p σ' (T + 1) h1 p1 p2 (fun q => by cases q) G' (by omega) (by omega) hl1 hl2 (by omega) S' (KM.sub (by omega) (by omega) hs (by omega) x fv' (fun _ => kp) (fun e h4 k4 S4 ht4 => ?_))).1 rfl (by rw [ht']; omega)
                    generalize E t n l false p σ' = r at *
                    have fv4 := fv'.sk k4 (by omega)
                    refine m_deliver ht4 (by omega) fv4 (by omega) (fun fv5 => ?_)
                    have K5 : NK T l h (hA (hA (hI h4 0 16 ((T : Int) + 1)) 16 (3 * T + vs.length) r.2.1) 15 T ((vs.length : Int) + 1)) := (((x.tr k4 (Nat.le_succ _) (Nat.le_refl _)).I (Or.inl rfl)).A (Or.inr (Or.inr (Or.inl ⟨rfl, by omega⟩)))).A (Or.inr (Or.inl ⟨Or.inr (Or.inl rfl), Nat.le_refl _⟩))
                    have S5 : NC t has l r.2.2.2 (hA (hA (hI h4 0 16 ((T : Int) + 1)) 16 (3 * T + vs.length) r.2.1) 15 T ((vs.length : Int) + 1)) := ((S4.sp _).A ⟨by decide, by decide⟩).A ⟨by decide, by decide⟩
                    have ht5 : (hA (hA (hI h4 0 16 ((T : Int) + 1)) 16 (3 * T + vs.length) r.2.1) 15 T ((vs.length : Int) + 1)).2.1 0 16 = (T : Int) + 1 := by rw [hA_i, hA_i, hI_at, if_pos ⟨rfl, rfl⟩]
                    generalize hA (hA (hI h4 0 16 ((T : Int) + 1)) 16 (3 * T + vs.length) r.2.1) 15 T ((vs.length : Int) + 1) = h5 at *
                    have l5 : (vs ++ [r.2.1]).length = 2 := by rw [List.length_append, e1]; rfl
                    have c5 : h5.1 16 (3 * T + 1) = r.2.1 := by
                      refine fv5.2.2.2 1 _ ?_
                      rw [List.getElem?_append_right (by omega), e1]
                      rfl
                    refine m_lg w S5 hs hk ht5 (by omega) fv5 hl1 hl2 (fun e => absurd e k0) (fun e => absurd e k1) (fun _ => ⟨fun _ _ => ?_, fun z => absurd z (by omega), fun z => absurd z (by omega)⟩) (fun e => absurd e n6) (fun e => absurd e k8) (fun _ _ z => absurd k3 z)
                    rw [c5]
                    exact (kp.1 e h5 K5 S5 ht5).1
                  refine m_lg w S' hs hk ht' (by omega) fv' hl1 hl2 (fun e => absurd e k0) (fun e => absurd e k1) (fun _ => ⟨fun _ z => absurd e1 z, fun _ => ⟨fun e0 => ?_, fun e0 => ?_⟩, fun z => absurd z (by omega)⟩) (fun e => absurd e n6) (fun e => absurd e k8) (fun _ _ z => absurd k3 z)
                  · rw [hx] at e0
                    rw [if_pos e0] at k'
                    rw [z4]
                    exact go _ z1 z2 z3 k'
                  · rw [hx] at e0
                    rw [if_neg e0] at k'
                    rw [y4]
                    exact go _ y1 y2 y3 k'
              · rw [if_neg k3] at k
                by_cases k11 : kd t s = 11
                · rw [if_pos k11] at k
                  have har := ar_1 (t := t) (s := s) (Or.inr (Or.inr (Or.inr k11)))
                  obtain ⟨x1, x2, x3, x4⟩ := p_of w hs hk (j := 0) (by rw [har]; decide) (by decide)
                  have x1 : xN t s < mk t := x1
                  have x3 : rk t (xN t s) < rk t s := x3
                  refine m_lg w S3 hs hk ht3 (by omega) fv3 hl1 hl2 (fun e => absurd e k0) (fun e => absurd e k1) (fun e => absurd e k3) (fun e => absurd e n6) (fun e => absurd e k8) (fun _ _ _ _ _ => ⟨fun z => absurd (by rw [har]; decide) z, fun _ => ?_⟩)
                  have e0p : pt t s ([] : List Int).length = ((xN t s : Nat) : Int) := x4
                  rw [e0p]
                  refine (IH l false (xN t s) σ1 (T + 1) h3 x1 x2 (fun q => by cases q) G2 (by omega) (by omega) hl1 hl2 (by omega) S3 ⟨fun e h4 k4 S4 ht4 => ?_, fun e h4 k4 S4 => ?_, fun e h4 k4 S4 => ?_⟩).1 rfl (by rw [ht3]; omega)
                  · rw [rtn_1 (by omega)] at k
                    generalize E t n l false (xN t s) σ1 = r at *
                    have ht4 : h4.2.1 0 16 = (T : Int) + 2 := by rw [ht4]; omega
                    have fv4 := fv3.sk k4 (by decide)
                    refine m_deliver ht4 (by omega) fv4 (by decide) (fun fv5 => ?_)
                    have K5 : NK T l h (hA (hA (hI h4 0 16 ((T : Int) + 1)) 16 (3 * T + ([] : List Int).length) r.2.1) 15 T ((([] : List Int).length : Int) + 1)) := (((K3.tr k4 (Nat.le_succ _) (Nat.le_refl _)).I (Or.inl rfl)).A (Or.inr (Or.inr (Or.inl ⟨rfl, by omega⟩)))).A (Or.inr (Or.inl ⟨Or.inr (Or.inl rfl), Nat.le_refl _⟩))
                    have S5 : NC t has l r.2.2.2 (hA (hA (hI h4 0 16 ((T : Int) + 1)) 16 (3 * T + ([] : List Int).length) r.2.1) 15 T ((([] : List Int).length : Int) + 1)) := ((S4.sp _).A ⟨by decide, by decide⟩).A ⟨by decide, by decide⟩
                    have ht5 : (hA (hA (hI h4 0 16 ((T : Int) + 1)) 16 (3 * T + ([] : List Int).length) r.2.1) 15 T ((([] : List Int).length : Int) + 1)).2.1 0 16 = (T : Int) + 1 := by rw [hA_i, hA_i, hI_at, if_pos ⟨rfl, rfl⟩]
                    generalize hA (hA (hI h4 0 16 ((T : Int) + 1)) 16 (3 * T + ([] : List Int).length) r.2.1) 15 T ((([] : List Int).length : Int) + 1) = h5 at *
                    have c5 : h5.1 16 (3 * T) = r.2.1 := fv5.2.2.2 0 _ rfl
                    refine m_lg w S5 hs hk ht5 (by omega) fv5 hl1 hl2 (fun e => absurd e k0) (fun e => absurd e k1) (fun e => absurd e k3) (fun e => absurd e n6) (fun e => absurd e k8) (fun _ _ _ _ _ => ⟨fun _ => ?_, fun z => absurd z (by rw [har]; show ¬ (1 : Nat) < 1; decide)⟩)
                    rw [c5]
                    refine sX9_does_0 ⟨s, rfl, by omega, ?_⟩
                    rw [S5.1.1.k hs]
                    exact ⟨fun z => absurd z (by omega), fun z => absurd z (by omega), fun z => absurd z (by omega), fun z => absurd z (by omega), fun _ => (k.1 rfl h5 K5 S5 ht5).1, fun z => absurd z (by omega)⟩
                  · rw [rtn_1 (by omega)] at k
                    generalize E t n l false (xN t s) σ1 = r at *
                    obtain ⟨f1, _, f3, _⟩ := k4.2.1 T (by omega)
                    have f4 : h4.1 14 T = (s : Int) := f1.trans fv3.1
                    have f17 : h4.1 17 T = (l : Int) := f3.trans fv3.2.2.1
                    rw [show ((T + 1 : Nat) : Int) - 1 = (T : Int) by omega]
                    refine sX9_leaves_7 ⟨fun z => absurd z (by omega), fun _ => ⟨T, rfl, by omega, fun z => absurd (by rw [f17, S4.2.2.1]) z, fun _ => ⟨s, f4, by omega, ?_⟩⟩⟩
                    rw [S4.1.1.k hs]
                    exact ⟨fun _ => ⟨by unfold inR; omega, (k.1 rfl _ ((K3.tr k4 (Nat.le_succ _) (Nat.le_refl _)).I (Or.inl rfl)) (S4.sp _) (by rw [hI_at, if_pos ⟨rfl, rfl⟩])).1⟩, fun z => absurd k11 z⟩
                  · rw [rtn_2 (by omega)] at k
                    exact k.2.2 e h4 (K3.1.tr k4) S4
                · rw [if_neg k11] at k
                  refine m_parts (M := mL σ) (L0 := ch t s) w IH hs k11 (by omega) kid hL (by omega) hl1 hl2 hTr hT (fun p vs σ' h1 hp S' ht' fv' q => ?_) (fun vs σ' h1 e1 G' hM x S' ht' fv' k' => ?_) (ch t s) [] σ1 h3 (Nat.zero_add _) (fun i => by rw [List.length_nil, Nat.zero_add]) G2 hl K3 S3 ht3 fv3 k
                  · obtain ⟨j1, j2⟩ := ptc _ _ hp
                    refine m_lg w S' hs hk ht' (by omega) fv' hl1 hl2 (fun e => absurd e k0) (fun e => absurd e k1) (fun e => absurd e k3) (fun e => absurd e n6) (fun e => absurd e k8) (fun _ _ _ _ _ => ⟨fun z => absurd j1 z, fun _ => ?_⟩)
                    rw [j2]
                    exact q
                  · exact m_doo w hs hk k3 n6 k8 k11 k0 k1 (by rw [e1, hcl]) hl1 hl2 hT x S' ht' fv' k'
      · rw [if_neg n6, if_pos c] at k
        exact k.2.2 rfl h nf.rf S.1
end MZ
