/-! RUN: the reference ends a step, goes round, makes a call -/
section MD
variable {t : TV} {has : Int} {P : Int → Hp → Prop}
theorem NC.nam {l k : Nat} {v : Int} {σ : MS} {h : Hp} (x : NC t has l σ h) (_ : k < 40) : NC t has l (up1 (mN σ) k v, σ.2) (hA h 18 (40 * (l - 1) + k) v) := by
  obtain ⟨y, x2, x3⟩ := x
  have y' : NR t has (up1 (mN σ) k v, σ.2) h := y
  refine ⟨y'.A ⟨by decide, by decide⟩, fun q hq => ?_, x3⟩
  show _ = up1 (mN σ) k v q
  rw [hA_at, up1_at]
  by_cases e : q = k
  · rw [if_pos ⟨rfl, by omega⟩, if_pos e]
  · rw [if_neg (by omega), if_neg e]
    exact x2 q hq
theorem NC.nm {l : Nat} {σ : MS} {h : Hp} (x : NC t has l σ h) {N : Nat → Int} (e : ∀ k, k < 40 → mN σ k = N k) : NC t has l (N, σ.2) h := by
  obtain ⟨y, x2, x3⟩ := x
  have y' : NR t has (N, σ.2) h := y
  exact ⟨y', fun k hk => (x2 k hk).trans (e k hk), x3⟩
theorem NC.rw1 {l i : Nat} {v : Int} {σ : MS} {h : Hp} (x : NC t has l σ h) : NC t has l (mN σ, mL σ, mC σ, up1 (mR σ) i v, mO σ) (hA h 8 i v) := by
  obtain ⟨⟨y1, y2, y3, y4, y5, y6⟩, x2, x3⟩ := x
  refine ⟨⟨(nf.A (Or.inr (Or.inl rfl))).rm y1, y2, fun q hq => ?_, fun j hj => ?_, y5, y6⟩, fun k hk => ?_, x3⟩
  · rw [hA_at, if_neg (by omega)]
    exact y3 q hq
  · show _ = up1 (mR σ) i v j
    rw [hA_at, up1_at]
    by_cases e : j = i
    · rw [if_pos ⟨rfl, e⟩, if_pos e]
    · rw [if_neg (fun z => e z.2), if_neg e]
      exact y4 j hj
  · rw [hA_at, if_neg (by omega)]
    exact x2 k hk
theorem m_doo {T l s : Nat} {h0 h : Hp} {σ : MS} {vs : List Int} (w : WF t) (hs : s < mk t) (hk : kd t s ≠ -1) (h3 : kd t s ≠ 3) (h6 : kd t s ≠ 6) (h8 : kd t s ≠ 8) (h11 : kd t s ≠ 11) (h0k : kd t s ≠ 0) (h1k : kd t s ≠ 1) (hvs : vs.length = ar t s) (hl1 : 1 ≤ l) (hl2 : l ≤ 12) (hT : T < 480) (x : NK T l h0 h) (S : NC t has l σ h) (ht : h.2.1 0 16 = (T : Int) + 1) (fv : FW T s l vs h) (k : KM t has P T l h0 (doo t s vs σ)) : LG P h := by
  have hm := w.1
  have hkb := w.2.2.2.2.1 s hs
  have hks := w.2.2.2.2.2.1 s hs hk
  have har1 : 1 ≤ ar t s := by
    rcases (by omega : (kd t s = 2 ∨ kd t s = 5 ∨ kd t s = 8 ∨ kd t s = 10) ∨ (kd t s = 4 ∨ kd t s = 7 ∨ kd t s = 9 ∨ kd t s = 11)) with e | e
    · rw [ar_2 e]; decide
    · rw [ar_1 e]; exact Nat.le_refl _
  have hx : h.1 16 (3 * T) = vs.getD 0 0 := fv.2.2.2 0 _ (gD (by omega))
  refine m_lg w S hs hk ht (by omega) fv hl1 hl2 (fun e => absurd e h0k) (fun e => absurd e h1k) (fun e => absurd e h3) (fun e => absurd e h6) (fun e => absurd e h8) (fun _ _ _ _ _ => ⟨fun _ => ?_, fun c => absurd c (by omega)⟩)
  have hyv : kd t s = 2 ∨ kd t s = 5 ∨ kd t s = 10 → h.1 16 (3 * T + 1) = vs.getD 1 0 := fun q => fv.2.2.2 1 _ (gD (by rw [hvs, ar_2 (by omega)]; decide))
  have go : ∀ {v z : Int} {σ' : MS} {h' : Hp}, doo t s vs σ = (0, v, z, σ') → NK T l h h' → NC t has l σ' h' → h'.2.1 0 16 = (T : Int) + 1 → Cl shM mX9_ends [pR 0, pI v] h' (fun _ h1 => LG P h1) := fun {v z σ' h'} e y S' ht' => by
    rw [e] at k
    exact (k.1 rfl h' (x.tr y (Nat.le_refl _) (Nat.le_refl _)) S' ht').1
  have rf : ∀ {v z : Int}, doo t s vs σ = (2, v, z, σ) → Cl shM mX9_refuses [pR 0, pI v, pI z] h (fun _ h1 => LG P h1) := fun {v z} e => by
    rw [e] at k
    exact k.2.2 rfl h x.1 S.1
  refine sX9_does_0 ⟨s, rfl, by omega, ?_⟩
  rw [S.1.1.k hs, S.1.1.n hs, hx]
  refine ⟨fun e => ?_, fun e => ?_, fun e => ?_, fun e => ?_, fun e => absurd e h11, fun e => ?_⟩
  · rw [hyv (Or.inl e)]
    have ed : doo t s vs σ = if nm t s = 3 ∧ vs.getD 1 0 = 0 then (2, 1, (s : Int), σ) else (0, rkn (nm t s) (vs.getD 0 0) (vs.getD 1 0), 0, σ) := by
      unfold doo
      rw [if_pos e]
    exact ⟨fun q => m_worked _ _ _ (fun z => absurd z q) (go (by rw [ed, if_neg (fun y => q y.1)]) NK.rf S ht), fun q => ⟨fun q2 => m_worked _ _ _ (fun _ => q2) (go (by rw [ed, if_neg (fun y => q2 y.2)]) NK.rf S ht), fun q2 => rf (by rw [ed, if_pos ⟨q, q2⟩])⟩⟩
  · have hn := hks.1 (Or.inr e)
    rw [S.2.2.1]
    refine ⟨by unfold inR; omega, by unfold inR; omega, by unfold inR; omega, 40 * (l - 1) + (nm t s).toNat, by omega, by omega, ?_⟩
    refine go (σ' := (up1 (mN σ) (nm t s).toNat (vs.getD 0 0), σ.2)) (z := 0) ?_ (NK.rf.A (Or.inr (Or.inr (Or.inr ⟨rfl, by omega⟩)))) (S.nam (by omega)) ht
    unfold doo
    rw [if_neg (by omega), if_pos e]
  · rw [hyv (Or.inr (Or.inl e))]
    refine go (σ' := σ) (z := 0) ?_ NK.rf S ht
    unfold doo
    rw [if_neg (by omega), if_neg (by omega), if_pos e]
  · have ed : doo t s vs σ = (1, vs.getD 0 0, 0, σ) := by
      unfold doo
      rw [if_neg (by omega), if_neg (by omega), if_neg (by omega), if_pos e]
    rw [ed] at k
    refine sX9_leaves_0 ?_
    rw [ht, show (T : Int) + 1 - 2 = (T : Int) - 1 by omega]
    exact ⟨by unfold inR; omega, k.2.1 rfl h x S⟩
  · have ed : doo t s vs σ = if vs.getD 0 0 < 0 ∨ 8 ≤ vs.getD 0 0 then (2, 2, (s : Int), σ) else if kd t s = 10 then (0, vs.getD 1 0, 0, (mN σ, mL σ, mC σ, up1 (mR σ) (vs.getD 0 0).toNat (vs.getD 1 0), mO σ)) else (0, mR σ (vs.getD 0 0).toNat, 0, σ) := by
      unfold doo
      rw [if_neg (by omega), if_neg (by omega), if_neg (by omega), if_neg (by omega)]
    refine m_in _ _ _ ⟨fun c => ?_, fun c => rf (by rw [ed, if_pos (by have := b2_0.mp c; omega)])⟩
    have hc := b2_n0.mp c
    rw [S.1.1.k hs]
    refine ⟨fun c9 => ⟨(vs.getD 0 0).toNat, by omega, by omega, ?_⟩, fun c9 => ⟨(vs.getD 0 0).toNat, by omega, by omega, ?_⟩⟩
    · have e10 : kd t s = 10 := by omega
      rw [hyv (Or.inr (Or.inr e10))]
      exact go (by rw [ed, if_neg (by omega), if_pos e10]) (NK.rf.A (Or.inl (Or.inr rfl))) S.rw1 ht
    · rw [S.1.2.2.2.1 _ (by omega)]
      exact go (by rw [ed, if_neg (by omega), if_neg (by omega)]) NK.rf S ht
theorem m_while {n l s T : Nat} {σ : MS} {h : Hp} (w : WF t) (IH : ME t has P n) (hs : s < mk t) (hk8 : kd t s = 8) (G : GM t σ) (hL : mL σ ≤ 2000) (hh : 0 ≤ has ∧ has ≤ 3000) (hN : 50 * mL σ + (rk t s : Int) < ((n + 1 : Nat) : Int)) (hl1 : 1 ≤ l) (hl2 : l ≤ 12) (hTr : T + rk t s ≤ 40 * l) (S : NC t has l σ h) (k : KM t has P T l h (E t (n + 1) l true s σ)) (ht : h.2.1 0 16 = (T : Int) + 1) (fv : FW T s l [] h) : LG P h := by
  have hk : kd t s ≠ -1 := by rw [hk8]; decide
  have h11 : kd t s ≠ 11 := by rw [hk8]; decide
  have hm := w.m
  have har := ar_2 (t := t) (s := s) (Or.inr (Or.inr (Or.inl hk8)))
  obtain ⟨x1, x2, x3, x4⟩ := p_of w hs hk (j := 0) (by rw [har]; decide) (by decide)
  obtain ⟨y1, y2, y3, y4⟩ := p_of w hs hk (j := 1) (by rw [har]; decide) (by decide)
  have x1 : xN t s < mk t := x1
  have y1 : yN t s < mk t := y1
  have x2 : kd t (xN t s) ≠ -1 := x2
  have y2 : kd t (yN t s) ≠ -1 := y2
  have x3 : rk t (xN t s) < rk t s := x3
  have y3 : rk t (yN t s) < rk t s := y3
  have hr := rk_pos w hs hk
  have g0 := G.1
  have hT : T < 480 := by omega
  have ok0 := E_ok w n l false (xN t s) σ x1 x2 (fun q => by cases q) G (by omega)
  have no : ∀ {vs : List Int} {σ' : MS} {h' : Hp}, NC t has l σ' h' → h'.2.1 0 16 = (T : Int) + 1 → FW T s l vs h' → Cl shM mX9_whiles [pR 0, pI (T : Int), pI (s : Int), pI (vs.length : Int), pI (h'.1 16 (3 * T))] h' (fun _ h9 => LG P h9) → LG P h' := fun {vs σ' h'} S' ht' f' q =>
    m_lg w S' hs hk ht' (by omega) f' hl1 hl2 (fun e => absurd hk8 (by omega)) (fun e => absurd hk8 (by omega)) (fun e => absurd hk8 (by omega)) (fun e => absurd hk8 (by omega)) (fun _ => q) (fun _ _ _ _ z => absurd hk8 z)
  rw [E] at k
  refine no S ht fv (sX9_whiles_0 ⟨fun z => absurd rfl z, fun _ => ⟨by unfold inR; omega, 3 * s, by omega, by omega, ?_⟩⟩)
  have e0p : h.1 3 (3 * s) = ((xN t s : Nat) : Int) := (S.1.1.p (k := 0) hs (by decide)).trans x4
  rw [e0p]
  refine (IH l false (xN t s) σ (T + 1) h x1 x2 (fun q => by cases q) G hL (by omega) hl1 hl2 (by omega) S (KM.sub (by omega) (by omega) hs h11 NK.rf fv (fun ne => ?_) (fun e h1 k1 S1 ht1 => ?_))).1 rfl (by omega)
  · rw [if_pos ne] at k
    exact k
  · rw [if_neg (fun q => q e)] at k
    obtain ⟨_, ok2', ok3⟩ := ok0
    have g1 := ok2'.1
    generalize hr0 : E t n l false (xN t s) σ = r0 at *
    have fv1 := fv.sk k1 (by decide)
    refine m_deliver ht1 (by omega) fv1 (by decide) (fun fv2 => ?_)
    have k2 : NK T l h (hA (hA (hI h1 0 16 ((T : Int) + 1)) 16 (3 * T + ([] : List Int).length) r0.2.1) 15 T ((([] : List Int).length : Int) + 1)) := (((k1.lo (Nat.le_succ _) (Nat.le_refl _)).I (Or.inl rfl)).A (Or.inr (Or.inr (Or.inl ⟨rfl, by omega⟩)))).A (Or.inr (Or.inl ⟨Or.inr (Or.inl rfl), Nat.le_refl _⟩))
    have S2 : NC t has l r0.2.2.2 (hA (hA (hI h1 0 16 ((T : Int) + 1)) 16 (3 * T + ([] : List Int).length) r0.2.1) 15 T ((([] : List Int).length : Int) + 1)) := ((S1.sp _).A ⟨by decide, by decide⟩).A ⟨by decide, by decide⟩
    have ht2 : (hA (hA (hI h1 0 16 ((T : Int) + 1)) 16 (3 * T + ([] : List Int).length) r0.2.1) 15 T ((([] : List Int).length : Int) + 1)).2.1 0 16 = (T : Int) + 1 := by rw [hA_i, hA_i, hI_at, if_pos ⟨rfl, rfl⟩]
    generalize hA (hA (hI h1 0 16 ((T : Int) + 1)) 16 (3 * T + ([] : List Int).length) r0.2.1) 15 T ((([] : List Int).length : Int) + 1) = h2 at *
    have c0 : h2.1 16 (3 * T) = r0.2.1 := fv2.2.2.2 0 _ rfl
    refine no S2 ht2 fv2 ?_
    rw [c0]
    have e1' : ((([] ++ [r0.2.1] : List Int).length : Nat) : Int) = 1 := rfl
    rw [e1']
    refine sX9_whiles_0 ⟨fun _ => ⟨fun z => absurd rfl z, fun _ => ⟨fun e0 => ?_, fun e0 => ?_⟩⟩, fun z => absurd z (by decide)⟩
    · rw [if_neg e0] at k
      refine ⟨by unfold inR; omega, by unfold inR; omega, 3 * s + 1, by omega, by omega, ?_⟩
      have e1p : h2.1 3 (3 * s + 1) = ((yN t s : Nat) : Int) := (S2.1.1.p (k := 1) hs (by decide)).trans y4
      rw [e1p]
      have ok1 := E_ok w n l false (yN t s) r0.2.2.2 y1 y2 (fun q => by cases q) ok2' (by omega)
      refine (IH l false (yN t s) r0.2.2.2 (T + 1) h2 y1 y2 (fun q => by cases q) ok2' (by omega) (by omega) hl1 hl2 (by omega) S2 (KM.sub (by omega) (by omega) hs h11 k2 fv2 (fun ne => ?_) (fun e1 h3 k3 S3 ht3 => ?_))).1 rfl (by rw [ht2]; omega)
      · rw [if_pos ne] at k
        exact k
      · rw [if_neg (fun q => q e1)] at k
        obtain ⟨_, ok4, ok5⟩ := ok1
        generalize hr1 : E t n l false (yN t s) r0.2.2.2 = r1 at *
        have g2 := ok4.1
        have fv3 := fv2.sk k3 (by show 1 ≤ 3; decide)
        refine m_deliver ht3 (by omega) fv3 (by show 1 < 3; decide) (fun fv4 => ?_)
        have k4 : NK T l h (hA (hA (hI h3 0 16 ((T : Int) + 1)) 16 (3 * T + ([] ++ [r0.2.1]).length) r1.2.1) 15 T ((([] ++ [r0.2.1]).length : Int) + 1)) := (((k2.tr k3 (Nat.le_succ _) (Nat.le_refl _)).I (Or.inl rfl)).A (Or.inr (Or.inr (Or.inl ⟨rfl, by omega⟩)))).A (Or.inr (Or.inl ⟨Or.inr (Or.inl rfl), Nat.le_refl _⟩))
        have S4 : NC t has l r1.2.2.2 (hA (hA (hI h3 0 16 ((T : Int) + 1)) 16 (3 * T + ([] ++ [r0.2.1]).length) r1.2.1) 15 T ((([] ++ [r0.2.1]).length : Int) + 1)) := ((S3.sp _).A ⟨by decide, by decide⟩).A ⟨by decide, by decide⟩
        have ht4 : (hA (hA (hI h3 0 16 ((T : Int) + 1)) 16 (3 * T + ([] ++ [r0.2.1]).length) r1.2.1) 15 T ((([] ++ [r0.2.1]).length : Int) + 1)).2.1 0 16 = (T : Int) + 1 := by rw [hA_i, hA_i, hI_at, if_pos ⟨rfl, rfl⟩]
        generalize hA (hA (hI h3 0 16 ((T : Int) + 1)) 16 (3 * T + ([] ++ [r0.2.1]).length) r1.2.1) 15 T ((([] ++ [r0.2.1]).length : Int) + 1) = h4 at *
        refine no S4 ht4 fv4 ?_
        have e2 : ((([] ++ [r0.2.1] ++ [r1.2.1] : List Int).length : Nat) : Int) = 2 := rfl
        rw [e2]
        refine sX9_whiles_0 ⟨fun _ => ⟨fun _ => sX9_pays_0 ?_, fun z => absurd z (by decide)⟩, fun z => absurd z (by decide)⟩
        rw [S4.1.2.1, S4.1.2.2.2.2.2]
        refine ⟨fun cm => ⟨by unfold inR; omega, by unfold inR; omega, fun z => absurd z (by decide), fun _ => ⟨T, rfl, by omega, ?_⟩⟩, fun cm => ?_⟩
        · rw [if_neg (by omega)] at k
          have S5 : NC t has l (pay 1 r1.2.2.2) (hA (hI (hI h4 0 23 (mL r1.2.2.2 - 1)) 0 24 (has - mL r1.2.2.2 + 1)) 15 T 0) := (S4.pay 1).A ⟨by decide, by decide⟩
          have k5 : NK T l h (hA (hI (hI h4 0 23 (mL r1.2.2.2 - 1)) 0 24 (has - mL r1.2.2.2 + 1)) 15 T 0) := ((k4.I (by omega)).I (by omega)).A (Or.inr (Or.inl ⟨Or.inr (Or.inl rfl), Nat.le_refl _⟩))
          have ht5 : (hA (hI (hI h4 0 23 (mL r1.2.2.2 - 1)) 0 24 (has - mL r1.2.2.2 + 1)) 15 T 0).2.1 0 16 = (T : Int) + 1 := by
            rw [hA_i, hI_at, if_neg (by omega), hI_at, if_neg (by omega)]
            exact ht4
          have fv5 : FW T s l [] (hA (hI (hI h4 0 23 (mL r1.2.2.2 - 1)) 0 24 (has - mL r1.2.2.2 + 1)) 15 T 0) := ⟨by rw [hA_at, if_neg (by omega)]; exact fv4.1, by rw [hA_at, if_pos ⟨rfl, rfl⟩]; rfl, by rw [hA_at, if_neg (by omega)]; exact fv4.2.2.1, fun j v hj => by simp at hj⟩
          have l5 : mL (pay 1 r1.2.2.2) = mL r1.2.2.2 - 1 := rfl
          exact (IH l true s (pay 1 r1.2.2.2) T _ hs hk (fun _ => hk8) (ok4.pay (by omega)) (by omega) (by omega) hl1 hl2 hTr S5 (k.mv k5)).2 rfl ht5 fv5
        · rw [if_pos (by omega)] at k
          exact (k.2.2 rfl h4 k4.1 S4.1).mono (fun _ _ y => ⟨fun _ => y, fun q => absurd rfl q⟩)
    · rw [if_pos e0] at k
      exact (k.1 rfl h2 k2 S2 ht2).1
end MD
