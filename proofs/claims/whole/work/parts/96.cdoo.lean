/-! RUN: the class ends a step whose parts have their values -/
section CD
variable {t : TV} {fuel : Int} {P : Int → Hp → Prop}
theorem SC.nam {l k : Nat} {v : Int} {σ : MS} {h : Hp} (x : SC t l σ h) (hk : k < 40) : SC t l (up1 (mN σ) k v, σ.2) (hA h 23 (40 * (l - 1) + k) v) := by
  obtain ⟨y, x2, x3, x4, x5, x6, x7⟩ := x
  have y' : SR t (up1 (mN σ) k v, σ.2) h := y
  refine ⟨y'.A ⟨by decide, by decide⟩, fun q hq => ?_, x3, x4, x5, x6, fun r hr => ?_⟩
  · show _ = up1 (mN σ) k v q
    rw [hA_at, up1_at]
    by_cases e : q = k
    · rw [if_pos ⟨rfl, by omega⟩, if_pos e]
    · rw [if_neg (by omega), if_neg e]
      exact x2 q hq
  · rw [hA_at, if_neg (by omega)]
    exact x7 r hr
theorem SC.rw1 {l i : Nat} {v : Int} {σ : MS} {h : Hp} (x : SC t l σ h) : SC t l (mN σ, mL σ, mC σ, up1 (mR σ) i v, mO σ) (hA h 21 i v) := by
  obtain ⟨⟨y1, y2, y3, y4, y5⟩, x2, x3, x4, x5, x6, x7⟩ := x
  refine ⟨⟨y1.kp (fr.rf.A (lo := 19) (hi := 27) ⟨by decide, by decide⟩) (Or.inl (by decide)), y2, fun q hq => ?_, fun j hj => ?_, y5⟩, fun k hk => ?_, x3, x4, x5, x6, fun r hr => ?_⟩
  · rw [hA_at, if_neg (by omega)]
    exact y3 q hq
  · show _ = up1 (mR σ) i v j
    rw [hA_at, up1_at]
    by_cases e : j = i
    · rw [if_pos ⟨rfl, e⟩, if_pos e]
    · rw [if_neg (fun z => e z.2), if_neg e]
      exact y4 j hj
  · rw [hA_at, if_neg (by omega)]
    exact x2 k hk
  · rw [hA_at, if_neg (by omega)]
    exact x7 r hr
theorem c_finr {T l fl : Nat} {h0 h : Hp} {B v6 : Int} {r : RS} (k : KS t fuel P T l fl h0 B r) (e : r.1 = 0) (x : SK T l h0 h) (S : SC t l r.2.2.2 h) (ht : h.2.1 19 9 = (T : Int) + 1) (hT : T < 480) (hv : 0 ≤ v6) (hb : v6 + 3000 * mL r.2.2.2 ≤ B) : Cl shC mX2_finish [pR 19, pI r.2.1] h (fun _ h1 => AQ fuel P v6 (-4) h1) := by
  refine sX2_finish_0 ?_
  rw [ht, show (T : Int) + 1 - 1 = (T : Int) by omega]
  refine ⟨by unfold inR; omega, (k.1 e _ v6 (x.I (by decide)) (S.top _) (by rw [hI_at, if_pos ⟨rfl, rfl⟩]) hv hb).mono (fun _ _ y => AQ.fin y)⟩
theorem gD {vs : List Int} {j : Nat} (h : j < vs.length) : vs[j]? = some (vs.getD j 0) := by
  rw [List.getElem?_eq_getElem h]
  simp [List.getD, List.getElem?_eq_getElem h]
theorem c_doo {T l fl s : Nat} {h0 h : Hp} {B v6 : Int} {σ : MS} {vs : List Int} (w : WF t) (hs : s < mk t) (hk : kd t s ≠ -1) (h3 : kd t s ≠ 3) (h6 : kd t s ≠ 6) (h8 : kd t s ≠ 8) (h11 : kd t s ≠ 11) (h0k : kd t s ≠ 0) (h1k : kd t s ≠ 1) (hvs : vs.length = ar t s) (hl1 : 1 ≤ l) (hl2 : l ≤ 12) (hT : T < 480) (hfl : fl ≤ T) (x : SK T l h0 h) (S : SC t l σ h) (ht : h.2.1 19 9 = (T : Int) + 1) (hf : h.1 24 (l - 1) = (fl : Int) - 1) (fv : FV T s vs h) (hv : 0 ≤ v6) (hv9 : v6 < 10000000) (hb : v6 + 1 + 3000 * mL σ ≤ B) (k : KS t fuel P T l fl h0 B (doo t s vs σ)) : LO fuel P v6 h := by
  have hm := w.1
  have hkb := w.2.2.2.2.1 s hs
  have hks := w.2.2.2.2.2.1 s hs hk
  have har1 : 1 ≤ ar t s := by
    rcases (by omega : (kd t s = 2 ∨ kd t s = 5 ∨ kd t s = 8 ∨ kd t s = 10) ∨ (kd t s = 4 ∨ kd t s = 7 ∨ kd t s = 9 ∨ kd t s = 11)) with e | e
    · rw [ar_2 e]; decide
    · rw [ar_1 e]; exact Nat.le_refl _
  have hx : h.1 27 (4 * T) = vs.getD 0 0 := fv.2.2 0 _ (gD (by omega))
  refine c_lp ht S.2.2.2.1 hT ⟨hv, hv9⟩ (c_adv w S.1.1 hT hs hk fv.1 (fun q => absurd q h3) (fun q => absurd q h6) (fun q => absurd q h8) (fun _ _ _ => ⟨fun _ => ?_, fun c => absurd (by rw [fv.2.1, hvs]; exact Int.le_refl _) c⟩))
  show Cl shC mX2_conclude _ h (fun _ h' => AQ fuel P (v6 + 1) (-4) h')
  have hyv : kd t s = 2 ∨ kd t s = 5 ∨ kd t s = 10 → h.1 27 (4 * T + 1) = vs.getD 1 0 := fun q => fv.2.2 1 _ (gD (by rw [hvs, ar_2 (by omega)]; decide))
  have go : ∀ {v z : Int} {σ' : MS} {h' : Hp}, doo t s vs σ = (0, v, z, σ') → SK T l h h' → SC t l σ' h' → h'.2.1 19 9 = (T : Int) + 1 → mL σ' = mL σ → Cl shC mX2_finish [pR 19, pI v] h' (fun _ h1 => AQ fuel P (v6 + 1) (-4) h1) := fun {v z σ' h'} e y S' ht' el => by
    rw [e] at k
    exact c_fin k (x.tr y (Nat.le_refl _) (Nat.le_refl _)) S' ht' hT (by omega) (by rw [el]; omega)
  have rf : ∀ {v z : Int}, doo t s vs σ = (2, v, z, σ) → Cl shC mX2_refuse [pR 19, pI v, pI z] h (fun _ h1 => AQ fuel P (v6 + 1) (-4) h1) := fun {v z} e => by
    rw [e] at k
    exact (k.2.2 rfl h (v6 + 1) x.1 S.z (by omega) hb).mono (fun _ _ y => AQ.fin y)
  refine sX2_conclude_0 ⟨by unfold inR; omega, 4 * T, by omega, by omega, by unfold inR; omega, 4 * T + 1, by omega, by omega, ?_⟩
  rw [hx]
  refine ⟨fun c2 => ⟨fun c4 => ⟨fun c5 => ⟨fun c7 => ⟨fun c9 => ?_, fun c9 => ⟨fun c10 => absurd c9 (by omega), fun c10 => ?_⟩⟩, fun c7 => ?_⟩, fun c5 => ?_⟩, fun c4 => ?_⟩, fun c2 => ?_⟩
  · -- REACH
    have ed : doo t s vs σ = if vs.getD 0 0 < 0 ∨ 8 ≤ vs.getD 0 0 then (2, 2, (s : Int), σ) else (0, mR σ (vs.getD 0 0).toNat, 0, σ) := by
      unfold doo
      rw [if_neg c2, if_neg c4, if_neg c5, if_neg c7, if_neg (show ¬ kd t s = 10 by omega)]
    refine sX2_concludePlace_0 ⟨fun c => rf (by rw [ed, if_pos (Or.inl c)]), fun c => ⟨fun c' => ⟨fun _ => sX2_reach_0 ?_, fun q => absurd q (by omega)⟩, fun c' => rf (by rw [ed, if_pos (Or.inr (by omega))])⟩⟩
    refine ⟨fun q => absurd q c, fun _ => ⟨fun q => absurd q (by omega), fun _ => ⟨(vs.getD 0 0).toNat, by omega, by omega, ?_⟩⟩⟩
    rw [S.1.2.2.2.1 _ (by omega)]
    exact go (by rw [ed, if_neg (by omega)]) SK.rf S ht rfl
  · -- LAY
    have ed : doo t s vs σ = if vs.getD 0 0 < 0 ∨ 8 ≤ vs.getD 0 0 then (2, 2, (s : Int), σ) else (0, vs.getD 1 0, 0, (mN σ, mL σ, mC σ, up1 (mR σ) (vs.getD 0 0).toNat (vs.getD 1 0), mO σ)) := by
      unfold doo
      rw [if_neg c2, if_neg c4, if_neg c5, if_neg c7, if_pos c10]
    rw [hyv (Or.inr (Or.inr c10))]
    refine sX2_concludePlace_0 ⟨fun c => rf (by rw [ed, if_pos (Or.inl c)]), fun c => ⟨fun c' => ⟨fun q => absurd c10 q, fun _ => sX2_put_0 ?_⟩, fun c' => rf (by rw [ed, if_pos (Or.inr (by omega))])⟩⟩
    refine ⟨fun q => absurd q c, fun _ => ⟨fun _ => ⟨(vs.getD 0 0).toNat, by omega, by omega, ?_⟩, fun q => absurd c' q⟩⟩
    exact go (by rw [ed, if_neg (by omega)]) (SK.rf.A (Or.inl (Or.inr (Or.inl rfl)))) S.rw1 ht rfl
  · -- LEAVE
    have ed : doo t s vs σ = (1, vs.getD 0 0, 0, σ) := by
      unfold doo
      rw [if_neg c2, if_neg c4, if_neg c5, if_pos c7]
    rw [ed] at k
    refine sX2_leaveWith_0 ?_
    rw [S.2.2.1, ht]
    refine ⟨fun q => absurd q (by omega), fun _ => ⟨by unfold inR; omega, l - 1, by omega, by omega, by unfold inR; omega, ?_⟩⟩
    rw [hf, show (T : Int) + 1 - 1 = (T : Int) by omega]
    refine sX2_leaveWith_30 ⟨fun q => absurd q (by omega), fun _ => ⟨T, rfl, hT, ?_⟩⟩
    rw [fv.1]
    refine c_kindOf S.1.1 _ ?_
    rw [kdI_at hs]
    exact ⟨fun q => absurd q h11, fun _ => ⟨by unfold inR; omega, (k.2.1 rfl h (v6 + 1) x S (by omega) hb).mono (fun _ _ y _ _ => AQ.fin y)⟩⟩
  · -- BOTH
    rw [hyv (Or.inr (Or.inl c5))]
    refine go (σ' := σ) (z := 0) ?_ SK.rf S ht rfl
    unfold doo
    rw [if_neg c2, if_neg c4, if_pos c5]
  · -- SET
    have hn := hks.1 (Or.inr c4)
    refine c_numberOf S.1.1 _ ?_
    rw [nmI_at hs]
    refine sX2_writeName_0 ⟨fun q => absurd q (by omega), fun _ => ⟨fun q => absurd q (by omega), fun _ => ?_⟩⟩
    rw [S.2.2.1]
    refine ⟨fun q => absurd q (by omega), fun _ => ⟨by unfold inR; omega, by unfold inR; omega, by unfold inR; omega, 40 * (l - 1) + (nm t s).toNat, by omega, by omega, ?_⟩⟩
    refine go (σ' := (up1 (mN σ) (nm t s).toNat (vs.getD 0 0), σ.2)) (z := 0) ?_ (SK.rf.A (Or.inr (Or.inr (Or.inr (Or.inr ⟨rfl, by omega⟩))))) (S.nam (by omega)) ht rfl
    unfold doo
    rw [if_neg c2, if_pos c4]
  · -- ACT
    rw [hyv (Or.inl c2)]
    have ed : doo t s vs σ = if nm t s = 3 ∧ vs.getD 1 0 = 0 then (2, 1, (s : Int), σ) else (0, rkn (nm t s) (vs.getD 0 0) (vs.getD 1 0), 0, σ) := by
      unfold doo
      rw [if_pos c2]
    refine sX2_concludeAct_0 (c_numberOf S.1.1 _ ?_)
    rw [nmI_at hs]
    refine ⟨fun q => c_reckon _ _ _ (go (by rw [ed, if_neg (fun y => q y.1)]) SK.rf S ht rfl), fun q => ⟨fun q2 => c_reckon _ _ _ (go (by rw [ed, if_neg (fun y => q2 y.2)]) SK.rf S ht rfl), fun q2 => rf (by rw [ed, if_pos ⟨q, q2⟩])⟩⟩
end CD
