/-! RUN: the class begins a step, ends one, and goes round -/
section CW
variable {t : TV} {fuel : Int} {P : Int → Hp → Prop}
theorem chgt (w : WF t) {s : Nat} (hs : s < mk t) (hk : kd t s ≠ -1) : (ch t s).length = ar t s ∧ ∀ j, j < ar t s → (ch t s)[j]? = some (pt t s j).toNat := by
  have ha : ar t s ≤ 3 := by
    have b := w.2.2.2.2.1 s hs
    exact ar_le3 ⟨b.1, b.2.1, fun q => by
      have h1 := (w.2.2.2.2.2.1 s hs hk).2.1 q
      have h2 := w.2.2.1 (nm t s).toNat (by omega)
      exact ⟨h1.1, h1.2, h2.1, h2.2.1⟩⟩
  have f := fun k h3 => (w.2.2.2.2.2.1 s hs hk).2.2.2 k h3
  have p1 : ∀ k, k < 3 → k < ar t s → pf t s k = [(pt t s k).toNat] := fun k h3 h => by
    unfold pf
    rw [if_pos ((f k h3).1 h)]
  have p0 : ∀ k, k < 3 → ¬ k < ar t s → pf t s k = [] := fun k h3 h => by
    unfold pf
    rw [(f k h3).2 (by omega), if_neg (by decide)]
  rw [ch_eq]
  rcases (by omega : ar t s = 0 ∨ ar t s = 1 ∨ ar t s = 2 ∨ ar t s = 3) with e | e | e | e
  · rw [p0 0 (by decide) (by omega), p0 1 (by decide) (by omega), p0 2 (by decide) (by omega), e]
    exact ⟨rfl, fun j hj => absurd hj (Nat.not_lt_zero _)⟩
  · rw [p1 0 (by decide) (by omega), p0 1 (by decide) (by omega), p0 2 (by decide) (by omega), e]
    refine ⟨rfl, fun j hj => ?_⟩
    obtain rfl : j = 0 := by omega
    rfl
  · rw [p1 0 (by decide) (by omega), p1 1 (by decide) (by omega), p0 2 (by decide) (by omega), e]
    refine ⟨rfl, fun j hj => ?_⟩
    rcases (by omega : j = 0 ∨ j = 1) with rfl | rfl <;> rfl
  · rw [p1 0 (by decide) (by omega), p1 1 (by decide) (by omega), p1 2 (by decide) (by omega), e]
    refine ⟨rfl, fun j hj => ?_⟩
    rcases (by omega : j = 0 ∨ j = 1 ∨ j = 2) with rfl | rfl | rfl <;> rfl
theorem sz_2 (w : WF t) {s : Nat} (hs : s < mk t) (hk : kd t s ≠ -1) (h : ar t s = 2) : sz t s = 1 + sz t (xN t s) + sz t (yN t s) := by
  rw [sz_ch w hs hk]
  obtain ⟨a, b⟩ := chgt w hs hk
  have b0 := b 0 (by omega)
  have b1 := b 1 (by omega)
  rcases hc : ch t s with _ | ⟨x, _ | ⟨y, _ | ⟨z, L⟩⟩⟩
  · rw [hc] at a; simp at a; omega
  · rw [hc] at a; simp at a; omega
  · rw [hc] at b0 b1
    have e0 : x = xN t s := Option.some.inj b0
    have e1 : y = yN t s := Option.some.inj b1
    rw [e0, e1]
    show 1 + (sz t _ + (sz t _ + 0)) = _
    omega
  · rw [hc] at a; simp at a; omega
def AQ (fuel : Int) (P : Int → Hp → Prop) (v6 : Int) (r1 : Int) (h1 : Hp) : Prop := (r1 = -4 → LO fuel P v6 h1) ∧ (¬ r1 = -4 → Cl shC mX2_begin [pR 19, pI r1] h1 (fun _ h2 => LO fuel P v6 h2))
theorem AQ.fin {v6 : Int} {h : Hp} (x : LO fuel P v6 h) : AQ fuel P v6 (-4) h := ⟨fun _ => x, fun c => absurd rfl c⟩
theorem AQ.beg {v6 : Int} {h : Hp} {p : Nat} (x : Cl shC mX2_begin [pR 19, pI (p : Int)] h (fun _ h2 => LO fuel P v6 h2)) : AQ fuel P v6 (p : Int) h := ⟨fun c => absurd c (by omega), fun _ => x⟩
theorem c_fin {T l fl : Nat} {h0 h : Hp} {B v6 v z : Int} {σ : MS} (k : KS t fuel P T l fl h0 B (0, v, z, σ)) (x : SK T l h0 h) (S : SC t l σ h) (ht : h.2.1 19 9 = (T : Int) + 1) (hT : T < 480) (hv : 0 ≤ v6) (hb : v6 + 3000 * mL σ ≤ B) : Cl shC mX2_finish [pR 19, pI v] h (fun _ h1 => AQ fuel P v6 (-4) h1) := by
  refine sX2_finish_0 ?_
  rw [ht, show (T : Int) + 1 - 1 = (T : Int) by omega]
  refine ⟨by unfold inR; omega, (k.1 rfl _ v6 (x.I (by decide)) (S.top _) (by rw [hI_at, if_pos ⟨rfl, rfl⟩]) hv hb).mono (fun _ _ y => AQ.fin y)⟩
theorem c_begin {l s : Nat} {σ : MS} {h : Hp} {Q : Int → Hp → Prop} (w : WF t) (S : SC t l σ h) (hs : s < mk t) (hk : kd t s ≠ -1) (hL : 0 ≤ mL σ ∧ mL σ ≤ 3000)
    (q6 : kd t s = 6 → Ok shC 0 0 mX2_begin 58 [some (pR 19), some (pI (s : Int)), some (pI (kd t s)), none] [] h Q)
    (qp : kd t s ≠ 6 → ¬ mL σ < stT 0 (kd t s).toNat → ∀ h2, SC t l (tick s (pay (stT 0 (kd t s).toNat) σ)) h2 → (∀ T, SK T l h h2) → h2.2.1 19 9 = h.2.1 19 9 → Ok shC 0 0 mX2_begin 58 [some (pR 19), some (pI (s : Int)), some (pI (kd t s)), none] [] h2 Q)
    (qr : kd t s ≠ 6 → mL σ < stT 0 (kd t s).toNat → Cl shC mX2_refuse [pR 19, pI 4, pI (s : Int)] h (fun _ h1 => Q 0 h1)) : Cl shC mX2_begin [pR 19, pI (s : Int)] h Q := by
  have hb := w.2.2.2.2.1 s hs
  have hm := w.1
  have R := S.1.1
  obtain ⟨k, hkk⟩ := Int.eq_ofNat_of_zero_le (show 0 ≤ kd t s by omega)
  have hst := stT0_in k (by omega)
  refine sX2_begin_0 (c_kindOf R _ ?_)
  rw [kdI_at hs]
  refine ⟨fun c => absurd c (by omega), fun _ => ⟨fun c => absurd c (by omega), fun _ => ⟨k, hkk, by omega, ?_⟩⟩⟩
  have ek : stT 0 (kd t s).toNat = stT 0 k := by rw [hkk, Int.toNat_natCast]
  rw [ek] at qp qr
  refine sX2_begin_30 ⟨fun c => sX2_begin_47 ⟨fun _ => q6 c, fun c2 => absurd c c2⟩, fun c => sX2_pay_0 ?_⟩
  rw [S.1.2.1]
  refine ⟨fun c2 => ⟨by unfold inR; omega, fun _ => ?_, fun z => absurd z (by decide)⟩, fun c2 => (qr c (by omega)).mono (fun _ _ y => ⟨fun z => absurd rfl z, fun _ => y⟩)⟩
  refine sX2_begin_47 ⟨fun c3 => absurd c3 c, fun _ => sX2_countOne_0 ⟨fun z => absurd z (by omega), fun _ => ⟨fun z => absurd z (by omega), fun _ => ⟨s, rfl, by omega, ?_⟩⟩⟩⟩
  refine qp c (by omega) _ ((S.pay (stT 0 k)).tick (by omega)) (fun T => (SK.rf.I (by decide)).A (Or.inl (Or.inl rfl))) ?_
  rw [hA_i, hI_at, if_neg (by omega)]
theorem c_push {l s T : Nat} {σ : MS} {h : Hp} {Q : Int → Hp → Prop} (S : SC t l σ h) (h0 : kd t s ≠ 0) (h1 : kd t s ≠ 1) (ht : h.2.1 19 9 = (T : Int)) (hT : T < 480) (q : ∀ h2, SC t l σ h2 → SK T l h h2 → h2.2.1 19 9 = (T : Int) + 1 → FV T s [] h2 → Q 0 h2) : Ok shC 0 0 mX2_begin 58 [some (pR 19), some (pI (s : Int)), some (pI (kd t s)), none] [] h Q := by
  refine sX2_begin_58 ⟨fun _ => ⟨fun _ => ?_, fun c => absurd c h1⟩, fun c => absurd c h0⟩
  rw [ht]
  refine ⟨fun c => absurd c (by omega), fun _ => ⟨T, rfl, hT, by unfold inR; omega, ?_⟩⟩
  refine q _ (((S.A ⟨by decide, by decide⟩).A ⟨by decide, by decide⟩).top _) (((SK.rf.A (Or.inr (Or.inl ⟨Or.inl rfl, Nat.le_refl _⟩))).A (Or.inr (Or.inl ⟨Or.inr rfl, Nat.le_refl _⟩))).I (by decide)) (by rw [hI_at, if_pos ⟨rfl, rfl⟩]) ⟨?_, ?_, fun j v hj => by simp at hj⟩
  · rw [hI_a, hA_at, if_neg (by omega), hA_at, if_pos ⟨rfl, rfl⟩]
  · rw [hI_a, hA_at, if_pos ⟨rfl, rfl⟩]
    rfl
theorem c_while {n l s T fl : Nat} {σ : MS} {h : Hp} {v6 : Int} (w : WF t) (IH : CE t fuel P n) (hs : s < mk t) (hk8 : kd t s = 8) (G : GM t σ) (hN : 50 * mL σ + (rk t s : Int) < ((n + 1 : Nat) : Int)) (hl1 : 1 ≤ l) (hl2 : l ≤ 12) (hTr : T + rk t s ≤ 40 * l) (hfl : fl ≤ T) (S : SC t l σ h) (hf : h.1 24 (l - 1) = (fl : Int) - 1) (hv : 0 ≤ v6) (hb : v6 + 3000 * mL σ + 5 * (sz t s : Int) ≤ 9000000) (k : KS t fuel P T l fl h (v6 + 3000 * mL σ + 5 * (sz t s : Int)) (E t (n + 1) l true s σ)) (ht : h.2.1 19 9 = (T : Int) + 1) (fv : FV T s [] h) : Cl shC mX2_begin [pR 19, pI ((xN t s : Nat) : Int)] h (fun _ h' => LO fuel P v6 h') := by
  have hk : kd t s ≠ -1 := by rw [hk8]; decide
  have h11 : kd t s ≠ 11 := by rw [hk8]; decide
  have har := ar_2 (t := t) (s := s) (Or.inr (Or.inr (Or.inl hk8)))
  obtain ⟨x1, x2, x3, x4⟩ := p_of w hs hk (j := 0) (by rw [har]; decide) (by decide)
  obtain ⟨y1, y2, y3, y4⟩ := p_of w hs hk (j := 1) (by rw [har]; decide) (by decide)
  have x1 : xN t s < mk t := x1
  have y1 : yN t s < mk t := y1
  have x2 : kd t (xN t s) ≠ -1 := x2
  have y2 : kd t (yN t s) ≠ -1 := y2
  have x3 : rk t (xN t s) < rk t s := x3
  have y3 : rk t (yN t s) < rk t s := y3
  have hsz := sz_2 w hs hk har
  have h6 := sz_600 w s
  have hr := rk_pos w hs hk
  have g0 := G.1
  have hT : T < 480 := by omega
  have ok0 := E_ok w n l false (xN t s) σ x1 x2 (fun q => by cases q) G (by omega)
  rw [E] at k
  refine (IH l false (xN t s) σ (T + 1) fl h v6 x1 x2 (fun q => by cases q) G (by omega) hl1 hl2 (by omega) (by omega) S hf hv (by omega) (KS.sub (B := v6 + 3000 * mL σ + 5 * (sz t s : Int)) hT hfl hs h11 SK.rf fv.1 (by omega) (fun ne => ?_) (fun e h1 v1 k1 S1 ht1 hv1 hb1 => ?_))).1 rfl ht
  · rw [if_pos ne] at k
    exact k
  · rw [if_neg (fun q => q e)] at k
    obtain ⟨_, ok2', ok3⟩ := ok0
    have g1 := ok2'.1
    generalize hr0 : E t n l false (xN t s) σ = r0 at *
    have fv1 := fv.sk k1 (by decide)
    refine c_deliver ht1 hT fv1 (by decide) (fun fv2 => ?_)
    have k2 : SK T l h (hA (hA h1 27 (4 * T + ([] : List Int).length) r0.2.1) 26 T ((([] : List Int).length : Int) + 1)) := ((k1.lo (Nat.le_succ _) (Nat.le_refl _)).A (Or.inr (Or.inr (Or.inl ⟨rfl, by omega⟩)))).A (Or.inr (Or.inl ⟨Or.inr rfl, Nat.le_refl _⟩))
    have S2 : SC t l r0.2.2.2 (hA (hA h1 27 (4 * T + ([] : List Int).length) r0.2.1) 26 T ((([] : List Int).length : Int) + 1)) := (S1.A ⟨by decide, by decide⟩).A ⟨by decide, by decide⟩
    have ht2 : (hA (hA h1 27 (4 * T + ([] : List Int).length) r0.2.1) 26 T ((([] : List Int).length : Int) + 1)).2.1 19 9 = (T : Int) + 1 := ht1
    generalize hA (hA h1 27 (4 * T + ([] : List Int).length) r0.2.1) 26 T ((([] : List Int).length : Int) + 1) = h2 at *
    have c1 : h2.1 26 T = 1 := fv2.2.1
    have c0 : h2.1 27 (4 * T) = r0.2.1 := fv2.2.2 0 _ rfl
    refine c_lp ht2 S2.2.2.2.1 hT ⟨hv1, by omega⟩ (c_adv w S2.1.1 hT hs hk fv2.1 (fun q => absurd q (by omega)) (fun q => absurd q (by omega)) (fun _ => ?_) (fun _ _ q => absurd hk8 q))
    refine sX2_advanceWhile_0 ⟨T, rfl, hT, ?_⟩
    rw [c1]
    refine ⟨fun _ => ⟨fun _ => ⟨by unfold inR; omega, 4 * T, by omega, by omega, ?_⟩, fun q => absurd q (by decide)⟩, fun q => absurd q (by decide)⟩
    rw [c0]
    refine ⟨fun e0 => ?_, fun e0 => ?_⟩
    · rw [if_pos e0] at k
      exact c_fin k k2 S2 ht2 hT (by omega) (by omega)
    · rw [if_neg e0] at k
      refine c_partOf S2.1.1 _ _ ?_
      have e1p : ptI t (s : Int) 1 = ((yN t s : Nat) : Int) := (ptI_at (k := 1) hs (by decide)).trans y4
      rw [e1p]
      refine AQ.beg ?_
      have f24 : h2.1 24 (l - 1) = (fl : Int) - 1 := (k2.2.2.1 _ (by omega)).trans hf
      have ok1 := E_ok w n l false (yN t s) r0.2.2.2 y1 y2 (fun q => by cases q) ok2' (by omega)
      refine (IH l false (yN t s) r0.2.2.2 (T + 1) fl h2 (v1 + 1) y1 y2 (fun q => by cases q) ok2' (by omega) hl1 hl2 (by omega) (by omega) S2 f24 (by omega) (by omega) (KS.sub (B := v6 + 3000 * mL σ + 5 * (sz t s : Int)) hT hfl hs h11 k2 fv2.1 (by omega) (fun ne => ?_) (fun e1 h3 v3 k3 S3 ht3 hv3 hb3 => ?_))).1 rfl (by rw [ht2]; omega)
      · rw [if_pos ne] at k
        exact k
      · rw [if_neg (fun q => q e1)] at k
        obtain ⟨_, ok4, ok5⟩ := ok1
        generalize hr1 : E t n l false (yN t s) r0.2.2.2 = r1 at *
        have g2 := ok4.1
        have fv3 := fv2.sk k3 (by show 1 ≤ 4; decide)
        refine c_deliver ht3 hT fv3 (by show 1 < 4; decide) (fun fv4 => ?_)
        have k4 : SK T l h (hA (hA h3 27 (4 * T + ([] ++ [r0.2.1]).length) r1.2.1) 26 T ((([] ++ [r0.2.1]).length : Int) + 1)) := ((k2.tr k3 (Nat.le_succ _) (Nat.le_refl _)).A (Or.inr (Or.inr (Or.inl ⟨rfl, by omega⟩)))).A (Or.inr (Or.inl ⟨Or.inr rfl, Nat.le_refl _⟩))
        have S4 : SC t l r1.2.2.2 (hA (hA h3 27 (4 * T + ([] ++ [r0.2.1]).length) r1.2.1) 26 T ((([] ++ [r0.2.1]).length : Int) + 1)) := (S3.A ⟨by decide, by decide⟩).A ⟨by decide, by decide⟩
        have ht4 : (hA (hA h3 27 (4 * T + ([] ++ [r0.2.1]).length) r1.2.1) 26 T ((([] ++ [r0.2.1]).length : Int) + 1)).2.1 19 9 = (T : Int) + 1 := ht3
        generalize hA (hA h3 27 (4 * T + ([] ++ [r0.2.1]).length) r1.2.1) 26 T ((([] ++ [r0.2.1]).length : Int) + 1) = h4 at *
        have c2 : h4.1 26 T = 2 := fv4.2.1
        refine c_lp ht4 S4.2.2.2.1 hT ⟨hv3, by omega⟩ (c_adv w S4.1.1 hT hs hk fv4.1 (fun q => absurd q (by omega)) (fun q => absurd q (by omega)) (fun _ => ?_) (fun _ _ q => absurd hk8 q))
        refine sX2_advanceWhile_0 ⟨T, rfl, hT, ?_⟩
        rw [c2]
        refine ⟨fun q => absurd rfl q, fun _ => sX2_pay_0 ?_⟩
        have e8 : stT 0 8 = 1 := by decide
        rw [S4.1.2.1, e8]
        refine ⟨fun cm => ⟨by unfold inR; omega, fun _ => ⟨fun q => absurd (by rw [hA_at, if_pos ⟨rfl, rfl⟩]) q, fun _ => ?_⟩, fun q => absurd q (by decide)⟩, fun cm => ?_⟩
        · rw [if_neg (by omega)] at k
          have S5 : SC t l (pay 1 r1.2.2.2) (hA (hI h4 19 11 (mL r1.2.2.2 - 1)) 26 T 0) := (S4.pay 1).A ⟨by decide, by decide⟩
          have k5 : SK T l h (hA (hI h4 19 11 (mL r1.2.2.2 - 1)) 26 T 0) := (k4.I (by decide)).A (Or.inr (Or.inl ⟨Or.inr rfl, Nat.le_refl _⟩))
          have ht5 : (hA (hI h4 19 11 (mL r1.2.2.2 - 1)) 26 T 0).2.1 19 9 = (T : Int) + 1 := by
            rw [hA_i, hI_at, if_neg (by omega)]
            exact ht4
          have fv5 : FV T s [] (hA (hI h4 19 11 (mL r1.2.2.2 - 1)) 26 T 0) := ⟨by rw [hA_at, if_neg (by omega)]; exact fv4.1, by rw [hA_at, if_pos ⟨rfl, rfl⟩]; rfl, fun j v hj => by simp at hj⟩
          refine c_partOf S5.1.1 _ _ ?_
          have e0p : ptI t (s : Int) 0 = ((xN t s : Nat) : Int) := (ptI_at (k := 0) hs (by decide)).trans x4
          rw [e0p]
          refine AQ.beg ?_
          have f5 : (hA (hI h4 19 11 (mL r1.2.2.2 - 1)) 26 T 0).1 24 (l - 1) = (fl : Int) - 1 := (k5.2.2.1 _ (by omega)).trans hf
          have l5 : mL (pay 1 r1.2.2.2) = mL r1.2.2.2 - 1 := rfl
          exact (IH l true s (pay 1 r1.2.2.2) T fl _ (v3 + 1) hs hk (fun _ => hk8) (ok4.pay (by omega)) (by omega) hl1 hl2 hTr hfl S5 f5 (by omega) (by omega) (k.mv k5 (by omega))).2 rfl ht5 fv5
        · rw [if_pos (by omega)] at k
          refine (k.2.2 rfl h4 (v3 + 1) k4.1 S4.z (by omega) (by show v3 + 1 + 3000 * mL r1.2.2.2 ≤ _; omega)).mono (fun _ _ y => ⟨fun q => absurd rfl q, fun _ => AQ.fin y⟩)
end CW
