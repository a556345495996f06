/-! RUN: the class makes a call -/
section CC
variable {t : TV} {fuel : Int} {P : Int → Hp → Prop}
theorem SC.nm {l : Nat} {σ : MS} {h : Hp} (x : SC t l σ h) {N : Nat → Int} (e : ∀ k, k < 40 → mN σ k = N k) : SC t l (N, σ.2) h := by
  obtain ⟨y, x2, x3, x4, x5, x6, x7⟩ := x
  have y' : SR t (N, σ.2) h := y
  exact ⟨y', fun k hk => (x2 k hk).trans (e k hk), x3, x4, x5, x6, x7⟩
theorem c_wname {l k : Nat} {v : Int} {σ : MS} {h : Hp} {Q : Int → Hp → Prop} (S : SC t (l + 1) σ h) (hl : l < 12) (hk : k < 40) (q : SC t (l + 1) (up1 (mN σ) k v, σ.2) (hA h 23 (40 * l + k) v) → Q 0 (hA h 23 (40 * l + k) v)) : Cl shC mX2_writeName [pR 19, pI (k : Int), pI v] h Q := by
  have q' := q (S.nam hk)
  refine sX2_writeName_0 ⟨fun q => absurd q (by omega), fun _ => ⟨fun q => absurd q (by omega), fun _ => ?_⟩⟩
  rw [S.2.2.1]
  exact ⟨fun q => absurd q (by omega), fun _ => ⟨by unfold inR; omega, by unfold inR; omega, by unfold inR; omega, 40 * l + k, by omega, by omega, q'⟩⟩
theorem c_openCall {l : Nat} {σ : MS} {h : Hp} {Q : Int → Hp → Prop} {frame p a b c : Int} {vs : List Int} (S : SC t l σ h) (hl : l < 12) (ha : 0 < p → a = vs.getD 0 0) (hb : 1 < p → b = vs.getD 1 0) (hc : 2 < p → c = vs.getD 2 0)
    (q : ∀ h2, SC t (l + 1) (args p vs, mL σ, mC σ, mR σ, max (mO σ) ((l : Int) + 1)) h2 → (∀ T, SK T l h h2) → (∀ x, x < 40 * l → h2.1 23 x = h.1 23 x) → h2.1 24 l = frame → h2.2.1 19 9 = h.2.1 19 9 → Q 0 h2) : Cl shC mX2_openCall [pR 19, pI frame, pI p, pI a, pI b, pI c] h Q := by
  refine sX2_openCall_0 ?_
  rw [S.2.2.1]
  refine ⟨fun _ => ⟨l, rfl, hl, by unfold inR; omega, by unfold inR; omega, by unfold inR; omega, c_fillIn (lo := 40 * l) (hi := 40 * l + 40) (n := 480) (by omega) (by omega) (shC_23 _) (by decide) (by omega) (by omega) ?_⟩, fun z => absurd (by omega) z⟩
  have eF : ∀ x j, (filA (hA h 24 l frame) 23 (40 * l) (40 * l + 40) 0).1 x j = if x = 23 ∧ 40 * l ≤ j ∧ j < 40 * l + 40 then 0 else if x = 24 ∧ j = l then frame else h.1 x j := fun x j => rfl
  have eI : ∀ o j, (filA (hA h 24 l frame) 23 (40 * l) (40 * l + 40) 0).2.1 o j = h.2.1 o j := fun _ _ => rfl
  rw [eI, eI, S.2.2.1, S.1.2.2.2.2]
  refine ⟨by unfold inR; omega, ?_⟩
  obtain ⟨⟨y1, y2, y3, y4, y5⟩, x2, x3, x4, x5, x6, x7⟩ := S
  generalize hh1 : hI (hI (filA (hA h 24 l frame) 23 (40 * l) (40 * l + 40) 0) 19 10 ((l : Int) + 1)) 19 16 (max (mO σ) ((l : Int) + 1)) = h1
  have e1 : ∀ x j, h1.1 x j = if x = 23 ∧ 40 * l ≤ j ∧ j < 40 * l + 40 then 0 else if x = 24 ∧ j = l then frame else h.1 x j := fun x j => by rw [← hh1]; rfl
  have e2 : ∀ o k, h1.2.1 o k = if o = 19 ∧ k = 16 then max (mO σ) ((l : Int) + 1) else if o = 19 ∧ k = 10 then (l : Int) + 1 else h.2.1 o k := fun o k => by rw [← hh1]; rfl
  have e3 : h1.2.2 = h.2.2 := by rw [← hh1]; rfl
  have F1 : F12 h h1 := ⟨⟨fun z hz => ⟨by
    funext j
    rw [e1, if_neg (by omega), if_neg (by omega)], by
    funext j
    rw [e2, if_neg (by omega), if_neg (by omega)]⟩, e3⟩, by rw [e2, if_neg (by omega), if_neg (by omega)]⟩
  have K1 : ∀ T, SK T l h h1 := fun T => ⟨F1, fun i _ => ⟨by rw [e1, if_neg (by omega), if_neg (by omega)], by rw [e1, if_neg (by omega), if_neg (by omega)], fun j _ => by rw [e1, if_neg (by omega), if_neg (by omega)]⟩, fun i hi => by rw [e1, if_neg (by omega), if_neg (by omega)], fun z hz => by rw [e1, if_neg (by omega), if_neg (by omega)]⟩
  have S1 : SC t (l + 1) (fun _ => 0, mL σ, mC σ, mR σ, max (mO σ) ((l : Int) + 1)) h1 := by
    refine ⟨⟨y1.kp F1.1 (Or.inl (by decide)), ?_, fun z hz => ?_, fun z hz => ?_, ?_⟩, fun k hk => ?_, ?_, ?_, ?_, ?_, fun z hz => ?_⟩
    · rw [e2, if_neg (by omega), if_neg (by omega)]; exact y2
    · rw [e1, if_neg (by omega), if_neg (by omega)]; exact y3 z hz
    · rw [e1, if_neg (by omega), if_neg (by omega)]; exact y4 z hz
    · rw [e2, if_pos ⟨rfl, rfl⟩]
    · rw [e1, if_pos ⟨rfl, by omega, by omega⟩]
    · rw [e2, if_neg (by omega), if_pos ⟨rfl, rfl⟩]; rfl
    · rw [e2, if_neg (by omega), if_neg (by omega)]; exact x4
    · rw [e2, if_neg (by omega), if_neg (by omega)]; exact x5
    · rw [e2, if_neg (by omega), if_neg (by omega)]; exact x6
    · rw [e1, if_neg (by omega), if_neg (by omega)]; exact x7 z hz
  have n23 : ∀ x, x < 40 * l → h1.1 23 x = h.1 23 x := fun x hx => by rw [e1, if_neg (by omega), if_neg (by omega)]
  have n24 : h1.1 24 l = frame := by rw [e1, if_neg (by omega), if_pos ⟨rfl, rfl⟩]
  have n9 : h1.2.1 19 9 = h.2.1 19 9 := by rw [e2, if_neg (by omega), if_neg (by omega)]
  have fin : ∀ v0 v1 v2, v0 = args p vs 0 → v1 = args p vs 1 → v2 = args p vs 2 → SC t (l + 1) (up1 (up1 (up1 (fun _ => 0) 0 v0) 1 v1) 2 v2, mL σ, mC σ, mR σ, max (mO σ) ((l : Int) + 1)) (hA (hA (hA h1 23 (40 * l + 0) v0) 23 (40 * l + 1) v1) 23 (40 * l + 2) v2) → Q 0 (hA (hA (hA h1 23 (40 * l + 0) v0) 23 (40 * l + 1) v1) 23 (40 * l + 2) v2) := fun v0 v1 v2 z0 z1 z2 S3 => by
    refine q _ (S3.nm (fun k hk => ?_)) (fun T => (((K1 T).A (Or.inr (Or.inr (Or.inr (Or.inr ⟨rfl, by omega⟩))))).A (Or.inr (Or.inr (Or.inr (Or.inr ⟨rfl, by omega⟩))))).A (Or.inr (Or.inr (Or.inr (Or.inr ⟨rfl, by omega⟩))))) (fun x hx => ?_) ?_ n9
    · show up1 (up1 (up1 (fun _ => 0) 0 v0) 1 v1) 2 v2 k = args p vs k
      rw [up1_at, up1_at, up1_at]
      by_cases k2 : k = 2
      · rw [if_pos k2, k2]; exact z2
      · rw [if_neg k2]
        by_cases k1 : k = 1
        · rw [if_pos k1, k1]; exact z1
        · rw [if_neg k1]
          by_cases k0 : k = 0
          · rw [if_pos k0, k0]; exact z0
          · rw [if_neg k0]
            unfold args
            rw [if_neg (by omega)]
    · rw [hA_at, if_neg (by omega), hA_at, if_neg (by omega), hA_at, if_neg (by omega)]
      exact n23 x hx
    · rw [hA_at, if_neg (by omega), hA_at, if_neg (by omega), hA_at, if_neg (by omega)]
      exact n24
  have a0 : ∀ k : Nat, k < 3 → p ≤ (k : Int) → (0 : Int) = args p vs k := fun k _ hp => by
    unfold args
    rw [if_neg (by omega)]
  have a1 : ∀ k : Nat, k < 3 → (k : Int) < p → vs.getD k 0 = args p vs k := fun k hk hp => by
    unfold args
    rw [if_pos ⟨hp, hk⟩]
  have W2 : ∀ v0 v1, v0 = args p vs 0 → v1 = args p vs 1 → ∀ v2, v2 = args p vs 2 → SC t (l + 1) (up1 (up1 (fun _ => 0) 0 v0) 1 v1, mL σ, mC σ, mR σ, max (mO σ) ((l : Int) + 1)) (hA (hA h1 23 (40 * l + 0) v0) 23 (40 * l + 1) v1) → Cl shC mX2_writeName [pR 19, pI 2, pI v2] (hA (hA h1 23 (40 * l + 0) v0) 23 (40 * l + 1) v1) (fun _ h4 => Q 0 h4) := fun v0 v1 z0 z1 v2 z2 S2 => c_wname (k := 2) S2 hl (by decide) (fin v0 v1 v2 z0 z1 z2)
  have W1 : ∀ v0, v0 = args p vs 0 → ∀ v1, v1 = args p vs 1 → SC t (l + 1) (up1 (fun _ => 0) 0 v0, mL σ, mC σ, mR σ, max (mO σ) ((l : Int) + 1)) (hA h1 23 (40 * l + 0) v0) → Cl shC mX2_writeName [pR 19, pI 1, pI v1] (hA h1 23 (40 * l + 0) v0) (fun _ h3 => ((p ≤ 2) → Cl shC mX2_writeName [pR 19, pI 2, pI 0] h3 (fun _ h4 => Q 0 h4)) ∧ ((¬ p ≤ 2) → Cl shC mX2_writeName [pR 19, pI 2, pI c] h3 (fun _ h5 => Q 0 h5))) := fun v0 z0 v1 z1 S1' => c_wname (k := 1) S1' hl (by decide) (fun S2 => ⟨fun e => W2 v0 v1 z0 z1 0 (a0 2 (by decide) e) S2, fun e => W2 v0 v1 z0 z1 c (by rw [hc (by omega)]; exact a1 2 (by decide) (by omega)) S2⟩)
  have W0 : ∀ v0, v0 = args p vs 0 → Cl shC mX2_writeName [pR 19, pI 0, pI v0] h1 (fun _ h2 => ((p ≤ 1) → Cl shC mX2_writeName [pR 19, pI 1, pI 0] h2 (fun _ h3 => ((p ≤ 2) → Cl shC mX2_writeName [pR 19, pI 2, pI 0] h3 (fun _ h4 => Q 0 h4)) ∧ ((¬ p ≤ 2) → Cl shC mX2_writeName [pR 19, pI 2, pI c] h3 (fun _ h5 => Q 0 h5)))) ∧ ((¬ p ≤ 1) → Cl shC mX2_writeName [pR 19, pI 1, pI b] h2 (fun _ h6 => ((p ≤ 2) → Cl shC mX2_writeName [pR 19, pI 2, pI 0] h6 (fun _ h7 => Q 0 h7)) ∧ ((¬ p ≤ 2) → Cl shC mX2_writeName [pR 19, pI 2, pI c] h6 (fun _ h8 => Q 0 h8))))) := fun v0 z0 => c_wname (k := 0) S1 hl (by decide) (fun S2 => ⟨fun e => W1 v0 z0 0 (a0 1 (by decide) e) S2, fun e => W1 v0 z0 b (by rw [hb (by omega)]; exact a1 1 (by decide) (by omega)) S2⟩)
  exact ⟨fun e => W0 0 (a0 0 (by decide) e), fun e => W0 a (by rw [ha (by omega)]; exact a1 0 (by decide) (by omega))⟩
end CC
