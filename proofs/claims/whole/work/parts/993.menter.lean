/-! RUN: the reference makes a call -/
section ME
variable {t : TV} {has : Int} {P : Int → Hp → Prop}
theorem m_enter {n T l s : Nat} {h0 h : Hp} {σ : MS} {vs : List Int} (w : WF t) (IH : ME t has P n) (hs : s < mk t) (hk6 : kd t s = 6) (G : GM t σ) (hL : mL σ ≤ 2000) (hh : 0 ≤ has ∧ has ≤ 3000) (hN : 50 * mL σ < (n : Int)) (hvs : vs.length = ar t s) (hl1 : 1 ≤ l) (hl2 : l ≤ 12) (hTl : T + 1 ≤ 40 * l) (x : NK T l h0 h) (S : NC t has l σ h) (ht : h.2.1 0 16 = (T : Int) + 1) (fv : FW T s l vs h)
    (k : KM t has P T l h0 (if bdI t (nm t s) = -4 then (2, 3, (s : Int), σ) else if mL σ < 4 + uses t (nm t s) then (2, 4, (s : Int), σ) else if ¬ l < 12 then (2, 5, (s : Int), tick s (pay (4 + uses t (nm t s)) σ))
      else rtn (E t n (l + 1) false (bdI t (nm t s)).toNat (args (prI t (nm t s)) vs, mL σ - (4 + uses t (nm t s)), mC (tick s σ), mR σ, max (mO σ) ((l : Int) + 1))) (mN σ))) : LG P h := by
  have hk : kd t s ≠ -1 := by rw [hk6]; decide
  have hm := w.m
  have hT : T < 480 := by omega
  have g0 := G.1
  obtain ⟨epr, ha3, hn0, hn1⟩ := prI_ar w hs hk6
  have hu := w.us (nm t s)
  have R := S.1.1
  have hbe : bdI t (nm t s) = bd t (nm t s).toNat := if_pos ⟨hn0, hn1⟩
  refine m_lg w S hs hk ht (by omega) fv hl1 hl2 (fun e => absurd hk6 (by omega)) (fun e => absurd hk6 (by omega)) (fun e => absurd hk6 (by omega)) (fun _ => ⟨fun z => absurd z (by omega), fun _ => ?_⟩) (fun e => absurd hk6 (by omega)) (fun _ _ _ z => absurd hk6 z)
  refine sX9_enters_0 ⟨s, rfl, by omega, (nm t s).toNat, by rw [R.n hs]; omega, by omega, ?_⟩
  rw [R.n hs, R.b (by omega), ← hbe]
  refine ⟨fun hbd => ?_, fun c => ?_⟩
  · rw [if_neg hbd] at k
    refine m_uses w R ⟨hn0, hn1⟩ (fun h1 f1 => ⟨by unfold inR; omega, sX9_pays_0 ?_⟩)
    have S1 := S.go f1
    have K1 : NK T l h h1 := NK.rf.go f1
    have fv1 := fv.sk (NK.rf.go f1 : NK (T + 1) l h h1) (by omega)
    have ht1 : h1.2.1 0 16 = (T : Int) + 1 := by rw [f1.2]; exact ht
    rw [S1.1.2.1, S1.1.2.2.2.2.2]
    refine ⟨fun cm => ⟨by unfold inR; omega, by unfold inR; omega, fun _ => ?_, fun z => absurd z (by decide)⟩, fun cm => ?_⟩
    · rw [if_neg (by omega)] at k
      have S2 := (S1.pay (4 + uses t (nm t s))).tick (s := s) (by omega)
      have K2 : ∀ T, NK T l h1 (hA (hI (hI h1 0 23 (mL σ - (4 + uses t (nm t s)))) 0 24 (has - mL σ + (4 + uses t (nm t s)))) 5 s (wr ((hI (hI h1 0 23 (mL σ - (4 + uses t (nm t s)))) 0 24 (has - mL σ + (4 + uses t (nm t s)))).1 5 s + 1))) := fun T => ((NK.rf.I (by omega)).I (by omega)).A (Or.inl (Or.inl rfl))
      have ht2 : (hA (hI (hI h1 0 23 (mL σ - (4 + uses t (nm t s)))) 0 24 (has - mL σ + (4 + uses t (nm t s)))) 5 s (wr ((hI (hI h1 0 23 (mL σ - (4 + uses t (nm t s)))) 0 24 (has - mL σ + (4 + uses t (nm t s)))).1 5 s + 1))).2.1 0 16 = (T : Int) + 1 := by
        rw [hA_i, hI_at, if_neg (by omega), hI_at, if_neg (by omega)]
        exact ht1
      have e22 : (hI (hI h1 0 23 (mL σ - (4 + uses t (nm t s)))) 0 24 (has - mL σ + (4 + uses t (nm t s)))).2.1 0 22 = (l : Int) := S2.2.2.1
      have e27 : (hI (hI h1 0 23 (mL σ - (4 + uses t (nm t s)))) 0 24 (has - mL σ + (4 + uses t (nm t s)))).2.1 0 27 = mO σ := S2.1.2.2.2.2.1
      rw [e22, e27]
      generalize hA (hI (hI h1 0 23 (mL σ - (4 + uses t (nm t s)))) 0 24 (has - mL σ + (4 + uses t (nm t s)))) 5 s (wr ((hI (hI h1 0 23 (mL σ - (4 + uses t (nm t s)))) 0 24 (has - mL σ + (4 + uses t (nm t s)))).1 5 s + 1)) = h2 at *
      have fv2 := fv1.sk (K2 (T + 1)) (by omega)
      have K12 : NK T l h0 h2 := x.tr (K1.tr (K2 T) (Nat.le_refl _) (Nat.le_refl _)) (Nat.le_refl _) (Nat.le_refl _)
      refine ⟨fun cl => ⟨by unfold inR; omega, ?_⟩, fun cl => ?_⟩
      · have hl : l < 12 := by omega
        rw [if_neg (fun q => q hl), epr] at k
        -- the call's names
        have S3 : ∀ z, z = max (mO σ) ((l : Int) + 1) → NC t has (l + 1) (fun q => h2.1 18 (40 * l + q), mL σ - (4 + uses t (nm t s)), mC (tick s σ), mR σ, max (mO σ) ((l : Int) + 1)) (hI (hI h2 0 22 ((l : Int) + 1)) 0 27 z) := fun z hz => by
          obtain ⟨⟨y1, y2, y3, y4, y5, y6⟩, z2, z3, z4, z5, z6, z7⟩ := S2
          refine ⟨⟨((nf.I (by omega)).tr (nf.I (by omega))).rm y1, ?_, y3, y4, ?_, ?_⟩, fun q _ => rfl, ?_, ?_, ?_, ?_, ?_⟩
          · rw [hI_at, if_neg (by omega), hI_at, if_neg (by omega)]; exact y2
          · rw [hI_at, if_pos ⟨rfl, rfl⟩]; exact hz
          · rw [hI_at, if_neg (by omega), hI_at, if_neg (by omega)]; exact y6
          · rw [hI_at, if_neg (by omega), hI_at, if_pos ⟨rfl, rfl⟩]; rfl
          · rw [hI_at, if_neg (by omega), hI_at, if_neg (by omega)]; exact z4
          · rw [hI_at, if_neg (by omega), hI_at, if_neg (by omega)]; exact z5
          · rw [hI_at, if_neg (by omega), hI_at, if_neg (by omega)]; exact z6
          · rw [hI_at, if_neg (by omega), hI_at, if_neg (by omega)]; exact z7
        obtain ⟨b, hbn⟩ : ∃ b : Nat, bdI t (nm t s) = (b : Int) := by
          have hal : al t (bdI t (nm t s)) := by
            rw [hbe] at hbd ⊢
            exact ((w.2.2.1 _ (by omega)).2.2.resolve_left hbd).1
          exact Int.eq_ofNat_of_zero_le hal.1
        have hal : al t ((b : Nat) : Int) := by
          rw [hbe] at hbd
          rw [← hbn, hbe]
          exact ((w.2.2.1 _ (by omega)).2.2.resolve_left hbd).1
        rw [hbn, Int.toNat_natCast] at k
        obtain ⟨b1, b2'⟩ := al_n.mp hal
        have h40 := rk_pos w b1 b2'
        have G2 : GM t (args (ar t s) vs, mL σ - (4 + uses t (nm t s)), mC (tick s σ), mR σ, max (mO σ) ((l : Int) + 1)) := ⟨by show 0 ≤ mL σ - _; omega, (G.tick hs).2⟩
        have body : ∀ h4, NC t has (l + 1) (args (ar t s) vs, mL σ - (4 + uses t (nm t s)), mC (tick s σ), mR σ, max (mO σ) ((l : Int) + 1)) h4 → NK T l h2 h4 → (∀ q, q < 40 * l → h4.1 18 q = h2.1 18 q) → h4.1 17 T = (l : Int) → h4.1 15 T = 9 → h4.2.1 0 16 = (T : Int) + 1 → Cl shM mX9_begins [pR 0, pI ((b : Nat) : Int)] h4 (fun _ h' => LG P h') := fun h4 S4 K4 n18 n17 n15 ht4 => by
          have nam : ∀ k, k < 40 → h4.1 18 (40 * (l - 1) + k) = mN σ k := fun k hk => by
            rw [n18 _ (by omega)]
            exact S2.2.1 k hk
          have back : (E t n (l + 1) false b (args (ar t s) vs, mL σ - (4 + uses t (nm t s)), mC (tick s σ), mR σ, max (mO σ) ((l : Int) + 1))).1 ≤ 1 → ∀ h', NK (T + 1) (l + 1) h4 h' → NC t has (l + 1) (E t n (l + 1) false b (args (ar t s) vs, mL σ - (4 + uses t (nm t s)), mC (tick s σ), mR σ, max (mO σ) ((l : Int) + 1))).2.2.2 h' → h'.2.1 0 16 = (T : Int) + 2 → EN (E t n (l + 1) false b (args (ar t s) vs, mL σ - (4 + uses t (nm t s)), mC (tick s σ), mR σ, max (mO σ) ((l : Int) + 1))).2.1 h' (LG P) := fun e h' y S' ht' => by
            rw [rtn_1 e] at k
            generalize E t n (l + 1) false b (args (ar t s) vs, mL σ - (4 + uses t (nm t s)), mC (tick s σ), mR σ, max (mO σ) ((l : Int) + 1)) = r at *
            have p15 : h'.1 15 T = 9 := (y.2.1 T (by omega)).2.1.trans n15
            have K5 : NK T l h0 (hI (hI h' 0 16 ((T : Int) + 1)) 0 22 (((l + 1 : Nat) : Int) - 1)) := (((K12.tr K4 (Nat.le_refl _) (Nat.le_refl _)).tr y (Nat.le_succ _) (Nat.le_succ _)).I (Or.inl rfl)).I (by omega)
            have S5 : NC t has l (mN σ, r.2.2.2.2) (hI (hI h' 0 16 ((T : Int) + 1)) 0 22 (((l + 1 : Nat) : Int) - 1)) := by
              obtain ⟨y1, y2, y3, y4, y5, y6, y7⟩ := S'
              have y1' : NR t has (mN σ, r.2.2.2.2) h' := y1
              refine ⟨(y1'.I (by omega)).I (by omega), fun k hk => ?_, ?_, ?_, ?_, ?_, ?_⟩
              · rw [hI_a, hI_a, y.2.2 _ (by omega)]
                exact nam k hk
              · rw [hI_at, if_pos ⟨rfl, rfl⟩]; omega
              · rw [hI_at, if_neg (by omega), hI_at, if_neg (by omega)]; exact y4
              · rw [hI_at, if_neg (by omega), hI_at, if_neg (by omega)]; exact y5
              · rw [hI_at, if_neg (by omega), hI_at, if_neg (by omega)]; exact y6
              · rw [hI_at, if_neg (by omega), hI_at, if_neg (by omega)]; exact y7
            have en := k.1 rfl _ K5 S5 (by rw [hI_at, if_neg (by omega), hI_at, if_pos ⟨rfl, rfl⟩])
            constructor
            · refine sX9_ends_0 ?_
              rw [ht', S'.2.2.1, show (T : Int) + 2 - 1 = (T : Int) + 1 by omega]
              refine ⟨by unfold inR; omega, fun _ => ⟨by unfold inR; omega, T, by omega, by omega, fun z => absurd p15 z, fun _ => ⟨by unfold inR; omega, sX9_ends2_0 en.2⟩⟩, fun z => absurd z (by omega)⟩
            · refine sX9_ends2_2 ?_
              rw [ht', S'.2.2.1, show (T : Int) + 2 - 1 = (T : Int) + 1 by omega]
              exact ⟨fun z => absurd z (by decide), fun _ => ⟨by unfold inR; omega, fun _ => ⟨by unfold inR; omega, T, by omega, by omega, fun z => absurd p15 z, fun _ => ⟨by unfold inR; omega, en.2⟩⟩, fun z => absurd z (by omega)⟩⟩
          refine (IH (l + 1) false b _ (T + 1) h4 b1 b2' (fun q => by cases q) G2 (by show mL σ - _ ≤ _; omega) (by show 50 * (mL σ - _) + _ < _; omega) (by omega) (by omega) (by omega) S4 ⟨fun e h' y a c => back (by omega) h' y a (by omega), fun e h' y a => ?_, fun e h' y a => ?_⟩).1 rfl (by omega)
          · have p17 : h'.1 17 T = (l : Int) := (y.2.1 T (by omega)).2.2.1.trans n17
            refine sX9_leaves_7 ⟨fun z => absurd z (by omega), fun _ => ⟨T, by omega, by omega, fun _ => ⟨by unfold inR; omega, ?_⟩, fun z => absurd z (by rw [p17, a.2.2.1]; omega)⟩⟩
            exact (back (by omega) _ (y.I (Or.inl rfl)) (a.sp _) (by rw [hI_at, if_pos ⟨rfl, rfl⟩]; omega)).1
          · rw [rtn_2 (by omega)] at k
            exact k.2.2 e h' ((K12.tr K4 (Nat.le_refl _) (Nat.le_refl _)).1.tr y) a
        -- names are filled
        have loop : ∀ (d i : Nat) (h3 : Hp) (N : Nat → Int), i + d = 40 → NC t has (l + 1) (N, mL σ - (4 + uses t (nm t s)), mC (tick s σ), mR σ, max (mO σ) ((l : Int) + 1)) h3 → (∀ q, q < i → N q = args (ar t s) vs q) → NK T l h2 h3 → (∀ q, q < 40 * l → h3.1 18 q = h2.1 18 q) → FW T s l vs h3 → h3.2.1 0 16 = (T : Int) + 1 → Ok shM 0 0 mX9_enters 110 [some (pR 0), some (pI (T : Int)), none, some (pI (nm t s)), none, some (pI (i : Int))] [] h3 (fun _ h7 => LG P h7) := by
          intro d
          induction d with
          | zero =>
            intro i h3 N hi S' hN' K' n18 fv' ht'
            refine sX9_enters_110 ⟨fun _ => ⟨T, rfl, by omega, (nm t s).toNat, by omega, by omega, ?_⟩, fun z => absurd (by omega) z⟩
            rw [S'.1.1.b (by omega), ← hbe, hbn]
            refine body _ ((S'.nm (fun q hq => hN' q (by omega))).A ⟨by decide, by decide⟩) (K'.A (Or.inr (Or.inl ⟨Or.inr (Or.inl rfl), Nat.le_refl _⟩))) (fun q hq => ?_) ?_ ?_ ht'
            · rw [hA_at, if_neg (by omega)]
              exact n18 q hq
            · rw [hA_at, if_neg (by omega)]
              exact fv'.2.2.1
            · rw [hA_at, if_pos ⟨rfl, rfl⟩]
          | succ d ih =>
            intro i h3 N hi S' hN' K' n18 fv' ht'
            have e6 : h3.1 6 (nm t s).toNat = (ar t s : Int) := by
              rw [S'.1.1.q (by omega), ← epr]
              exact (if_pos ⟨hn0, hn1⟩).symm
            have e22' : h3.2.1 0 22 = ((l + 1 : Nat) : Int) := S'.2.2.1
            have st : ∀ z, z = args (ar t s) vs i → Ok shM 0 0 mX9_enters 110 [some (pR 0), some (pI (T : Int)), none, some (pI (nm t s)), none, some (pI ((i : Int) + 1))] [] (hA h3 18 (40 * l + i) z) (fun _ h7 => LG P h7) := fun z hz => by
              refine ih (i + 1) _ (up1 N i z) (by omega) (S'.nam (k := i) (v := z) (by omega)) (fun q hq => ?_) (K'.A (Or.inr (Or.inr (Or.inr ⟨rfl, by omega⟩)))) (fun q hq => ?_) ⟨?_, ?_, ?_, fun j v hj => ?_⟩ ht'
              · rw [up1_at]
                by_cases e : q = i
                · rw [if_pos e, e]; exact hz
                · rw [if_neg e]
                  exact hN' q (by omega)
              · rw [hA_at, if_neg (by omega)]
                exact n18 q hq
              · rw [hA_at, if_neg (by omega)]; exact fv'.1
              · rw [hA_at, if_neg (by omega)]; exact fv'.2.1
              · rw [hA_at, if_neg (by omega)]; exact fv'.2.2.1
              · rw [hA_at, if_neg (by omega)]; exact fv'.2.2.2 j v hj
            refine sX9_enters_110 ⟨fun z => absurd z (by omega), fun _ => ?_⟩
            rw [e22']
            refine ⟨by unfold inR; omega, by unfold inR; omega, by unfold inR; omega, (nm t s).toNat, by omega, by omega, ?_⟩
            rw [e6]
            refine ⟨fun z => ⟨40 * l + i, by omega, by omega, by unfold inR; omega, st 0 ?_⟩, fun z => ⟨by unfold inR; omega, by unfold inR; omega, 3 * T + i, by omega, by omega, 40 * l + i, by omega, by omega, by unfold inR; omega, st _ ?_⟩⟩
            · unfold args
              rw [if_neg (by omega)]
            · unfold args
              rw [if_pos (by omega)]
              exact fv'.2.2.2 i _ (gD (by omega))
        have go : ∀ z, z = max (mO σ) ((l : Int) + 1) → Ok shM 0 0 mX9_enters 110 [some (pR 0), some (pI (T : Int)), none, some (pI (nm t s)), none, some (pI 0)] [] (hI (hI h2 0 22 ((l : Int) + 1)) 0 27 z) (fun _ h7 => LG P h7) := fun z hz =>
          loop 40 0 _ _ rfl (S3 z hz) (fun q hq => absurd hq (Nat.not_lt_zero _)) ((NK.rf.I (by omega)).I (by omega)) (fun _ _ => rfl) fv2 (by rw [hI_at, if_neg (by omega), hI_at, if_neg (by omega)]; exact ht2)
        exact ⟨fun c => go _ (by omega), fun c => go _ (by omega)⟩
      · rw [if_pos (by omega)] at k
        exact k.2.2 rfl h2 K12.1 S2.1
    · rw [if_pos (by omega)] at k
      exact (k.2.2 rfl h1 (x.1.tr K1.1) S1.1).mono (fun _ _ y => ⟨fun z => absurd rfl z, fun _ => y⟩)
  · rw [if_pos c] at k
    exact k.2.2 rfl h x.1 S.1
end ME
