/-! RUN: the class goes through the parts of a step -/
section CR
variable {t : TV} {fuel : Int} {P : Int → Hp → Prop}
def LO (fuel : Int) (P : Int → Hp → Prop) (v6 : Int) (h : Hp) : Prop := Ok shC 0 0 mX2_start 122 [some (pR 19), none, none, none, none, some (pI fuel), some (pI v6), none] [] h P
/-- what goes on after a step that was begun with T frames -/
def KS (t : TV) (fuel : Int) (P : Int → Hp → Prop) (T l fl : Nat) (h0 : Hp) (B : Int) (r : RS) : Prop :=
  (r.1 = 0 → ∀ h' v6, SK T l h0 h' → SC t l r.2.2.2 h' → h'.2.1 19 9 = (T : Int) → 0 ≤ v6 → v6 + 3000 * mL r.2.2.2 ≤ B → Cl shC mX2_deliver [pR 19, pI r.2.1] h' (fun _ h'' => LO fuel P v6 h'')) ∧
  (r.1 = 1 → ∀ h' v6, SK T l h0 h' → SC t l r.2.2.2 h' → 0 ≤ v6 → v6 + 3000 * mL r.2.2.2 ≤ B → Ok shC 0 0 mX2_leaveWith 30 [some (pR 19), some (pI r.2.1), some (pI ((fl : Int) - 1)), some (pI ((T : Int) - 1))] [] h' (fun _ h'' => LO fuel P v6 h'')) ∧
  (r.1 = 2 → ∀ h' v6, F12 h0 h' → SZ t r.2.2.2 h' → 0 ≤ v6 → v6 + 3000 * mL r.2.2.2 ≤ B → Cl shC mX2_refuse [pR 19, pI r.2.1, pI r.2.2.1] h' (fun _ h'' => LO fuel P v6 h''))
theorem KS.mv {T l fl : Nat} {h0 h1 : Hp} {B B1 : Int} {r : RS} (k : KS t fuel P T l fl h0 B r) (x : SK T l h0 h1) (hB : B1 ≤ B) : KS t fuel P T l fl h1 B1 r :=
  ⟨fun e h' v y a b c d => k.1 e h' v (x.tr y (Nat.le_refl _) (Nat.le_refl _)) a b c (by omega), fun e h' v y a b c => k.2.1 e h' v (x.tr y (Nat.le_refl _) (Nat.le_refl _)) a b (by omega), fun e h' v y a b c => k.2.2 e h' v (x.1.tr y) a b (by omega)⟩
theorem KS.sub {T l fl s : Nat} {h0 h1 : Hp} {B B1 : Int} {r : RS} (hT : T < 480) (hfl : fl ≤ T) (hs : s < mk t) (h11 : kd t s ≠ 11) (x : SK T l h0 h1) (f : h1.1 25 T = (s : Int)) (hB : B1 ≤ B) (k : r.1 ≠ 0 → KS t fuel P T l fl h0 B r)
    (k0 : r.1 = 0 → ∀ h' v6, SK (T + 1) l h1 h' → SC t l r.2.2.2 h' → h'.2.1 19 9 = (T : Int) + 1 → 0 ≤ v6 → v6 + 3000 * mL r.2.2.2 ≤ B1 → Cl shC mX2_deliver [pR 19, pI r.2.1] h' (fun _ h'' => LO fuel P v6 h'')) : KS t fuel P (T + 1) l fl h1 B1 r := by
  refine ⟨fun e h' v y a b c d => k0 e h' v y a b c d, fun e h' v y a b c => ?_, fun e h' v y a b c => (k (by omega)).2.2 e h' v (x.1.tr y) a b (by omega)⟩
  have fin := (k (by omega)).2.1 e h' v (x.tr y (Nat.le_succ _) (Nat.le_refl _)) a b (by omega)
  have f' : h'.1 25 T = (s : Int) := (y.2.1 T (by omega)).1.trans f
  rw [show ((T + 1 : Nat) : Int) - 1 = (T : Int) by omega]
  refine sX2_leaveWith_30 ⟨fun c' => absurd c' (by omega), fun _ => ⟨T, rfl, hT, ?_⟩⟩
  rw [f']
  refine c_kindOf a.1.1 _ ?_
  rw [kdI_at hs]
  exact ⟨fun c' => absurd c' h11, fun _ => ⟨by unfold inR; omega, fin⟩⟩
theorem c_lp {T : Nat} {h : Hp} {v6 : Int} (ht : h.2.1 19 9 = (T : Int) + 1) (h13 : h.2.1 19 13 = 0) (hT : T < 480) (hv : 0 ≤ v6 ∧ v6 < 10000000) (q : Cl shC mX2_advance [pR 19, pI (T : Int)] h (fun r1 h1 => (r1 = -4 → LO fuel P (v6 + 1) h1) ∧ (¬ r1 = -4 → Cl shC mX2_begin [pR 19, pI r1] h1 (fun _ h2 => LO fuel P (v6 + 1) h2)))) : LO fuel P v6 h := by
  refine sX2_start_122 ?_
  rw [ht, show (T : Int) + 1 - 1 = (T : Int) by omega]
  refine ⟨fun c => absurd c (by omega), fun _ => ⟨fun c => absurd c (by omega), fun _ => ⟨fun c => absurd h13 c, fun _ => ⟨by unfold inR; omega, ?_⟩⟩⟩⟩
  have inr : inR (v6 + 1) := by unfold inR; omega
  exact Cl.mono q (fun r h' p => ⟨fun e => ⟨inr, p.1 e⟩, fun e => (p.2 e).mono (fun _ _ y => ⟨inr, y⟩)⟩)
theorem stT1_ar (w : WF t) {s : Nat} (hs : s < mk t) (h6 : kd t s ≠ 6) (k : Nat) (hk : kd t s = (k : Int)) : stT 1 k = (ar t s : Int) := by
  have hb := w.2.2.2.2.1 s hs
  have h12 : k < 12 := by omega
  have all : ∀ k, k < 12 → k ≠ 6 → stT 1 k = ((if (k : Int) = 2 ∨ (k : Int) = 5 ∨ (k : Int) = 8 ∨ (k : Int) = 10 then 2 else if (k : Int) = 3 then 3 else if (k : Int) = 4 ∨ (k : Int) = 7 ∨ (k : Int) = 9 ∨ (k : Int) = 11 then 1 else 0 : Nat) : Int) := by decide
  rw [all k h12 (fun e => h6 (by omega))]
  unfold ar
  rw [hk]
  split
  · rfl
  · split
    · rfl
    · split
      · rfl
      · rw [if_neg (by omega)]
theorem c_adv {T s : Nat} {h : Hp} {Q : Int → Hp → Prop} (w : WF t) (R : RC t h) (hT : T < 480) (hs : s < mk t) (hk : kd t s ≠ -1) (f1 : h.1 25 T = (s : Int))
    (q3 : kd t s = 3 → Cl shC mX2_advancePick [pR 19, pI (T : Int), pI (s : Int)] h Q)
    (q6 : kd t s = 6 → Cl shC mX2_advanceCall [pR 19, pI (T : Int), pI (s : Int)] h Q)
    (q8 : kd t s = 8 → Cl shC mX2_advanceWhile [pR 19, pI (T : Int), pI (s : Int)] h Q)
    (qd : kd t s ≠ 3 → kd t s ≠ 6 → kd t s ≠ 8 → ((ar t s : Int) ≤ h.1 26 T → Cl shC mX2_conclude [pR 19, pI (T : Int), pI (s : Int), pI (kd t s)] h (fun _ h' => Q (-4) h')) ∧ (¬ (ar t s : Int) ≤ h.1 26 T → Q (ptI t (s : Int) (h.1 26 T)) h)) : Cl shC mX2_advance [pR 19, pI (T : Int)] h Q := by
  have hb := w.2.2.2.2.1 s hs
  refine sX2_advance_0 ⟨T, rfl, hT, ?_⟩
  rw [f1]
  refine c_kindOf R _ ?_
  rw [kdI_at hs]
  refine ⟨fun c => absurd c (by omega), fun _ => ⟨fun c => absurd c (by omega), fun _ => ?_⟩⟩
  obtain ⟨k, hkk⟩ := Int.eq_ofNat_of_zero_le (show 0 ≤ kd t s by omega)
  refine ⟨k, hkk, by omega, fun e => q3 e, fun e => q6 e, fun e => q8 e, fun e => ?_⟩
  rw [stT1_ar w hs e.2.1 k hkk]
  obtain ⟨a, b⟩ := qd e.1 e.2.1 e.2.2
  exact ⟨a, fun c => c_partOf R _ _ (b c)⟩
/-- a step, and what it goes on with -/
def CE (t : TV) (fuel : Int) (P : Int → Hp → Prop) (n : Nat) : Prop := ∀ (l : Nat) (b : Bool) (s : Nat) (σ : MS) (T fl : Nat) (h : Hp) (v6 : Int), s < mk t → kd t s ≠ -1 → (b = true → kd t s = 8) → GM t σ → 50 * mL σ + (rk t s : Int) < (n : Int) → 1 ≤ l → l ≤ 12 → T + rk t s ≤ 40 * l → fl ≤ T → SC t l σ h → h.1 24 (l - 1) = (fl : Int) - 1 → 0 ≤ v6 → v6 + 3000 * mL σ + 5 * (sz t s : Int) ≤ 9000000 → KS t fuel P T l fl h (v6 + 3000 * mL σ + 5 * (sz t s : Int)) (E t n l b s σ) →
  (b = false → h.2.1 19 9 = (T : Int) → Cl shC mX2_begin [pR 19, pI (s : Int)] h (fun _ h' => LO fuel P v6 h')) ∧ (b = true → h.2.1 19 9 = (T : Int) + 1 → FV T s [] h → Cl shC mX2_begin [pR 19, pI ((xN t s : Nat) : Int)] h (fun _ h' => LO fuel P v6 h'))
theorem c_parts {n T l fl s : Nat} {h0 : Hp} {B B0 M : Int} {g : List Int → MS → RS} {L0 : List Nat} (w : WF t) (IH : CE t fuel P n) (hs : s < mk t) (h11 : kd t s ≠ 11) (hL0 : L0.length ≤ 3) (hin : ∀ p ∈ L0, p < mk t ∧ kd t p ≠ -1 ∧ rk t p < rk t s) (hN : 50 * M + (rk t s : Int) < (n : Int) + 1) (hl1 : 1 ≤ l) (hl2 : l ≤ 12) (hTr : T + rk t s ≤ 40 * l) (hT : T < 480) (hfl : fl ≤ T) (hB : B0 ≤ B) (hB9 : B ≤ 9000000)
    (adv : ∀ (p : Nat) (vs : List Int) (σ : MS) (h1 : Hp) (v6 : Int), L0[vs.length]? = some p → SC t l σ h1 → h1.2.1 19 9 = (T : Int) + 1 → FV T s vs h1 → 0 ≤ v6 → v6 < 10000000 → Cl shC mX2_begin [pR 19, pI (p : Int)] h1 (fun _ h2 => LO fuel P (v6 + 1) h2) → LO fuel P v6 h1)
    (fin : ∀ (vs : List Int) (σ : MS) (h1 : Hp) (v6 : Int), vs.length = L0.length → GM t σ → mL σ ≤ M → SK T l h0 h1 → SC t l σ h1 → h1.2.1 19 9 = (T : Int) + 1 → h1.1 24 (l - 1) = (fl : Int) - 1 → FV T s vs h1 → 0 ≤ v6 → v6 + 3000 * mL σ ≤ B0 → KS t fuel P T l fl h0 B (g vs σ) → LO fuel P v6 h1) :
    ∀ (L : List Nat) (vs : List Int) (σ : MS) (h : Hp) (v6 : Int), vs.length + L.length = L0.length → (∀ i, L[i]? = L0[vs.length + i]?) → GM t σ → mL σ ≤ M → SK T l h0 h → SC t l σ h → h.2.1 19 9 = (T : Int) + 1 → h.1 24 (l - 1) = (fl : Int) - 1 → FV T s vs h → 0 ≤ v6 → v6 + 3000 * mL σ + 5 * (szs t L : Int) + (L.length : Int) ≤ B0 → KS t fuel P T l fl h0 B (evL (E t n l false) L vs σ g) → LO fuel P v6 h := by
  intro L
  induction L with
  | nil =>
    intro vs σ h v6 e1 _ G hM x R ht hf fv hv hb k
    have e1 : vs.length + 0 = L0.length := e1
    have hb : v6 + 3000 * mL σ + 5 * ((0 : Nat) : Int) + ((0 : Nat) : Int) ≤ B0 := hb
    exact fin vs σ h v6 (by omega) G hM x R ht hf fv hv (by omega) k
  | cons p L ih =>
    intro vs σ h v6 e1 e2 G hM x R ht hf fv hv hb k
    have e1 : vs.length + (L.length + 1) = L0.length := e1
    have hb : v6 + 3000 * mL σ + 5 * ((sz t p + szs t L : Nat) : Int) + ((L.length + 1 : Nat) : Int) ≤ B0 := hb
    have hp0 : L0[vs.length]? = some p := (e2 0).symm
    obtain ⟨p1, p2, p3⟩ := hin p (List.mem_of_getElem? hp0)
    have g0 := G.1
    have ok := E_ok w n l false p σ p1 p2 (fun q => by cases q) G (by omega)
    refine adv p vs σ h v6 hp0 R ht fv hv (by omega) ?_
    refine (IH l false p σ (T + 1) fl h (v6 + 1) p1 p2 (fun q => by cases q) G (by omega) hl1 hl2 (by omega) (by omega) R hf (by omega) (by omega) (KS.sub (B := B) hT hfl hs h11 x fv.1 (by omega) (fun ne => ?_) (fun e h' v y SC' ht' hv' hb' => ?_))).1 rfl (by omega)
    · rw [evL, if_neg ne] at k
      exact k
    · rw [evL, if_pos e] at k
      have fv' := fv.sk y (by omega)
      refine c_deliver ht' hT fv' (by omega) (fun fv2 => ?_)
      have l1 := ok.2.2
      refine ih (vs ++ [(E t n l false p σ).2.1]) _ _ v (by rw [List.length_append]; show vs.length + 1 + L.length = _; omega) (fun i => ?_) ok.2.1 (by omega) ?_ ((SC'.A ⟨by decide, by decide⟩).A ⟨by decide, by decide⟩) ht' ?_ fv2 hv' (by omega) k
      · have := e2 (i + 1)
        rw [List.getElem?_cons_succ] at this
        rw [this, List.length_append]
        show L0[vs.length + (i + 1)]? = L0[vs.length + 1 + i]?
        rw [show vs.length + (i + 1) = vs.length + 1 + i by omega]
      · exact ((x.tr y (Nat.le_succ _) (Nat.le_refl _)).A (Or.inr (Or.inr (Or.inl ⟨rfl, by omega⟩)))).A (Or.inr (Or.inl ⟨Or.inr rfl, Nat.le_refl _⟩))
      · rw [hA_at, if_neg (by omega), hA_at, if_neg (by omega), y.2.2.1 (l - 1) (by omega)]
        exact hf
end CR
