/-! RUN: the reference begins a step, and goes through its parts -/
section MR
variable {t : TV} {has : Int} {P : Int → Hp → Prop}
def KM (t : TV) (has : Int) (P : Int → Hp → Prop) (T l : Nat) (h0 : Hp) (r : RS) : Prop :=
  (r.1 = 0 → ∀ h', NK T l h0 h' → NC t has l r.2.2.2 h' → h'.2.1 0 16 = (T : Int) + 1 → EN r.2.1 h' (LG P)) ∧
  (r.1 = 1 → ∀ h', NK T l h0 h' → NC t has l r.2.2.2 h' → Ok shM 0 0 mX9_leaves 7 [some (pR 0), some (pI r.2.1), some (pI ((T : Int) - 1))] [] h' (fun _ h'' => LG P h'')) ∧
  (r.1 = 2 → ∀ h', nf h0 h' → NR t has r.2.2.2 h' → Cl shM mX9_refuses [pR 0, pI r.2.1, pI r.2.2.1] h' (fun _ h'' => LG P h''))
theorem KM.mv {T l : Nat} {h0 h1 : Hp} {r : RS} (k : KM t has P T l h0 r) (x : NK T l h0 h1) : KM t has P T l h1 r :=
  ⟨fun e h' y a b => k.1 e h' (x.tr y (Nat.le_refl _) (Nat.le_refl _)) a b, fun e h' y a => k.2.1 e h' (x.tr y (Nat.le_refl _) (Nat.le_refl _)) a, fun e h' y a => k.2.2 e h' (x.1.tr y) a⟩
theorem KM.sub {T l s : Nat} {h0 h1 : Hp} {r : RS} {vs : List Int} (hT : T < 500) (hs : s < 600) (hsm : s < mk t) (h11 : kd t s ≠ 11) (x : NK T l h0 h1) (f : FW T s l vs h1) (k : r.1 ≠ 0 → KM t has P T l h0 r)
    (k0 : r.1 = 0 → ∀ h', NK (T + 1) l h1 h' → NC t has l r.2.2.2 h' → h'.2.1 0 16 = (T : Int) + 2 → EN r.2.1 h' (LG P)) : KM t has P (T + 1) l h1 r := by
  refine ⟨fun e h' y a b => k0 e h' y a (by omega), fun e h' y a => ?_, fun e h' y a => (k (by omega)).2.2 e h' (x.1.tr y) a⟩
  have fin := (k (by omega)).2.1 e h' (x.tr y (Nat.le_succ _) (Nat.le_refl _)) a
  obtain ⟨b1, b2, b3, b4⟩ := y.2.1 T (by omega)
  rw [show ((T + 1 : Nat) : Int) - 1 = (T : Int) by omega]
  refine sX9_leaves_7 ⟨fun c => absurd c (by omega), fun _ => ⟨T, rfl, by omega, fun c => absurd ?_ c, fun _ => ⟨s, b1.trans f.1, hs, ?_⟩⟩⟩
  · rw [b3, f.2.2.1, a.2.2.1]
  · rw [a.1.1.k hsm]
    exact ⟨fun c => absurd c h11, fun _ => ⟨by unfold inR; omega, fin⟩⟩
theorem NC.cnt {l s : Nat} {σ : MS} {h : Hp} {z : Int} (x : NC t has l σ h) (hz : z = mC σ s) : NC t has l σ (hA h 5 s z) := by
  obtain ⟨⟨y1, y2, y3, y4, y5, y6⟩, x2, x3⟩ := x
  refine ⟨⟨(nf.A (Or.inl rfl)).rm y1, y2, fun q hq => ?_, fun j hj => ?_, y5, y6⟩, fun k hk => ?_, x3⟩
  · rw [hA_at]
    by_cases e : q = s
    · rw [if_pos ⟨rfl, e⟩, hz, e]
    · rw [if_neg (fun z => e z.2)]
      exact y3 q hq
  · rw [hA_at, if_neg (by omega)]
    exact y4 j hj
  · rw [hA_at, if_neg (by omega)]
    exact x2 k hk
theorem m_cost {k : Int} {h : Hp} {Q : Int → Hp → Prop} (hk : 0 ≤ k ∧ k ≤ 11) (q : Q (stT 0 k.toNat) h) : Cl shM mX9_costOf [pI k] h Q := by
  have hq : ∀ z, stT 0 k.toNat = z → Q z h := fun z e => by rw [← e]; exact q
  refine sX9_costOf_0 ⟨fun e => hq 0 (by rw [e]; decide), fun e0 => ⟨fun e => hq 0 (by rw [e]; decide), fun e1 => ⟨fun e => hq 0 (by rw [e]; decide), fun e5 => ⟨fun e => hq 0 (by rw [e]; decide), fun e11 => ⟨fun e6 => hq 1 ?_, fun e => hq 0 (by rw [e]; decide)⟩⟩⟩⟩⟩
  rcases (by omega : k = 2 ∨ k = 3 ∨ k = 4 ∨ k = 7 ∨ k = 8 ∨ k = 9 ∨ k = 10) with e | e | e | e | e | e | e <;> rw [e] <;> decide
theorem m_begins {l s T : Nat} {σ : MS} {h : Hp} {Q : Int → Hp → Prop} (w : WF t) (S : NC t has l σ h) (hs : s < mk t) (hk : kd t s ≠ -1) (hL : 0 ≤ mL σ ∧ mL σ ≤ 3000) (hh : 0 ≤ has ∧ has ≤ 3000) (ht : h.2.1 0 16 = (T : Int)) (hT : T < 500)
    (q6 : kd t s = 6 → ∀ h2, NC t has l σ h2 → NK T l h h2 → h2.2.1 0 16 = (T : Int) + 1 → FW T s l [] h2 → Q 0 h2)
    (qp : kd t s ≠ 6 → ¬ mL σ < stT 0 (kd t s).toNat → ∀ h2, NC t has l (tick s (pay (stT 0 (kd t s).toNat) σ)) h2 → NK T l h h2 → h2.2.1 0 16 = (T : Int) + 1 → FW T s l [] h2 → Q 0 h2)
    (qr : kd t s ≠ 6 → mL σ < stT 0 (kd t s).toNat → Cl shM mX9_refuses [pR 0, pI 4, pI (s : Int)] h (fun _ h1 => Q 0 h1)) : Cl shM mX9_begins [pR 0, pI (s : Int)] h Q := by
  have hb := w.2.2.2.2.1 s hs
  have hm := w.1
  have R := S.1.1
  have hst := stT0_in (kd t s).toNat (by omega)
  refine Ok.rng (fun cn _ _ => ?_)
  show Cl shM mX9_begins [pR 0, pI (s : Int)] h Q
  have hin : inR (h.1 5 s) := cn.1 5 s
  refine sX9_begins_0 ⟨s, rfl, by omega, ?_⟩
  rw [R.k hs]
  refine m_cost ⟨by omega, hb.2.1⟩ (sX9_pays_0 ?_)
  rw [S.1.2.1, S.1.2.2.2.2.2]
  -- the frame is put down
  have fin : ∀ (σ' : MS) (h1 : Hp) (z : Int), NC t has l σ' (hA h1 5 s z) → NK T l h h1 → h1.2.1 0 16 = (T : Int) → (∀ h2, NC t has l σ' h2 → NK T l h h2 → h2.2.1 0 16 = (T : Int) + 1 → FW T s l [] h2 → Q 0 h2) → ∃ k4 : Nat, h1.2.1 0 16 = (k4 : Int) ∧ k4 < 600 ∧ (inR ((h1.2.1 0 16 + 1)) ∧ (Q 0 (hI (hA (hA (hA (hA h1 5 s z) 14 k4 s) 15 k4 0) 17 k4 (h1.2.1 0 22)) 0 16 (h1.2.1 0 16 + 1)))) := fun σ' h1 z S1 K1 t1 q => by
    have e22 : h1.2.1 0 22 = (l : Int) := S1.2.2.1
    rw [t1, e22]
    refine ⟨T, rfl, by omega, by unfold inR; omega, q _ ((((S1.A (by omega)).A (by omega)).A (by omega)).sp _) (((((K1.A (Or.inl (Or.inl rfl))).A (Or.inr (Or.inl ⟨Or.inl rfl, Nat.le_refl _⟩))).A (Or.inr (Or.inl ⟨Or.inr (Or.inl rfl), Nat.le_refl _⟩))).A (Or.inr (Or.inl ⟨Or.inr (Or.inr rfl), Nat.le_refl _⟩))).I (Or.inl rfl)) (by rw [hI_at, if_pos ⟨rfl, rfl⟩]) ⟨?_, ?_, ?_, fun j v hj => by simp at hj⟩⟩
    · rw [hI_a, hA_at, if_neg (by omega), hA_at, if_neg (by omega), hA_at, if_pos ⟨rfl, rfl⟩]
    · rw [hI_a, hA_at, if_neg (by omega), hA_at, if_pos ⟨rfl, rfl⟩]; rfl
    · rw [hI_a, hA_at, if_pos ⟨rfl, rfl⟩]
  refine ⟨fun c => ⟨by unfold inR; omega, by unfold inR; omega, fun _ => ?_, fun z => absurd z (by decide)⟩, fun c => ?_⟩
  · have SP := S.pay (stT 0 (kd t s).toNat)
    have KP : NK T l h (hI (hI h 0 23 (mL σ - stT 0 (kd t s).toNat)) 0 24 (has - mL σ + stT 0 (kd t s).toNat)) := (NK.rf.I (by omega)).I (by omega)
    have tP : (hI (hI h 0 23 (mL σ - stT 0 (kd t s).toNat)) 0 24 (has - mL σ + stT 0 (kd t s).toNat)).2.1 0 16 = (T : Int) := by
      rw [hI_at, if_neg (by omega), hI_at, if_neg (by omega)]
      exact ht
    have e5 : (hI (hI h 0 23 (mL σ - stT 0 (kd t s).toNat)) 0 24 (has - mL σ + stT 0 (kd t s).toNat)).1 5 s = h.1 5 s := rfl
    have ek : (hI (hI h 0 23 (mL σ - stT 0 (kd t s).toNat)) 0 24 (has - mL σ + stT 0 (kd t s).toNat)).1 1 s = kd t s := R.k hs
    rw [ek]
    refine ⟨fun n6 => fin _ _ _ (SP.tick (by omega)) KP tP (qp n6 (by omega)), fun k6 => fin σ _ _ ?_ KP tP (q6 k6)⟩
    have e0 : pay (stT 0 (kd t s).toNat) σ = σ := by
      rw [k6]
      show (mN σ, mL σ - 0, mC σ, mR σ, mO σ) = σ
      rw [Int.sub_zero]
    rw [e0] at SP
    refine SP.cnt ?_
    rw [e5, Int.add_zero, wr_id hin]
    exact S.1.2.2.1 s (by omega)
  · have n6 : kd t s ≠ 6 := fun e => by
      rw [e] at c
      have : stT 0 (6 : Int).toNat = 0 := by decide
      omega
    exact (qr n6 (by omega)).mono (fun _ _ y => ⟨fun z => absurd rfl z, fun _ => y⟩)
def ME (t : TV) (has : Int) (P : Int → Hp → Prop) (n : Nat) : Prop := ∀ (l : Nat) (b : Bool) (s : Nat) (σ : MS) (T : Nat) (h : Hp), s < mk t → kd t s ≠ -1 → (b = true → kd t s = 8) → GM t σ → mL σ ≤ 2000 → 50 * mL σ + (rk t s : Int) < (n : Int) → 1 ≤ l → l ≤ 12 → T + rk t s ≤ 40 * l → NC t has l σ h → KM t has P T l h (E t n l b s σ) →
  (b = false → h.2.1 0 16 = (T : Int) → Cl shM mX9_begins [pR 0, pI (s : Int)] h (fun _ h' => LG P h')) ∧ (b = true → h.2.1 0 16 = (T : Int) + 1 → FW T s l [] h → LG P h)
theorem arfk (w : WF t) {s : Nat} (hs : s < mk t) (hk : kd t s ≠ -1) : fk t s ∧ ar t s ≤ 3 := by
  have b := w.2.2.2.2.1 s hs
  have f : fk t s := ⟨b.1, b.2.1, fun q => by
    have h1 := (w.2.2.2.2.2.1 s hs hk).2.1 q
    have h2 := w.2.2.1 (nm t s).toNat (by omega)
    exact ⟨h1.1, h1.2, h2.1, h2.2.1⟩⟩
  exact ⟨f, ar_le3 f⟩
theorem m_lg {T s l : Nat} {σ : MS} {h : Hp} {vs : List Int} (w : WF t) (S : NC t has l σ h) (hs : s < mk t) (hk : kd t s ≠ -1) (ht : h.2.1 0 16 = (T : Int) + 1) (hT : T < 500) (f : FW T s l vs h) (hl1 : 1 ≤ l) (hl2 : l ≤ 12)
    (q0 : kd t s = 0 → Cl shM mX9_ends [pR 0, pI (nm t s)] h (fun _ h1 => LG P h1))
    (q1 : kd t s = 1 → Cl shM mX9_ends [pR 0, pI (mN σ (nm t s).toNat)] h (fun _ h2 => LG P h2))
    (q3 : kd t s = 3 → (vs.length ≠ 0 → vs.length ≠ 1 → Cl shM mX9_ends [pR 0, pI (h.1 16 (3 * T + 1))] h (fun _ h3 => LG P h3)) ∧ (vs.length = 1 → ((h.1 16 (3 * T) = 0) → Cl shM mX9_begins [pR 0, pI (pt t s 2)] h (fun _ h4 => LG P h4)) ∧ ((¬ h.1 16 (3 * T) = 0) → Cl shM mX9_begins [pR 0, pI (pt t s 1)] h (fun _ h5 => LG P h5))) ∧ (vs.length = 0 → Cl shM mX9_begins [pR 0, pI (pt t s 0)] h (fun _ h6 => LG P h6)))
    (q6 : kd t s = 6 → (vs.length < ar t s → Cl shM mX9_begins [pR 0, pI (pt t s vs.length)] h (fun _ h8 => LG P h8)) ∧ (¬ vs.length < ar t s → Cl shM mX9_enters [pR 0, pI (T : Int), pI (s : Int)] h (fun _ h7 => LG P h7)))
    (q8 : kd t s = 8 → Cl shM mX9_whiles [pR 0, pI (T : Int), pI (s : Int), pI (vs.length : Int), pI (h.1 16 (3 * T))] h (fun _ h9 => LG P h9))
    (qd : kd t s ≠ 0 → kd t s ≠ 1 → kd t s ≠ 3 → kd t s ≠ 6 → kd t s ≠ 8 → (¬ vs.length < ar t s → Cl shM mX9_does [pR 0, pI (s : Int), pI (h.1 16 (3 * T)), pI (h.1 16 (3 * T + 1))] h (fun _ h11 => LG P h11)) ∧ (vs.length < ar t s → Cl shM mX9_begins [pR 0, pI (pt t s vs.length)] h (fun _ h12 => LG P h12))) : LG P h := by
  have hm := w.m
  have hkb := w.2.2.2.2.1 s hs
  have R := S.1.1
  obtain ⟨ffk, ha3⟩ := arfk w hs hk
  refine sX9_run_184 ⟨fun c => absurd S.2.2.2.2.2.2 c, fun _ => sX9_goesOn_0 ?_⟩
  rw [ht, show (T : Int) + 1 - 1 = (T : Int) by omega]
  refine ⟨by unfold inR; omega, T, rfl, by omega, by unfold inR; omega, 3 * T, by omega, by omega, by unfold inR; omega, 3 * T + 1, by omega, by omega, s, f.1, by omega, ?_⟩
  rw [f.1, f.2.1, R.k hs]
  refine ⟨fun e => ?_, fun e => ?_, fun e => ?_, fun e => ?_, fun e => q8 e, fun e => ?_⟩
  · rw [R.n hs]
    exact q0 e
  · rw [R.n hs, S.2.2.1]
    have hn := (w.2.2.2.2.2.1 s hs hk).1 (Or.inl e)
    refine ⟨by unfold inR; omega, by unfold inR; omega, by unfold inR; omega, 40 * (l - 1) + (nm t s).toNat, by omega, by omega, ?_⟩
    rw [S.2.1 _ (by omega)]
    exact q1 e
  · obtain ⟨a, b, c⟩ := q3 e
    refine ⟨fun z => ⟨fun z1 => a (by omega) (by omega), fun z1 => ⟨by unfold inR; omega, fun z2 => ⟨by unfold inR; omega, 3 * s + 2, by omega, by omega, ?_⟩, fun z2 => ⟨by unfold inR; omega, 3 * s + 1, by omega, by omega, ?_⟩⟩⟩, fun z => ⟨by unfold inR; omega, 3 * s, by omega, by omega, ?_⟩⟩
    · rw [R.p hs (by decide)]
      exact (b (by omega)).1 z2
    · rw [R.p hs (by decide)]
      exact (b (by omega)).2 z2
    · have e0 : h.1 3 (3 * s) = pt t s 0 := R.p (k := 0) hs (by decide)
      rw [e0]
      exact c (by omega)
  · obtain ⟨epr, _, hn0, hn1⟩ := prI_ar w hs e
    obtain ⟨a, b⟩ := q6 e
    rw [R.n hs]
    refine ⟨(nm t s).toNat, by omega, by omega, ?_⟩
    have e6 : h.1 6 (nm t s).toNat = (ar t s : Int) := by
      rw [R.q (by omega), ← epr]
      exact (if_pos ⟨hn0, hn1⟩).symm
    rw [e6]
    refine ⟨fun z => b (by omega), fun z => ⟨by unfold inR; omega, by unfold inR; omega, 3 * s + vs.length, by omega, by omega, ?_⟩⟩
    rw [R.p hs (by omega)]
    exact a (by omega)
  · obtain ⟨a, b⟩ := qd (by omega) (by omega) (by omega) (by omega) (by omega)
    refine m_partsOf' R hs ffk ⟨fun z => a (by omega), fun z => ⟨by unfold inR; omega, by unfold inR; omega, 3 * s + vs.length, by omega, by omega, ?_⟩⟩
    rw [R.p hs (by omega)]
    exact b (by omega)
theorem m_parts {n T l s : Nat} {h0 : Hp} {M : Int} {g : List Int → MS → RS} {L0 : List Nat} (w : WF t) (IH : ME t has P n) (hs : s < mk t) (h11 : kd t s ≠ 11) (hL0 : L0.length ≤ 3) (hin : ∀ p ∈ L0, p < mk t ∧ kd t p ≠ -1 ∧ rk t p < rk t s) (hM : M ≤ 2000) (hN : 50 * M + (rk t s : Int) < (n : Int) + 1) (hl1 : 1 ≤ l) (hl2 : l ≤ 12) (hTr : T + rk t s ≤ 40 * l) (hT : T < 480)
    (adv : ∀ (p : Nat) (vs : List Int) (σ : MS) (h1 : Hp), L0[vs.length]? = some p → NC t has l σ h1 → h1.2.1 0 16 = (T : Int) + 1 → FW T s l vs h1 → Cl shM mX9_begins [pR 0, pI (p : Int)] h1 (fun _ h2 => LG P h2) → LG P h1)
    (fin : ∀ (vs : List Int) (σ : MS) (h1 : Hp), vs.length = L0.length → GM t σ → mL σ ≤ M → NK T l h0 h1 → NC t has l σ h1 → h1.2.1 0 16 = (T : Int) + 1 → FW T s l vs h1 → KM t has P T l h0 (g vs σ) → LG P h1) :
    ∀ (L : List Nat) (vs : List Int) (σ : MS) (h : Hp), vs.length + L.length = L0.length → (∀ i, L[i]? = L0[vs.length + i]?) → GM t σ → mL σ ≤ M → NK T l h0 h → NC t has l σ h → h.2.1 0 16 = (T : Int) + 1 → FW T s l vs h → KM t has P T l h0 (evL (E t n l false) L vs σ g) → LG P h := by
  have hm := w.1
  intro L
  induction L with
  | nil =>
    intro vs σ h e1 _ G hM x R ht fv k
    have e1 : vs.length + 0 = L0.length := e1
    exact fin vs σ h (by omega) G hM x R ht fv k
  | cons p L ih =>
    intro vs σ h e1 e2 G hM' x R ht fv k
    have e1 : vs.length + (L.length + 1) = L0.length := e1
    have hp0 : L0[vs.length]? = some p := (e2 0).symm
    obtain ⟨p1, p2, p3⟩ := hin p (List.mem_of_getElem? hp0)
    have ok := E_ok w n l false p σ p1 p2 (fun q => by cases q) G (by omega)
    refine adv p vs σ h hp0 R ht fv ?_
    refine (IH l false p σ (T + 1) h p1 p2 (fun q => by cases q) G (by omega) (by omega) hl1 hl2 (by omega) R (KM.sub (by omega) (by omega) hs h11 x fv (fun ne => ?_) (fun e h' y SC' ht' => ?_))).1 rfl (by omega)
    · rw [evL, if_neg ne] at k
      exact k
    · rw [evL, if_pos e] at k
      have fv' := fv.sk y (by omega)
      refine m_deliver ht' (by omega) fv' (by omega) (fun fv2 => ?_)
      have l1 := ok.2.2
      refine ih (vs ++ [(E t n l false p σ).2.1]) _ _ (by rw [List.length_append]; show vs.length + 1 + L.length = _; omega) (fun i => ?_) ok.2.1 (by omega) ?_ (((SC'.sp _).A ⟨by decide, by decide⟩).A ⟨by decide, by decide⟩) (by rw [hA_i, hA_i, hI_at, if_pos ⟨rfl, rfl⟩]) fv2 k
      · have := e2 (i + 1)
        rw [List.getElem?_cons_succ] at this
        rw [this, List.length_append]
        show L0[vs.length + (i + 1)]? = L0[vs.length + 1 + i]?
        rw [show vs.length + (i + 1) = vs.length + 1 + i by omega]
      · exact (((x.tr y (Nat.le_succ _) (Nat.le_refl _)).I (Or.inl rfl)).A (Or.inr (Or.inr (Or.inl ⟨rfl, by omega⟩)))).A (Or.inr (Or.inl ⟨Or.inr (Or.inl rfl), Nat.le_refl _⟩))
end MR
