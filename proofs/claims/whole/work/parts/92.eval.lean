/-! RUN: what a step comes to, of both sides -/
section EV
variable {t : TV}
/-- names, fuel left, counts, row, most calls under way -/
abbrev MS := (Nat → Int) × Int × (Nat → Int) × (Nat → Int) × Int
/-- 0: a value, 1: left with a value, 2: refused (why, where), 3: not come to; and what it leaves -/
abbrev RS := Nat × Int × Int × MS
abbrev mN (σ : MS) : Nat → Int := σ.1
abbrev mL (σ : MS) : Int := σ.2.1
abbrev mC (σ : MS) : Nat → Int := σ.2.2.1
abbrev mR (σ : MS) : Nat → Int := σ.2.2.2.1
abbrev mO (σ : MS) : Int := σ.2.2.2.2
def up1 (f : Nat → Int) (k : Nat) (v : Int) : Nat → Int := fun j => if j = k then v else f j
theorem up1_at (f : Nat → Int) (k : Nat) (v : Int) (j : Nat) : up1 f k v j = if j = k then v else f j := rfl
def pay (c : Int) (σ : MS) : MS := (mN σ, mL σ - c, mC σ, mR σ, mO σ)
def tick (s : Nat) (σ : MS) : MS := (mN σ, mL σ, up1 (mC σ) s (wr (mC σ s + 1)), mR σ, mO σ)
/-- the parts one after another -/
def evL (f : Nat → MS → RS) : List Nat → List Int → MS → (List Int → MS → RS) → RS
  | [], vs, σ, g => g vs σ
  | p :: L, vs, σ, g => if (f p σ).1 = 0 then evL f L (vs ++ [(f p σ).2.1]) (f p σ).2.2.2 g else f p σ
/-- a step whose parts have their values -/
def doo (t : TV) (s : Nat) (vs : List Int) (σ : MS) : RS :=
  if kd t s = 2 then (if nm t s = 3 ∧ vs.getD 1 0 = 0 then (2, 1, (s : Int), σ) else (0, rkn (nm t s) (vs.getD 0 0) (vs.getD 1 0), 0, σ))
  else if kd t s = 4 then (0, vs.getD 0 0, 0, (up1 (mN σ) (nm t s).toNat (vs.getD 0 0), σ.2))
  else if kd t s = 5 then (0, vs.getD 1 0, 0, σ)
  else if kd t s = 7 then (1, vs.getD 0 0, 0, σ)
  else if vs.getD 0 0 < 0 ∨ 8 ≤ vs.getD 0 0 then (2, 2, (s : Int), σ)
  else if kd t s = 10 then (0, vs.getD 1 0, 0, (mN σ, mL σ, mC σ, up1 (mR σ) (vs.getD 0 0).toNat (vs.getD 1 0), mO σ))
  else (0, mR σ (vs.getD 0 0).toNat, 0, σ)
def args (p : Int) (vs : List Int) : Nat → Int := fun k => if (k : Int) < p ∧ k < 3 then vs.getD k 0 else 0
/-- what a body comes to is what its call comes to -/
def rtn (r : RS) (f : Nat → Int) : RS := if r.1 ≤ 1 then (0, r.2.1, 0, (f, r.2.2.2.2)) else r
noncomputable def E (t : TV) : Nat → Nat → Bool → Nat → MS → RS
  | 0, _, _, _, σ => (3, 0, 0, σ)
  | n + 1, l, true, s, σ =>
    if (E t n l false (xN t s) σ).1 ≠ 0 then E t n l false (xN t s) σ
    else if (E t n l false (xN t s) σ).2.1 = 0 then (0, 0, 0, (E t n l false (xN t s) σ).2.2.2)
    else if (E t n l false (yN t s) (E t n l false (xN t s) σ).2.2.2).1 ≠ 0 then E t n l false (yN t s) (E t n l false (xN t s) σ).2.2.2
    else if mL (E t n l false (yN t s) (E t n l false (xN t s) σ).2.2.2).2.2.2 < 1 then (2, 4, (s : Int), (E t n l false (yN t s) (E t n l false (xN t s) σ).2.2.2).2.2.2)
    else E t n l true s (pay 1 (E t n l false (yN t s) (E t n l false (xN t s) σ).2.2.2).2.2.2)
  | n + 1, l, false, s, σ =>
    if kd t s = 6 then evL (E t n l false) (ch t s) [] σ (fun vs σ1 =>
      if bdI t (nm t s) = -4 then (2, 3, (s : Int), σ1)
      else if mL σ1 < 4 + uses t (nm t s) then (2, 4, (s : Int), σ1)
      else if ¬ l < 12 then (2, 5, (s : Int), tick s (pay (4 + uses t (nm t s)) σ1))
      else rtn (E t n (l + 1) false (bdI t (nm t s)).toNat (args (prI t (nm t s)) vs, mL σ1 - (4 + uses t (nm t s)), mC (tick s σ1), mR σ1, max (mO σ1) ((l : Int) + 1))) (mN σ1))
    else if mL σ < stT 0 (kd t s).toNat then (2, 4, (s : Int), σ)
    else if kd t s = 0 then (0, nm t s, 0, tick s (pay (stT 0 (kd t s).toNat) σ))
    else if kd t s = 1 then (0, mN σ (nm t s).toNat, 0, tick s (pay (stT 0 (kd t s).toNat) σ))
    else if kd t s = 8 then E t n l true s (tick s (pay (stT 0 (kd t s).toNat) σ))
    else if kd t s = 3 then evL (E t n l false) [xN t s] [] (tick s (pay (stT 0 (kd t s).toNat) σ)) (fun vs σ1 => E t n l false (pt t s (if vs.getD 0 0 = 0 then 2 else 1)).toNat σ1)
    else if kd t s = 11 then rtn (E t n l false (xN t s) (tick s (pay (stT 0 (kd t s).toNat) σ))) (mN (E t n l false (xN t s) (tick s (pay (stT 0 (kd t s).toNat) σ))).2.2.2)
    else evL (E t n l false) (ch t s) [] (tick s (pay (stT 0 (kd t s).toNat) σ)) (doo t s)
/-- what is always kept -/
def GM (t : TV) (σ : MS) : Prop := 0 ≤ mL σ ∧ ∀ s, mk t ≤ s → mC σ s = 0
def okR (t : TV) (M : Int) (r : RS) : Prop := r.1 ≤ 2 ∧ GM t r.2.2.2 ∧ mL r.2.2.2 ≤ M
theorem okR.le {M M' : Int} {r : RS} (h : okR t M r) (hm : M ≤ M') : okR t M' r := ⟨h.1, h.2.1, Int.le_trans h.2.2 hm⟩
theorem evL_ok {f : Nat → MS → RS} {g : List Int → MS → RS} {M : Int} : ∀ (L : List Nat) (vs : List Int) (σ : MS), (∀ p ∈ L, ∀ σ', GM t σ' → mL σ' ≤ M → okR t M (f p σ')) → (∀ vs σ', GM t σ' → mL σ' ≤ M → okR t M (g vs σ')) → GM t σ → mL σ ≤ M → okR t M (evL f L vs σ g)
  | [], vs, σ, _, hg, h1, h2 => hg vs σ h1 h2
  | p :: L, vs, σ, hf, hg, h1, h2 => by
    have hp := hf p List.mem_cons_self σ h1 h2
    rw [evL]
    split
    · exact evL_ok L _ _ (fun q hq => hf q (List.mem_cons_of_mem _ hq)) hg hp.2.1 hp.2.2
    · exact hp
theorem GM.pay {σ : MS} (h : GM t σ) {c : Int} (hc : ¬ mL σ < c) : GM t (pay c σ) := ⟨by show 0 ≤ mL σ - c; omega, h.2⟩
theorem GM.tick {σ : MS} (h : GM t σ) {s : Nat} (hs : s < mk t) : GM t (tick s σ) := ⟨h.1, fun x hx => by
  show up1 (mC σ) s _ x = 0
  rw [up1_at, if_neg (by omega)]
  exact h.2 x hx⟩
theorem stT0_in : ∀ k, k < 12 → 0 ≤ stT 0 k ∧ stT 0 k ≤ 1 := by decide
theorem ok2 {a : Nat} {v z M : Int} {σ : MS} (ha : a ≤ 2) (h : GM t σ) (hl : mL σ ≤ M) : okR t M (a, v, z, σ) := ⟨ha, h, hl⟩
theorem doo_ok {s : Nat} {vs : List Int} {σ : MS} (h : GM t σ) : okR t (mL σ) (doo t s vs σ) := by
  have b : ∀ a v z, a ≤ 2 → okR t (mL σ) (a, v, z, σ) := fun a v z ha => ok2 ha h (Int.le_refl _)
  unfold doo
  split
  · split
    · exact b _ _ _ (by decide)
    · exact b _ _ _ (by decide)
  · split
    · exact ok2 (by decide) h (Int.le_refl _)
    · split
      · exact b _ _ _ (by decide)
      · split
        · exact b _ _ _ (by decide)
        · split
          · exact b _ _ _ (by decide)
          · split
            · exact ok2 (by decide) h (Int.le_refl _)
            · exact b _ _ _ (by decide)
theorem rtn_ok {M : Int} {r : RS} {f : Nat → Int} (h : okR t M r) : okR t M (rtn r f) := by
  unfold rtn
  split
  · exact ok2 (by decide) h.2.1 h.2.2
  · exact h
/-- the parts of a step that are asked for -/
theorem p_of (w : WF t) {s : Nat} (hs : s < mk t) (hk : kd t s ≠ -1) {j : Nat} (hj : j < ar t s) (h3 : j < 3) : (pt t s j).toNat < mk t ∧ kd t (pt t s j).toNat ≠ -1 ∧ rk t (pt t s j).toNat < rk t s ∧ pt t s j = ((pt t s j).toNat : Int) := by
  obtain ⟨a, b, c, d⟩ := prt w hs hk hj h3
  exact ⟨c, d, rk_ch w hs hk b, a⟩
theorem E_ok (w : WF t) : ∀ (n l : Nat) (b : Bool) (s : Nat) (σ : MS), s < mk t → kd t s ≠ -1 → (b = true → kd t s = 8) → GM t σ → 50 * mL σ + (rk t s : Int) < (n : Int) → okR t (mL σ) (E t n l b s σ) := by
  intro n
  induction n with
  | zero =>
    intro l b s σ hs hk hb G hN
    have := G.1
    omega
  | succ n ih =>
    intro l b s σ hs hk hb G hN
    have g0 := G.1
    have sub : ∀ p, p < mk t → kd t p ≠ -1 → rk t p < rk t s → ∀ σ', GM t σ' → mL σ' ≤ mL σ → okR t (mL σ) (E t n l false p σ') := fun p h1 h2 h3 σ' G' hl => (ih l false p σ' h1 h2 (fun q => by cases q) G' (by omega)).le hl
    cases b with
    | true =>
      have k8 := hb rfl
      obtain ⟨x1, x2, x3, _⟩ := p_of w hs hk (j := 0) (by rw [ar_2 (Or.inr (Or.inr (Or.inl k8)))]; decide) (by decide)
      obtain ⟨y1, y2, y3, _⟩ := p_of w hs hk (j := 1) (by rw [ar_2 (Or.inr (Or.inr (Or.inl k8)))]; decide) (by decide)
      have r0 := sub (xN t s) x1 x2 x3 σ G (Int.le_refl _)
      have r1 := sub (yN t s) y1 y2 y3 _ r0.2.1 r0.2.2
      rw [E]
      split
      · exact r0
      · split
        · exact ok2 (by decide) r0.2.1 r0.2.2
        · split
          · exact r1
          · split
            · exact ok2 (by decide) r1.2.1 r1.2.2
            · rename_i c
              have l1 := r1.2.2
              refine (ih l true s _ hs hk hb (r1.2.1.pay c) ?_).le ?_
              · show 50 * (mL _ - 1) + _ < _
                omega
              · show mL _ - 1 ≤ _
                omega
    | false =>
      have hkr := w.2.2.2.2.1 s hs
      have hst := stT0_in (kd t s).toNat (by omega)
      have kid : ∀ p ∈ ch t s, ∀ σ', GM t σ' → mL σ' ≤ mL σ → okR t (mL σ) (E t n l false p σ') := fun p hp σ' G' hl => by
        have := ch_al w hs hk hp
        exact sub p this.1 this.2 (rk_ch w hs hk hp) σ' G' hl
      rw [E]
      split
      · rename_i k6
        refine evL_ok _ _ _ kid (fun vs σ' G' hl => ?_) G (Int.le_refl _)
        have hu := w.us (nm t s)
        split
        · exact ok2 (by decide) G' hl
        · rename_i cb
          split
          · exact ok2 (by decide) G' hl
          · rename_i cm
            split
            · refine ok2 (by decide) ((G'.pay cm).tick hs) ?_
              show mL σ' - _ ≤ mL σ
              omega
            · have hn := (w.nmr hs hk).2 k6
              have hbe : bdI t (nm t s) = bd t (nm t s).toNat := if_pos hn
              have hal : al t (bdI t (nm t s)) := by
                rw [hbe] at cb ⊢
                exact ((w.2.2.1 _ (by omega)).2.2.resolve_left cb).1
              have hb1 : (bdI t (nm t s)).toNat < mk t ∧ kd t (bdI t (nm t s)).toNat ≠ -1 := by
                obtain ⟨a1, a2, a3⟩ := hal
                exact ⟨by omega, a3⟩
              have h40 := (rk_pos w hb1.1 hb1.2).2
              have G2 : GM t (args (prI t (nm t s)) vs, mL σ' - (4 + uses t (nm t s)), mC (tick s σ'), mR σ', max (mO σ') ((l : Int) + 1)) := ⟨by show 0 ≤ mL σ' - _; omega, (G'.tick hs).2⟩
              refine rtn_ok ((ih (l + 1) false _ _ hb1.1 hb1.2 (fun q => by cases q) G2 ?_).le ?_)
              · show 50 * (mL σ' - _) + _ < _
                have := rk_pos w hs hk
                omega
              · show mL σ' - _ ≤ mL σ
                omega
      · rename_i k6
        split
        · exact ok2 (by decide) G (Int.le_refl _)
        · rename_i cm
          have G1 : GM t (tick s (pay (stT 0 (kd t s).toNat) σ)) := (G.pay cm).tick hs
          have l1 : mL (tick s (pay (stT 0 (kd t s).toNat) σ)) ≤ mL σ := by
            show mL σ - _ ≤ mL σ
            omega
          split
          · exact ok2 (by decide) G1 l1
          · split
            · exact ok2 (by decide) G1 l1
            · split
              · rename_i k8
                refine (ih l true s _ hs hk (fun _ => k8) G1 ?_).le l1
                show 50 * (mL σ - stT 0 (kd t s).toNat) + _ < _
                rw [k8]
                have : stT 0 (8 : Int).toNat = 1 := by decide
                omega
              · split
                · rename_i k3
                  obtain ⟨x1, x2, x3, _⟩ := p_of w hs hk (j := 0) (by rw [ar_3' k3]; decide) (by decide)
                  obtain ⟨y1, y2, y3, _⟩ := p_of w hs hk (j := 1) (by rw [ar_3' k3]; decide) (by decide)
                  obtain ⟨z1, z2, z3, _⟩ := p_of w hs hk (j := 2) (by rw [ar_3' k3]; decide) (by decide)
                  refine evL_ok _ _ _ (fun p hp σ' G' hl => ?_) (fun vs σ' G' hl => ?_) G1 l1
                  · rw [List.mem_singleton] at hp
                    rw [hp]
                    exact sub _ x1 x2 x3 σ' G' hl
                  · split
                    · exact sub _ z1 z2 z3 σ' G' hl
                    · exact sub _ y1 y2 y3 σ' G' hl
                · split
                  · rename_i k11
                    obtain ⟨x1, x2, x3, _⟩ := p_of w hs hk (j := 0) (by rw [ar_1 (Or.inr (Or.inr (Or.inr k11)))]; decide) (by decide)
                    exact rtn_ok (sub _ x1 x2 x3 _ G1 l1)
                  · exact evL_ok _ _ _ kid (fun vs σ' G' hl => (doo_ok G').le hl) G1 l1
end EV
