/-! RUN: why, and the last moves of both sides -/
section WY
variable {t : TV}
def wy (r : RS) : Prop := r.1 = 2 → r.2.1 ≠ 0
theorem wy_0 {v z : Int} {σ : MS} {a : Nat} (h : a ≠ 2) : wy (a, v, z, σ) := fun e => absurd e h
theorem evL_wy {f : Nat → MS → RS} {g : List Int → MS → RS} (hf : ∀ p σ, wy (f p σ)) (hg : ∀ vs σ, wy (g vs σ)) : ∀ (L : List Nat) (vs : List Int) (σ : MS), wy (evL f L vs σ g)
  | [], vs, σ => hg vs σ
  | p :: L, vs, σ => by
    rw [evL]
    split
    · exact evL_wy hf hg L _ _
    · exact hf p σ
theorem doo_wy {s : Nat} {vs : List Int} {σ : MS} : wy (doo t s vs σ) := by
  unfold doo
  split
  · split
    · exact fun _ => by show (1 : Int) ≠ 0; decide
    · exact wy_0 (by decide)
  · split
    · exact wy_0 (by decide)
    · split
      · exact wy_0 (by decide)
      · split
        · exact wy_0 (by decide)
        · split
          · exact fun _ => by show (2 : Int) ≠ 0; decide
          · split
            · exact wy_0 (by decide)
            · exact wy_0 (by decide)
theorem rtn_wy {r : RS} {f : Nat → Int} (h : wy r) : wy (rtn r f) := by
  unfold rtn
  split
  · exact wy_0 (by decide)
  · exact h
theorem E_wy : ∀ (n l : Nat) (b : Bool) (s : Nat) (σ : MS), wy (E t n l b s σ) := by
  have l3 : ∀ {z : Int} {σ : MS}, wy (2, 3, z, σ) := fun _ => by show (3 : Int) ≠ 0; decide
  have l4 : ∀ {z : Int} {σ : MS}, wy (2, 4, z, σ) := fun _ => by show (4 : Int) ≠ 0; decide
  have l5 : ∀ {z : Int} {σ : MS}, wy (2, 5, z, σ) := fun _ => by show (5 : Int) ≠ 0; decide
  intro n
  induction n with
  | zero =>
    intro l b s σ
    exact wy_0 (by decide)
  | succ n ih =>
    intro l b s σ
    cases b with
    | true =>
      rw [E]
      split
      · exact ih _ _ _ _
      · split
        · exact wy_0 (by decide)
        · split
          · exact ih _ _ _ _
          · split
            · exact l4
            · exact ih _ _ _ _
    | false =>
      rw [E]
      split
      · refine evL_wy (fun p σ => ih _ _ _ _) (fun vs σ => ?_) _ _ _
        split
        · exact l3
        · split
          · exact l4
          · split
            · exact l5
            · exact rtn_wy (ih _ _ _ _)
      · split
        · exact l4
        · split
          · exact wy_0 (by decide)
          · split
            · exact wy_0 (by decide)
            · split
              · exact ih _ _ _ _
              · split
                · exact evL_wy (fun p σ => ih _ _ _ _) (fun vs σ => ih _ _ _ _) _ _ _
                · split
                  · exact rtn_wy (ih _ _ _ _)
                  · exact evL_wy (fun p σ => ih _ _ _ _) (fun vs σ => doo_wy) _ _ _
end WY
section FI
variable {t : TV} {fuel : Int} {P : Int → Hp → Prop}
/-- the class stops -/
theorem c_stop {h : Hp} {v6 : Int} (hs : h.2.1 19 9 ≤ 0 ∨ h.2.1 19 13 ≠ 0) (h1 : inR (fuel - h.2.1 19 11)) (h2 : inR (h.2.1 19 12 + (fuel - h.2.1 19 11))) (q : P (h.2.1 19 13) (hI (hI h 19 15 (fuel - h.2.1 19 11)) 19 12 (h.2.1 19 12 + (fuel - h.2.1 19 11)))) : LO fuel P v6 h :=
  sX2_start_122 ⟨fun _ => ⟨h1, h2, q⟩, fun _ => ⟨fun _ => ⟨h1, h2, q⟩, fun c => ⟨fun _ => ⟨h1, h2, q⟩, fun c2 => absurd c2 (hs.resolve_left c)⟩⟩⟩
/-- the numbers of the latest run -/
def qf (a b c d e : Int) : Nat → Int := fun k => if k = 0 then a else if k = 1 then b else if k = 2 then c else if k = 3 then d else e
/-- how a run ends -/
theorem c_end {T : Nat} {v w : Int} {σ : MS} {h0 h : Hp} {v6 ev : Int} (S : SR t σ h) (F : F12 h0 h) (hw : h.2.1 19 13 = w) (h17 : h.2.1 19 17 = v) {z : Int} (h14 : h.2.1 19 14 = z) (e12 : h0.2.1 19 12 = ev) (hs : h.2.1 19 9 ≤ 0 ∨ w ≠ 0) (h1 : inR (fuel - mL σ)) (h2 : inR (ev + (fuel - mL σ))) (q : ∀ h', F12 h (hI h' 19 12 (h.2.1 19 12)) → (∀ a, h'.1 a = h.1 a) → fr 19 27 h h' → h'.2.1 19 14 = z → h'.2.1 19 15 = fuel - mL σ → h'.2.1 19 16 = mO σ → h'.2.1 19 17 = v → h'.2.1 19 12 = ev + (fuel - mL σ) → P w h') : LO fuel P v6 h := by
  have e11 := S.2.1
  have f12 : h.2.1 19 12 = ev := F.2.trans e12
  refine c_stop (by rw [hw]; exact hs) (by rw [e11]; exact h1) (by rw [e11, f12]; exact h2) ?_
  rw [hw, e11, f12]
  have fh : fr 19 27 h (hI (hI h 19 15 (fuel - mL σ)) 19 12 (ev + (fuel - mL σ))) := (fr.rf.I ⟨by decide, by decide⟩).I ⟨by decide, by decide⟩
  refine q _ ⟨fh.I ⟨by decide, by decide⟩, by rw [hI_at, if_pos ⟨rfl, rfl⟩]⟩ (fun _ => rfl) fh ?_ ?_ ?_ ?_ ?_
  · rw [hI_at, if_neg (by omega), hI_at, if_neg (by omega)]; exact h14
  · rw [hI_at, if_neg (by omega), hI_at, if_pos ⟨rfl, rfl⟩]
  · rw [hI_at, if_neg (by omega), hI_at, if_neg (by omega)]; exact S.2.2.2.2
  · rw [hI_at, if_neg (by omega), hI_at, if_neg (by omega)]; exact h17
  · rw [hI_at, if_pos ⟨rfl, rfl⟩]
end FI
