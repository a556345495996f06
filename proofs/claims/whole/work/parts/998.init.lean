/-! THE START: both sides hold one empty state -/
section IN
def st0 : St := ((fun _ _ => 0, (0, 0)), (fun _ => 0, (fun _ => 0, ([], (fun _ => 0, none)))))
theorem ws_0 : WS st0 := by
  refine ⟨⟨by show 0 ≤ 600; decide, by show 0 ≤ 10; decide, fun r hr => absurd hr (Nat.not_lt_zero _), fun r q hr => absurd hr (Nat.not_lt_zero _), fun s hs => absurd hs (Nat.not_lt_zero _), fun s hs => absurd hs (Nat.not_lt_zero _), fun s hs => absurd hs (Nat.not_lt_zero _), fun s hs => absurd hs (Nat.not_lt_zero _)⟩, by show 0 ≤ 12; decide, fun u hu => (by cases hu), fun _ _ => rfl, ⟨by show (0 : Int) ≤ 0; decide, by show (0 : Int) ≤ 62000; decide⟩, fun x hx => (by cases hx)⟩
theorem relC_0 {h : Hp} (ha : ∀ a i, h.1 a i = 0) (hi : ∀ o k, ¬ (o = 40 ∧ k = 12) → h.2.1 o k = 0) (h40 : h.2.1 40 12 = -4) (hc : h.2.2 = 0) : RelC st0 h := by
  refine ⟨⟨hi 2 6 (by decide), hi 2 7 (by decide), by show 0 ≤ 600; decide, by show 0 ≤ 10; decide, fun s hs => absurd hs (Nat.not_lt_zero _), fun j hj => absurd hj (Nat.not_lt_zero _), fun r hr => absurd hr (Nat.not_lt_zero _)⟩, ⟨fun s _ => ha 20 s, fun i _ => ha 21 i, ⟨hi 19 14 (by decide), hi 19 15 (by decide), hi 19 16 (by decide), hi 19 17 (by decide), hi 19 12 (by decide)⟩, h40⟩, 0, hi 38 1 (by decide), by decide, hi 38 2 (by decide), by decide, fun _ => Nat.zero_le _, fun q => absurd rfl q, by rw [hc]; decide, fun i u hu => (by cases hu)⟩
theorem relM_0 {g : Hp} (ha : ∀ a i, g.1 a i = 0) (hi : ∀ o k, g.2.1 o k = 0) : RelM st0 g := by
  refine ⟨⟨hi 0 0, hi 0 6, by show 0 ≤ 600; decide, by show 0 ≤ 10; decide, fun s hs => absurd hs (Nat.not_lt_zero _), fun j hj => absurd hj (Nat.not_lt_zero _), fun r hr => absurd hr (Nat.not_lt_zero _)⟩, ⟨fun s _ => ha 5 s, fun i _ => ha 8 i, ⟨hi 0 26, hi 0 24, hi 0 27, ?_, hi 0 30⟩, hi 0 41⟩, hi 0 13, fun i u hu => (by cases hu)⟩
  rw [hi 0 31, if_pos rfl]
  rfl
end IN
