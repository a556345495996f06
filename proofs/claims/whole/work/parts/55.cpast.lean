/-! THE CLASS: a state is held -/
section CPA
variable {t : TV}
theorem cpR_fr {h : Hp} {o s m r : Nat} : fr o (o + 6) h (cpR h o s m r) := by
  unfold cpR cpA
  exact (((((((fr.rf.C (by omega)).C (by omega)).C (by omega)).C (by omega)).C (by omega)).C (by omega)).I (by omega)).I (by omega)
theorem cp_at (h : Hp) (a b n x j : Nat) : (copyTo h a b 0 0 n).1 x j = if x = b ∧ 0 ≤ j ∧ j < 0 + n then h.1 a (0 + (j - 0)) else h.1 x j := rfl
theorem cp_in {h : Hp} {a b n j : Nat} (hj : j < n) : (copyTo h a b 0 0 n).1 b j = h.1 a j := by
  rw [cp_at, if_pos ⟨rfl, Nat.zero_le _, by omega⟩, Nat.zero_add, Nat.sub_zero]
theorem cp_ne {h : Hp} {a b n x j : Nat} (hx : x ≠ b) : (copyTo h a b 0 0 n).1 x j = h.1 x j := by
  rw [cp_at, if_neg (fun q => hx q.1)]
/-- a row of rows that another was copied to -/
theorem cpR_at {h : Hp} {o s m r : Nat} (hd : s + 6 < o ∨ o + 6 < s) : (∀ j, j < m → (cpR h o s m r).1 (o + 1) j = h.1 (s + 1) j ∧ (cpR h o s m r).1 (o + 2) j = h.1 (s + 2) j ∧ (cpR h o s m r).1 (o + 4) j = h.1 (s + 4) j) ∧ (∀ j, j < 3 * m → (cpR h o s m r).1 (o + 3) j = h.1 (s + 3) j) ∧ (∀ j, j < r → (cpR h o s m r).1 (o + 5) j = h.1 (s + 5) j ∧ (cpR h o s m r).1 (o + 6) j = h.1 (s + 6) j) ∧ (cpR h o s m r).2.1 o 6 = (m : Int) ∧ (cpR h o s m r).2.1 o 7 = (r : Int) := by
  have e : (cpR h o s m r).1 = (cpA h o s m r).1 := rfl
  refine ⟨fun j hj => ⟨?_, ?_, ?_⟩, fun j hj => ?_, fun j hj => ⟨?_, ?_⟩, ?_, ?_⟩
  · rw [e]; unfold cpA
    rw [cp_ne (by omega), cp_ne (by omega), cp_ne (by omega), cp_ne (by omega), cp_ne (by omega), cp_in hj]
  · rw [e]; unfold cpA
    rw [cp_ne (by omega), cp_ne (by omega), cp_ne (by omega), cp_ne (by omega), cp_in hj, cp_ne (by omega)]
  · rw [e]; unfold cpA
    rw [cp_ne (by omega), cp_ne (by omega), cp_in hj, cp_ne (by omega), cp_ne (by omega), cp_ne (by omega)]
  · rw [e]; unfold cpA
    rw [cp_ne (by omega), cp_ne (by omega), cp_ne (by omega), cp_in hj, cp_ne (by omega), cp_ne (by omega)]
  · rw [e]; unfold cpA
    rw [cp_ne (by omega), cp_in hj, cp_ne (by omega), cp_ne (by omega), cp_ne (by omega), cp_ne (by omega)]
  · rw [e]; unfold cpA
    rw [cp_in hj, cp_ne (by omega), cp_ne (by omega), cp_ne (by omega), cp_ne (by omega), cp_ne (by omega)]
  · unfold cpR
    rw [hI_at, if_neg (by omega), hI_at, if_pos ⟨rfl, rfl⟩]
  · unfold cpR
    rw [hI_at, if_pos ⟨rfl, rfl⟩]
theorem slot_cp {h : Hp} {o : Nat} (R : RC t h) (ho : 46 ≤ o) : slot o t (cpR h o 2 (mk t) (rt t)) := by
  obtain ⟨r1, r2, r3, r4, r5, r6, r7⟩ := R
  obtain ⟨c1, c2, c3, c4, c5⟩ := cpR_at (h := h) (o := o) (s := 2) (m := mk t) (r := rt t) (Or.inl (by omega))
  refine ⟨c4, c5, r3, r4, fun s hs => ?_, fun j hj => ?_, fun r hr => ?_⟩
  · obtain ⟨a1, a2, a3⟩ := c1 s hs
    obtain ⟨b1, b2, b3⟩ := r5 s hs
    exact ⟨a1.trans b1, a2.trans b2, a3.trans b3⟩
  · exact (c2 j hj).trans (r6 j hj)
  · obtain ⟨a1, a2⟩ := c3 r hr
    obtain ⟨b1, b2⟩ := r7 r hr
    exact ⟨a1.trans b1, a2.trans b2⟩
end CPA
