/-! BOTH SIDES: a body is told -/
section SB
variable {st : St} {t : TV}
theorem tw_at (t : TV) (ro i : Nat) (v : Int) (r j : Nat) : (tw t ro i v).1 r j = if r = ro ∧ j = i then v else t.1 r j := rfl
theorem wf_bd (w : WF t) {r : Nat} {z : Int} (hz : z = -4 ∨ lo t z) : WF (tw t 5 r z) := by
  have e : ∀ a j, a < 5 → (tw t 5 r z).1 a j = t.1 a j := fun a j ha => by rw [tw_at, if_neg (by omega)]
  have e0 : ∀ j, kd (tw t 5 r z) j = kd t j := fun j => e 0 j (by decide)
  have e3 : ∀ j, up (tw t 5 r z) j = up t j := fun j => e 3 j (by decide)
  have b1 : ∀ q, q ≠ r → bd (tw t 5 r z) q = bd t q := fun q hq => by
    show (tw t 5 r z).1 5 q = _
    rw [tw_at, if_neg (fun c => hq c.2)]
  have b2' : bd (tw t 5 r z) r = z := by
    show (tw t 5 r z).1 5 r = _
    rw [tw_at, if_pos ⟨rfl, rfl⟩]
  have hno : ∀ q, q < rt t → z ≠ -4 → bd t q ≠ z := fun q hq h4 => by
    rcases hz with h | h
    · exact absurd h h4
    · exact owF_none h.2.2 q (Nat.zero_le _) (by omega)
  refine ⟨w.1, w.2.1, fun q hq => ?_, fun q q' hq hq' hne hb => ?_, w.2.2.2.2.1, w.2.2.2.2.2.1, fun s hs hks => tr_cg (t := t) (t' := tw t 5 r z) rfl (fun j => e 0 j (by decide)) (fun j => e 2 j (by decide)) (fun j => e 3 j (by decide)) 40 s (w.tr' hs hks), w.2.2.2.2.2.2.2⟩
  · obtain ⟨h1, h2, h3⟩ := w.2.2.1 q hq
    refine ⟨h1, h2, ?_⟩
    by_cases c : q = r
    · rw [c, b2']
      rcases hz with h | h
      · exact Or.inl h
      · refine Or.inr ⟨h.1, ?_⟩
        have h4 := h.2.1
        unfold upI at h4
        rw [if_pos ⟨h.1.1, h.1.2.1⟩] at h4
        exact h4
    · rw [b1 q c]
      exact h3
  · by_cases c : q = r
    · rw [c, b2'] at hb ⊢
      rw [b1 q' (fun x => hne (by rw [c, x]))]
      exact fun x => hno q' hq' hb x.symm
    · rw [b1 q c] at hb ⊢
      by_cases c2 : q' = r
      · rw [c2, b2']
        intro x
        exact hno q hq (by rw [← x]; exact hb) x
      · rw [b1 q' c2]
        exact w.2.2.2.1 q q' hq hq' hne hb
theorem ws_push (w : WS st) {t' : TV} (w' : WF t') (hm : mk t' = mk (sT st)) (hr : rt t' = rt (sT st)) (hp : ∀ r, pr t' r = pr (sT st) r) : WS (t', sN st, sW st, pushU (sU st) (sT st), sQ st, sL st) := by
  refine ⟨w', ?_, fun u hu => ?_, ?_, w.2.2.2.2⟩
  · show (pushU (sU st) (sT st)).length ≤ 12
    have := w.2.1
    unfold pushU
    split
    · rw [List.length_append, List.length_drop]
      show _ + 1 ≤ 12
      omega
    · rw [List.length_append]
      show _ + 1 ≤ 12
      omega
  · have hu : u ∈ pushU (sU st) (sT st) := hu
    have key : kin (sT st) u := by
      unfold pushU at hu
      split at hu
      · rcases List.mem_append.mp hu with h | h
        · exact w.2.2.1 u (List.mem_of_mem_drop h)
        · rw [List.mem_singleton] at h
          rw [h]
          exact ⟨w.1, rfl, fun _ _ => rfl, Nat.le_refl _⟩
      · rcases List.mem_append.mp hu with h | h
        · exact w.2.2.1 u h
        · rw [List.mem_singleton] at h
          rw [h]
          exact ⟨w.1, rfl, fun _ _ => rfl, Nat.le_refl _⟩
    obtain ⟨k1, k2, k3, k4⟩ := key
    exact ⟨k1, k2.trans hr.symm, fun q hq => (k3 q (by rw [← hr]; exact hq)).trans (hp q).symm, by show mk u ≤ mk t'; omega⟩
  · show ∀ s, mk t' ≤ s → sN st s = 0
    rw [hm]
    exact w.2.2.2.1
end SB
