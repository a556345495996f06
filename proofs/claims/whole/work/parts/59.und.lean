/-! WHAT UNDO COMES BACK TO: a state that was kept; what was made since is gone -/
section UN
variable {u : TV} {m : Nat}
def und (u : TV) (m : Nat) : TV := (fun r j => if r = 2 then (if j / 3 < mk u then u.1 2 j else -4) else if 4 ≤ r then u.1 r j else if j < mk u then u.1 r j else if r = 0 then -1 else if r = 1 then 0 else -4, (m, rt u))
theorem und_kd (s : Nat) : kd (und u m) s = if s < mk u then kd u s else -1 := rfl
theorem und_nm (s : Nat) : nm (und u m) s = if s < mk u then nm u s else 0 := rfl
theorem und_up (s : Nat) : up (und u m) s = if s < mk u then up u s else -4 := rfl
theorem und_pr (r : Nat) : pr (und u m) r = pr u r := rfl
theorem und_bd (r : Nat) : bd (und u m) r = bd u r := rfl
theorem und_pt {s k : Nat} (hk : k < 3) : pt (und u m) s k = if s < mk u then pt u s k else -4 := by
  show (if (3 * s + k) / 3 < mk u then u.1 2 (3 * s + k) else -4) = _
  rw [show (3 * s + k) / 3 = s by omega]
theorem und_ch {s c : Nat} (hs : s < mk u) : c ∈ ch (und u m) s ↔ c ∈ ch u s := by
  rw [mem_ch, mem_ch]
  constructor
  · rintro ⟨k, h1, h2, h3⟩
    rw [und_pt h1, if_pos hs] at h2 h3
    exact ⟨k, h1, h2, h3⟩
  · rintro ⟨k, h1, h2, h3⟩
    refine ⟨k, h1, ?_⟩
    rw [und_pt h1, if_pos hs]
    exact ⟨h2, h3⟩
theorem und_tr (hm : mk u ≤ m) : ∀ (n s : Nat), tr u n s → tr (und u m) n s
  | 0, _, h => h
  | n + 1, s, h => by
    have hs := h.1
    refine ⟨by show s < m; omega, by rw [und_kd, if_pos hs]; exact h.2.1, fun k hk => ?_, fun c hc => und_tr hm n c (h.2.2.2 c ((und_ch hs).mp hc))⟩
    rw [und_pt hk, if_pos hs]
    rcases h.2.2.1 k hk with h1 | ⟨h1, h2, h3⟩
    · exact Or.inl h1
    · by_cases h0 : pt u s k < 0
      · exact Or.inl h0
      · refine Or.inr ⟨by show pt u s k < (m : Int); omega, ?_, fun j hj hne => by rw [und_pt hj, if_pos hs]; exact h3 j hj hne⟩
        rw [und_up, if_pos (by omega)]
        exact h2
theorem wf_und (w : WF u) (hm : mk u ≤ m) (h6 : m ≤ 600) : WF (und u m) := by
  have al_u : ∀ z, al u z → al (und u m) z := fun z h => ⟨h.1, by show z < (m : Int); have := h.2.1; omega, by rw [und_kd, if_pos (by have := h.2.1; have := h.1; omega)]; exact h.2.2⟩
  have live : ∀ s, kd (und u m) s ≠ -1 → s < mk u := fun s hk => Classical.byContradiction fun q => hk (by rw [und_kd, if_neg q])
  have ea : ∀ s, s < mk u → ar (und u m) s = ar u s := fun s hs => by
    unfold ar
    simp only [und_kd, und_nm, und_pr, if_pos hs]
  refine ⟨h6, w.2.1, fun r hr => ?_, fun r q hr hq => w.2.2.2.1 r q hr hq, fun s hs => ?_, fun s hs hk => ?_, fun s hs hk => ?_, fun s hs hk hu => ?_⟩
  · obtain ⟨h1, h2, h3⟩ := w.2.2.1 r hr
    refine ⟨h1, h2, h3.imp id (fun ⟨a, b⟩ => ⟨al_u _ a, ?_⟩)⟩
    rw [und_up, und_bd, if_pos (by have := a.1; have := a.2.1; omega)]
    exact b
  · by_cases c : s < mk u
    · obtain ⟨h1, h2, h3⟩ := w.2.2.2.2.1 s c
      rw [und_kd, und_nm, und_up, if_pos c, if_pos c, if_pos c]
      exact ⟨h1, h2, fun e => ⟨(h3 e).1, (h3 e).2.1, fun k hk => by rw [und_pt hk, if_pos c]; exact (h3 e).2.2 k hk⟩⟩
    · rw [und_kd, und_nm, und_up, if_neg c, if_neg c, if_neg c]
      exact ⟨by decide, by decide, fun _ => ⟨rfl, rfl, fun k hk => by rw [und_pt hk, if_neg c]⟩⟩
  · have c := live s hk
    rw [und_kd, if_pos c] at hk
    rw [und_kd, und_nm, if_pos c, if_pos c, ea s c]
    obtain ⟨h1, h2, h3, h4⟩ := w.2.2.2.2.2.1 s c hk
    exact ⟨h1, h2, h3, fun k hk3 => by rw [und_pt hk3, if_pos c]; exact h4 k hk3⟩
  · have c := live s hk
    rw [und_kd, if_pos c] at hk
    exact und_tr hm 40 s (w.tr' c hk)
  · have c := live s hk
    rw [und_kd, if_pos c] at hk
    rw [und_up, if_pos c] at hu ⊢
    obtain ⟨a, k, b, e⟩ := w.2.2.2.2.2.2.2 s c hk hu
    refine ⟨al_u _ a, k, b, ?_⟩
    rw [und_pt b, if_pos (by have := a.1; have := a.2.1; omega)]
    exact e
end UN
