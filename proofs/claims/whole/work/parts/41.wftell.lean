/-! TELLING A STEP keeps a state well-formed -/
section WT
variable {t : TV} {k v : Int} {g : Nat → Int} {n : Nat}
theorem mk_tg : mk (tg (mkS t k v) (mk t) g n) = mk t + 1 := by
  show (tg (mkS t k v) (mk t) g n).2.1 = _
  rw [tg_2]
  rfl
theorem rt_tg : rt (tg (mkS t k v) (mk t) g n) = rt t := by
  show (tg (mkS t k v) (mk t) g n).2.2 = _
  rw [tg_2]
  rfl
theorem kd_tg (hn : n ≤ 3) (j : Nat) : kd (tg (mkS t k v) (mk t) g n) j = if j = mk t then k else kd t j := by
  show (tg (mkS t k v) (mk t) g n).1 0 j = _
  rw [tg_at _ _ _ _ _ _ hn, mkS_at]
  simp
theorem nm_tg (hn : n ≤ 3) (j : Nat) : nm (tg (mkS t k v) (mk t) g n) j = if j = mk t then v else nm t j := by
  show (tg (mkS t k v) (mk t) g n).1 1 j = _
  rw [tg_at _ _ _ _ _ _ hn, mkS_at]
  simp
theorem up_tg (hn : n ≤ 3) (j : Nat) : up (tg (mkS t k v) (mk t) g n) j = if ∃ i, i < n ∧ j = (g i).toNat then (mk t : Int) else if j = mk t then -4 else up t j := by
  show (tg (mkS t k v) (mk t) g n).1 3 j = _
  rw [tg_at _ _ _ _ _ _ hn, mkS_at]
  simp
theorem pr_tg (hn : n ≤ 3) (j : Nat) : pr (tg (mkS t k v) (mk t) g n) j = pr t j := by
  show (tg (mkS t k v) (mk t) g n).1 4 j = _
  rw [tg_at _ _ _ _ _ _ hn, mkS_at]
  simp
theorem bd_tg (hn : n ≤ 3) (j : Nat) : bd (tg (mkS t k v) (mk t) g n) j = bd t j := by
  show (tg (mkS t k v) (mk t) g n).1 5 j = _
  rw [tg_at _ _ _ _ _ _ hn, mkS_at]
  simp
theorem pt_tg_o (hn : n ≤ 3) {s i : Nat} (hs : s < mk t) (hi : i < 3) : pt (tg (mkS t k v) (mk t) g n) s i = pt t s i := by
  show (tg (mkS t k v) (mk t) g n).1 2 (3 * s + i) = _
  rw [tg_at _ _ _ _ _ _ hn, mkS_at]
  rw [if_neg (by omega), if_neg (by omega), if_neg (by omega), if_neg (by omega), if_neg (by omega), if_neg (by omega)]
theorem pt_tg_n (hn : n ≤ 3) {i : Nat} (hi : i < 3) : pt (tg (mkS t k v) (mk t) g n) (mk t) i = if i < n then ((g i).toNat : Int) else -4 := by
  show (tg (mkS t k v) (mk t) g n).1 2 (3 * mk t + i) = _
  rw [tg_at _ _ _ _ _ _ hn, mkS_at, if_neg (by omega)]
  by_cases h : i < n
  · rw [if_pos ⟨rfl, by omega, by omega⟩, if_pos h, Nat.add_sub_cancel_left]
  · rw [if_neg (by omega), if_neg h, if_neg (by omega), if_neg (by omega), if_neg (by omega), if_pos ⟨rfl, by omega⟩]
theorem ch_tg_o (hn : n ≤ 3) {s c : Nat} (hs : s < mk t) : c ∈ ch (tg (mkS t k v) (mk t) g n) s ↔ c ∈ ch t s := by
  rw [mem_ch, mem_ch]
  constructor
  · rintro ⟨i, h1, h2, h3⟩
    rw [pt_tg_o hn hs h1] at h2 h3
    exact ⟨i, h1, h2, h3⟩
  · rintro ⟨i, h1, h2, h3⟩
    refine ⟨i, h1, ?_⟩
    rw [pt_tg_o hn hs h1]
    exact ⟨h2, h3⟩
theorem ch_tg_n (hn : n ≤ 3) {c : Nat} : c ∈ ch (tg (mkS t k v) (mk t) g n) (mk t) ↔ ∃ i, i < n ∧ c = (g i).toNat := by
  rw [mem_ch]
  constructor
  · rintro ⟨i, h1, h2, h3⟩
    rw [pt_tg_n hn h1] at h2 h3
    by_cases h : i < n
    · rw [if_pos h] at h3
      exact ⟨i, h, by omega⟩
    · rw [if_neg h] at h2
      exact absurd h2 (by decide)
  · rintro ⟨i, h1, h2⟩
    refine ⟨i, by omega, ?_⟩
    rw [pt_tg_n hn (by omega), if_pos h1]
    exact ⟨by omega, by omega⟩
theorem wf_tg (w : WF t) (hn : n ≤ 3) (hg : ∀ a, a < n → lo t (g a) ∧ ∀ b, b < a → g a ≠ g b) (hm : mk t < 600) (hh : ∀ a, a < n → hiL (plist t (g a)) < 40) (hk : 0 ≤ k ∧ k ≤ 11)
    (hv : (k = 1 ∨ k = 4 → 0 ≤ v ∧ v < 40) ∧ (k = 6 → 0 ≤ v ∧ v < (rt t : Int)) ∧ (k = 2 → 0 ≤ v ∧ v ≤ 5))
    (ha : n = if k = 2 ∨ k = 5 ∨ k = 8 ∨ k = 10 then 2 else if k = 3 then 3 else if k = 4 ∨ k = 7 ∨ k = 9 ∨ k = 11 then 1 else if k = 6 then (pr t v.toNat).toNat else 0) : WF (tg (mkS t k v) (mk t) g n) := by
  have gA : ∀ a, a < n → (g a).toNat < mk t ∧ kd t (g a).toNat ≠ -1 ∧ ((g a).toNat : Int) = g a := fun a h => by
    obtain ⟨⟨h1, h2, h3⟩, _⟩ := (hg a h).1
    exact ⟨by omega, h3, by omega⟩
  have gU : ∀ a, a < n → up t (g a).toNat = -4 := fun a h => by
    have h1 := gA a h
    have h2 := (hg a h).1.2.1
    rw [← h1.2.2, upI_at h1.1] at h2
    exact h2
  have gO : ∀ a, a < n → ∀ r, r < rt t → bd t r ≠ g a := fun a h r hr => owF_none (hg a h).1.2.2 r (Nat.zero_le _) (by omega)
  have gD : ∀ a b, a < n → b < n → (g a).toNat = (g b).toNat → a = b := fun a b h1 h2 e => by
    have e1 := gA a h1
    have e2 := gA b h2
    have eg : g a = g b := by omega
    rcases Nat.lt_trichotomy a b with h | h | h
    · exact absurd eg.symm ((hg b h2).2 a h)
    · exact h
    · exact absurd eg ((hg a h1).2 b h)
  have ar_o : ∀ s, s < mk t → ar (tg (mkS t k v) (mk t) g n) s = ar t s := fun s hs => by
    unfold ar
    have hne : ¬ s = mk t := by omega
    simp only [kd_tg hn, nm_tg hn, if_neg hne, pr_tg hn]
  have ar_n : ar (tg (mkS t k v) (mk t) g n) (mk t) = n := by
    unfold ar
    rw [kd_tg hn, nm_tg hn, if_pos rfl, if_pos rfl, pr_tg hn]
    exact ha.symm
  have kd_o : ∀ s, s < mk t → kd (tg (mkS t k v) (mk t) g n) s = kd t s := fun s hs => by rw [kd_tg hn, if_neg (by omega)]
  have kd_n : kd (tg (mkS t k v) (mk t) g n) (mk t) = k := by rw [kd_tg hn, if_pos rfl]
  have nm_o : ∀ s, s < mk t → nm (tg (mkS t k v) (mk t) g n) s = nm t s := fun s hs => by rw [nm_tg hn, if_neg (by omega)]
  have nm_n : nm (tg (mkS t k v) (mk t) g n) (mk t) = v := by rw [nm_tg hn, if_pos rfl]
  have up_o : ∀ s, s < mk t → (∀ a, a < n → s ≠ (g a).toNat) → up (tg (mkS t k v) (mk t) g n) s = up t s := fun s hs h => by
    rw [up_tg hn, if_neg (fun ⟨i, h1, h2⟩ => h i h1 h2), if_neg (by omega)]
  have up_g : ∀ a, a < n → up (tg (mkS t k v) (mk t) g n) (g a).toNat = (mk t : Int) := fun a h => by
    rw [up_tg hn, if_pos ⟨a, h, rfl⟩]
  have up_n : up (tg (mkS t k v) (mk t) g n) (mk t) = -4 := by
    rw [up_tg hn, if_neg (fun ⟨i, h1, h2⟩ => by have := (gA i h1).1; omega), if_pos rfl]
  refine ⟨by rw [mk_tg]; omega, by rw [rt_tg]; exact w.2.1, fun r hr => ?_, fun r q hr hq => ?_, fun s hs => ?_, fun s hs hks => ?_, ?_, fun s hs hks hu => ?_⟩
  · rw [rt_tg] at hr
    rw [pr_tg hn, bd_tg hn]
    have h := w.2.2.1 r hr
    refine ⟨h.1, h.2.1, ?_⟩
    rcases h.2.2 with h1 | ⟨⟨h1, h2, h3⟩, h4⟩
    · exact Or.inl h1
    · refine Or.inr ⟨⟨h1, by rw [mk_tg]; omega, by rw [kd_o _ (by omega)]; exact h3⟩, ?_⟩
      rw [up_o _ (by omega) (fun a h e => gO a h r hr (by have := (gA a h).2.2; omega))]
      exact h4
  · rw [rt_tg] at hr hq
    rw [bd_tg hn, bd_tg hn]
    exact w.2.2.2.1 r q hr hq
  · rw [mk_tg] at hs
    by_cases hc : s = mk t
    · subst hc
      rw [kd_n]
      exact ⟨by omega, hk.2, fun h => absurd h (by omega)⟩
    · have hs' : s < mk t := by omega
      have h := w.2.2.2.2.1 s hs'
      rw [kd_o s hs', nm_o s hs']
      refine ⟨h.1, h.2.1, fun e => ?_⟩
      obtain ⟨h1, h2, h3⟩ := h.2.2 e
      refine ⟨h1, ?_, fun i hi => by rw [pt_tg_o hn hs' hi]; exact h3 i hi⟩
      rw [up_o s hs' (fun a ha e2 => (gA a ha).2.1 (by rw [← e2]; exact e))]
      exact h2
  · rw [mk_tg] at hs
    by_cases hc : s = mk t
    · subst hc
      rw [kd_n, nm_n, rt_tg, ar_n]
      refine ⟨hv.1, hv.2.1, hv.2.2, fun i hi => ?_⟩
      rw [pt_tg_n hn hi]
      refine ⟨fun h => ?_, fun h => ?_⟩
      · rw [if_pos h]
        omega
      · rw [if_neg (by omega)]
    · have hs' : s < mk t := by omega
      rw [kd_o s hs'] at hks
      have h := w.2.2.2.2.2.1 s hs' hks
      rw [kd_o s hs', nm_o s hs', rt_tg, ar_o s hs']
      refine ⟨h.1, h.2.1, h.2.2.1, fun i hi => ?_⟩
      rw [pt_tg_o hn hs' hi]
      exact h.2.2.2 i hi
  · intro s hs hks
    refine tr_rank (ρ := fun s => if s = mk t then 40 else rk t s) (fun s hs hks => ?_) 40 s hs hks ?_
    · rw [mk_tg] at hs
      by_cases hc : s = mk t
      · subst hc
        refine ⟨fun i hi => ?_, ?_, fun c hcc => ?_⟩
        · rw [pt_tg_n hn hi]
          by_cases h : i < n
          · rw [if_pos h]
            refine Or.inr ⟨by rw [mk_tg]; have := (gA i h).1; omega, ?_, fun j hj hne => ?_⟩
            · show up _ ((g i).toNat : Int).toNat = _
              rw [Int.toNat_natCast]
              exact up_g i h
            · rw [pt_tg_n hn hj]
              by_cases h2 : j < n
              · rw [if_pos h2]
                exact fun e => hne (gD j i h2 h (by omega))
              · rw [if_neg h2]
                omega
          · rw [if_neg h]
            exact Or.inl (by decide)
        · rw [if_pos rfl]
          decide
        · obtain ⟨i, h1, rfl⟩ := (ch_tg_n hn).mp hcc
          have h2 := gA i h1
          rw [mk_tg, kd_o _ h2.1, if_neg (by omega), if_pos rfl]
          refine ⟨by omega, h2.2.1, ?_⟩
          have h3 := hh i h1
          rw [← h2.2.2] at h3
          exact h3
      · have hs' : s < mk t := by omega
        rw [kd_o s hs'] at hks
        refine ⟨fun i hi => ?_, ?_, fun c hcc => ?_⟩
        · rw [pt_tg_o hn hs' hi]
          rcases w.lk hs' hks i hi with h | ⟨h1, h2, h3⟩
          · exact Or.inl h
          · by_cases h0 : pt t s i < 0
            · exact Or.inl h0
            · refine Or.inr ⟨by rw [mk_tg]; omega, ?_, fun j hj hne => by rw [pt_tg_o hn hs' hj]; exact h3 j hj hne⟩
              rw [up_o _ (by omega) (fun a ha e => ?_)]
              · exact h2
              · have := gU a ha
                rw [← e, h2] at this
                omega
        · rw [if_neg hc]
          exact (rk_pos w hs' hks).1
        · rw [ch_tg_o hn hs'] at hcc
          have h1 := ch_al w hs' hks hcc
          rw [mk_tg, kd_o c h1.1, if_neg (by omega), if_neg hc]
          exact ⟨by omega, h1.2, rk_ch w hs' hks hcc⟩
    · rw [mk_tg] at hs
      by_cases hc : s = mk t
      · rw [if_pos hc]
        exact Nat.le_refl _
      · rw [if_neg hc]
        rw [kd_o s (by omega)] at hks
        exact (rk_pos w (by omega) hks).2
  · rw [mk_tg] at hs
    by_cases hc : s = mk t
    · subst hc
      exact absurd up_n hu
    · have hs' : s < mk t := by omega
      rw [kd_o s hs'] at hks
      by_cases hx : ∃ a, a < n ∧ s = (g a).toNat
      · obtain ⟨a, h1, rfl⟩ := hx
        rw [up_g a h1]
        refine ⟨⟨by omega, by rw [mk_tg]; omega, by rw [Int.toNat_natCast, kd_n]; omega⟩, a, by omega, ?_⟩
        rw [Int.toNat_natCast, pt_tg_n hn (by omega), if_pos h1]
      · have hno : ∀ a, a < n → s ≠ (g a).toNat := fun a ha e => hx ⟨a, ha, e⟩
        rw [up_o s hs' hno] at hu ⊢
        obtain ⟨⟨h1, h2, h3⟩, i, h4, h5⟩ := w.2.2.2.2.2.2.2 s hs' hks hu
        refine ⟨⟨h1, by rw [mk_tg]; omega, by rw [kd_o _ (by omega)]; exact h3⟩, i, h4, ?_⟩
        rw [pt_tg_o hn (by omega) h4]
        exact h5
end WT
