/-! EACH CALL OF A BODY stands in one body's list -/
noncomputable def dC (p : Prop) : Bool := @decide p (Classical.propDecidable p)
theorem dC_iff {p : Prop} : dC p = true ↔ p := @decide_eq_true_iff p (Classical.propDecidable p)
theorem dC_t {p : Prop} (h : p) : dC p = true := dC_iff.mpr h
theorem dC_f {p : Prop} (h : ¬ p) : dC p = false := by
  cases e : dC p with
  | false => rfl
  | true => exact absurd (dC_iff.mp e) h
theorem dC_eq {p q : Prop} (h : p ↔ q) : dC p = dC q := by rw [propext h]
theorem dC_or {p q : Prop} : (dC p || dC q) = dC (p ∨ q) := by
  rw [Bool.eq_iff_iff, Bool.or_eq_true, dC_iff, dC_iff, dC_iff]
section SUM
variable {t : TV}
theorem cnt_cg {p q : Nat → Bool} : ∀ m, (∀ s, s < m → p s = q s) → cnt p m = cnt q m
  | 0, _ => rfl
  | m + 1, h => by
    rw [cnt_s, cnt_s, cnt_cg m (fun s hs => h s (by omega)), h m (by omega)]
theorem cnt_or {p q : Nat → Bool} : ∀ m, (∀ s, s < m → ¬ (p s = true ∧ q s = true)) → cnt (fun s => p s || q s) m = cnt p m + cnt q m
  | 0, _ => rfl
  | m + 1, h => by
    rw [cnt_s, cnt_s, cnt_s, cnt_or m (fun s hs => h s (by omega))]
    have := h m (by omega)
    cases hp : p m <;> cases hq : q m <;> simp [hp, hq] at this ⊢ <;> omega
theorem cnt_no {p : Nat → Bool} : ∀ m, (∀ s, s < m → p s = false) → cnt p m = 0
  | 0, _ => rfl
  | m + 1, h => by
    rw [cnt_s, cnt_no m (fun s hs => h s (by omega)), h m (by omega)]
    rfl
theorem cnt_one {p : Nat → Bool} {a : Nat} (ha : p a = true) : ∀ m, a < m → (∀ s, s < m → s ≠ a → p s = false) → cnt p m = 1
  | 0, h, _ => absurd h (by omega)
  | m + 1, h, hn => by
    rw [cnt_s]
    by_cases e : a = m
    · subst e
      rw [cnt_no a (fun s hs => hn s (by omega) (by omega)), ha]
      rfl
    · rw [cnt_one ha m (by omega) (fun s hs hne => hn s (by omega) hne), hn m (by omega) (fun q => e q.symm)]
      rfl
theorem cnt_list (P : Nat → Bool) (m : Nat) : ∀ (D : List (Nat × Nat)) (a : Nat), D.Pairwise (fun x y => x.1 ≠ y.1) → (∀ q ∈ D, q.1 < m) → D.foldl (fun a q => if P q.1 = true then a + 1 else a) a = a + cnt (fun s => P s && dC (∃ d, (s, d) ∈ D)) m
  | [], a, _, _ => by
    rw [cnt_no m (fun s _ => by rw [dC_f (fun ⟨d, h⟩ => by cases h)]; simp)]
    rfl
  | x :: D, a, hp, hm => by
    have hp2 := List.pairwise_cons.mp hp
    rw [List.foldl_cons, cnt_list P m D _ hp2.2 (fun q hq => hm q (List.mem_cons_of_mem _ hq))]
    have e : cnt (fun s => P s && dC (∃ d, (s, d) ∈ x :: D)) m = cnt (fun s => (decide (s = x.1) && P s) || (P s && dC (∃ d, (s, d) ∈ D))) m := by
      refine cnt_cg m (fun s _ => ?_)
      by_cases hs : s = x.1
      · have h1 : ∃ d, (s, d) ∈ x :: D := ⟨x.2, by rw [hs]; exact List.mem_cons_self⟩
        rw [dC_t h1, decide_eq_true hs]
        cases P s <;> simp
      · have h1 : (∃ d, (s, d) ∈ x :: D) ↔ ∃ d, (s, d) ∈ D := by
          constructor
          · rintro ⟨d, hd⟩
            rcases List.mem_cons.mp hd with rfl | hd
            · exact absurd rfl hs
            · exact ⟨d, hd⟩
          · rintro ⟨d, hd⟩
            exact ⟨d, List.mem_cons_of_mem _ hd⟩
        rw [dC_eq h1, decide_eq_false hs]
        simp
    rw [e, cnt_or m (fun s _ hh => ?_)]
    · by_cases hx : P x.1 = true
      · have h0 : cnt (fun s => decide (s = x.1) && P s) m = 1 := cnt_one (a := x.1) (by simp [hx]) m (hm x List.mem_cons_self) (fun s _ hne => by simp [hne])
        rw [if_pos hx, h0]
        omega
      · have h0 : cnt (fun s => decide (s = x.1) && P s) m = 0 := cnt_no m (fun s _ => by
          by_cases hs : s = x.1
          · rw [hs]
            simp [hx]
          · simp [hs])
        rw [if_neg hx, h0]
        omega
    · simp only [Bool.and_eq_true, decide_eq_true_eq, dC_iff] at hh
      obtain ⟨⟨h1, _⟩, _, d, hd⟩ := hh
      exact hp2.1 _ hd h1.symm
theorem pre_child : ∀ {n d s y dy c : Nat}, tr t n s → (y, dy) ∈ pre t n d s → c ∈ ch t y → (c, dy + 1) ∈ pre t n d s
  | 0, _, _, _, _, _, h, _, _ => h.elim
  | n + 1, d, s, y, dy, c, h, hy, hc => by
    rcases mem_pre.mp hy with e | ⟨x, hx, hy⟩
    · cases e
      refine mem_pre.mpr (Or.inr ⟨c, hc, ?_⟩)
      have h1 : tr t n c := h.2.2.2 c hc
      cases n with
      | zero => exact h1.elim
      | succ n => exact mem_pre.mpr (Or.inl rfl)
    · exact mem_pre.mpr (Or.inr ⟨x, hx, pre_child (h.2.2.2 x hx) hy hc⟩)
theorem root_in {c m : Nat} (hc : c < mk t) (hu : up t c = -4) (h : tr t m c) : ∀ (e j x : Nat), (x, 1 + e) ∈ pre t m 1 c → x < mk t → e ≤ j → root t j (x : Int) = (c : Int)
  | 0, j, x, hx, hxm, _ => by
    have hxc : x = c := by
      rcases pclos hx h with h1 | ⟨y, _, h2, _⟩
      · exact h1.1
      · omega
    subst hxc
    cases j with
    | zero => rfl
    | succ j =>
      show (if upI t (x : Int) = -4 then (x : Int) else root t j (upI t (x : Int))) = _
      rw [upI_at hc, if_pos hu]
  | e + 1, j, x, hx, hxm, hj => by
    rcases pclos hx h with h1 | ⟨y, hy, _, h3⟩
    · omega
    · obtain ⟨j, rfl⟩ : ∃ k, j = k + 1 := ⟨j - 1, by omega⟩
      show (if upI t (x : Int) = -4 then (x : Int) else root t j (upI t (x : Int))) = _
      rw [upI_at hxm, hy, if_neg (by omega)]
      have h4 : (y, 1 + e) ∈ pre t m 1 c := by
        rw [show 1 + e = 1 + (e + 1) - 1 by omega]
        exact h3
      have h5 := pre_in h4 h
      exact root_in hc hu h e j y h4 (tr_at h5.2.2).1 (by omega)
theorem ow_bd (w : WF t) {k : Nat} (hk : k < rt t) (hb : bd t k ≠ -4) : ow t (bd t k) = (k : Int) := by
  rcases owF_ge t (bd t k) (rt t) 0 with h | ⟨q, h1, _, h2, h3⟩
  · exact absurd rfl (owF_none h k (Nat.zero_le _) (by omega))
  · unfold ow
    rw [h1]
    by_cases e : q = k
    · rw [e]
    · exact absurd h3 (fun z => w.2.2.2.1 k q hk (by omega) (fun z => e z.symm) hb z.symm)
theorem root_at (w : WF t) : ∀ (j : Nat) (z : Nat), z < mk t → kd t z ≠ -1 → 40 - rk t z ≤ j → ∃ b d : Nat, root t j (z : Int) = (b : Int) ∧ b < mk t ∧ kd t b ≠ -1 ∧ (z, d) ∈ pre t 40 1 b
  | j, z, hz, hk, hj => by
    by_cases hu : upI t (z : Int) = -4
    · refine ⟨z, 1, ?_, hz, hk, mem_pre.mpr (Or.inl rfl)⟩
      cases j with
      | zero => rfl
      | succ j =>
        show (if upI t (z : Int) = -4 then (z : Int) else root t j (upI t (z : Int))) = _
        rw [if_pos hu]
    · rcases up_al w (z := (z : Int)) (al_n.mpr ⟨hz, hk⟩) with h | ⟨h1, h2⟩
      · exact absurd h hu
      · have hy : upI t (z : Int) = ((upI t (z : Int)).toNat : Int) := by have := h1.1; omega
        have hy1 : (upI t (z : Int)).toNat < mk t := by have := h1.2.1; omega
        have hr := rk_ch w hy1 h1.2.2 h2
        have hr2 := (rk_pos w hy1 h1.2.2).2
        rw [Int.toNat_natCast] at hr h2
        obtain ⟨j, rfl⟩ : ∃ k, j = k + 1 := ⟨j - 1, by omega⟩
        obtain ⟨b, d, g1, g2, g3, g4⟩ := root_at w j (upI t (z : Int)).toNat hy1 h1.2.2 (by omega)
        refine ⟨b, d + 1, ?_, g2, g3, pre_child (w.tr' g2 g3) g4 h2⟩
        show (if upI t (z : Int) = -4 then (z : Int) else root t j (upI t (z : Int))) = _
        rw [if_neg hu, hy]
        exact g1
theorem home_mem (w : WF t) {s k : Nat} (hs : s < mk t) (hks : kd t s ≠ -1) (hk : k < rt t) (hb : bd t k ≠ -4) : home t (s : Int) = (k : Int) ↔ ∃ d, (s, d) ∈ plist t (bd t k) := by
  have ha := w.bdA hk hb
  have hbk : bd t k = ((bd t k).toNat : Int) := by have := ha.1; omega
  have hb1 : (bd t k).toNat < mk t := by have := ha.2.1; omega
  have hub : up t (bd t k).toNat = -4 := ((w.2.2.1 k hk).2.2.resolve_left hb).2
  have hpl : plist t (bd t k) = pre t 40 1 (bd t k).toNat := by
    unfold plist
    rw [if_pos ha]
  rw [hpl]
  unfold home
  rw [if_pos (al_n.mpr ⟨hs, hks⟩)]
  constructor
  · intro h
    obtain ⟨b, d, g1, g2, g3, g4⟩ := root_at w 40 s hs hks (by omega)
    rw [g1] at h
    rcases owF_ge t (b : Int) (rt t) 0 with h1 | ⟨q, h1, _, _, h3⟩
    · unfold ow at h
      omega
    · unfold ow at h
      have e : q = k := by omega
      subst e
      rw [h3, Int.toNat_natCast]
      exact ⟨d, g4⟩
  · rintro ⟨d, hd⟩
    have h1 := pre_in hd (w.tr' hb1 ha.2.2)
    have h2 : root t 40 (s : Int) = ((bd t k).toNat : Int) := by
      refine root_in hb1 hub (w.tr' hb1 ha.2.2) (d - 1) 40 s ?_ hs (by omega)
      rw [show 1 + (d - 1) = d by omega]
      exact hd
    rw [h2, ← hbk]
    exact ow_bd w hk hb
theorem caS_eq (w : WF t) {r : Int} (hr : 0 ≤ r) : ∀ n, n ≤ rt t → caS t r n = cnt (fun s => decide (kd t s = 6 ∧ nm t s = r) && dC (∃ k, k < n ∧ bd t k ≠ -4 ∧ home t (s : Int) = (k : Int))) (mk t)
  | 0, _ => by
    rw [cnt_no _ (fun s _ => by rw [dC_f (fun ⟨k, h, _⟩ => by omega)]; simp)]
    rfl
  | n + 1, hn => by
    show caS t r n + (if bd t n = -4 then 0 else caR t r (plist t (bd t n))) = _
    rw [caS_eq w hr n (by omega)]
    by_cases hb : bd t n = -4
    · rw [if_pos hb, Nat.add_zero]
      refine cnt_cg _ (fun s _ => ?_)
      congr 1
      refine dC_eq ⟨fun ⟨k, h1, h2⟩ => ⟨k, by omega, h2⟩, fun ⟨k, h1, h2, h3⟩ => ⟨k, ?_, h2, h3⟩⟩
      by_cases e : k = n
      · rw [e] at h2
        exact absurd hb h2
      · omega
    · rw [if_neg hb]
      have e1 : caR t r (plist t (bd t n)) = cnt (fun s => decide (kd t s = 6 ∧ nm t s = r) && dC (∃ d, (s, d) ∈ plist t (bd t n))) (mk t) := by
        have hp : (plist t (bd t n)).Pairwise (fun x y => x.1 ≠ y.1) := by
          unfold plist
          rw [if_pos (w.bdA (by omega) hb)]
          exact pre_nodup (w.trr (w.bdA (by omega) hb))
        have := cnt_list (fun s => decide (kd t s = 6 ∧ nm t s = r)) (mk t) (plist t (bd t n)) 0 hp (fun q hq => (plist_at w hq).1)
        rw [Nat.zero_add] at this
        rw [← this]
        unfold caR
        congr 1
        funext a q
        simp only [decide_eq_true_eq]
        by_cases c : kd t q.1 = 6 ∧ nm t q.1 = r
        · rw [if_pos c, if_pos ⟨c.1, Or.inr c.2⟩]
        · rw [if_neg c, if_neg (fun z => c ⟨z.1, z.2.resolve_left (by omega)⟩)]
      have e2 : cnt (fun s => decide (kd t s = 6 ∧ nm t s = r) && dC (∃ d, (s, d) ∈ plist t (bd t n))) (mk t) = cnt (fun s => decide (kd t s = 6 ∧ nm t s = r) && dC (home t (s : Int) = (n : Int))) (mk t) := by
        refine cnt_cg _ (fun s hs => ?_)
        by_cases c : kd t s = 6 ∧ nm t s = r
        · congr 1
          exact dC_eq (home_mem w hs (by rw [c.1]; decide) (by omega) hb).symm
        · rw [decide_eq_false c]
          rfl
      rw [e1, e2, ← cnt_or]
      · refine cnt_cg _ (fun s _ => ?_)
        rw [← Bool.and_or_distrib_left]
        congr 1
        rw [dC_or]
        refine dC_eq ⟨fun h => ?_, fun ⟨k, h1, h2, h3⟩ => ?_⟩
        · rcases h with ⟨k, h1, h2⟩ | h
          · exact ⟨k, by omega, h2⟩
          · exact ⟨n, by omega, hb, h⟩
        · by_cases e : k = n
          · rw [e] at h3
            exact Or.inr h3
          · exact Or.inl ⟨k, by omega, h2, h3⟩
      · intro s _ hh
        simp only [Bool.and_eq_true, decide_eq_true_eq, dC_iff] at hh
        obtain ⟨⟨_, k, h1, _, h3⟩, _, h4⟩ := hh
        omega
theorem caS_all (w : WF t) {r : Nat} : caS t r (rt t) = cnt (fun s => decide (nm t s = (r : Int) ∧ cib t s)) (mk t) := by
  rw [caS_eq w (by omega) (rt t) (Nat.le_refl _)]
  refine cnt_cg _ (fun s hs => ?_)
  rw [Bool.eq_iff_iff]
  simp only [Bool.and_eq_true, decide_eq_true_eq, dC_iff]
  refine ⟨fun ⟨⟨h1, h2⟩, k, h3, h4, h5⟩ => ⟨h2, by rw [kdI_at hs]; exact h1, by rw [h5]; omega⟩, fun ⟨h1, h2, h3⟩ => ?_⟩
  rw [kdI_at hs] at h2
  refine ⟨⟨h2, h1⟩, ?_⟩
  have hks : kd t s ≠ -1 := by rw [h2]; decide
  obtain ⟨b, d, g1, g2, g3, g4⟩ := root_at w 40 s hs hks (by omega)
  have e : home t (s : Int) = ow t (b : Int) := by
    unfold home
    rw [if_pos (al_n.mpr ⟨hs, hks⟩), g1]
  rw [e] at h3 ⊢
  rcases owF_ge t (b : Int) (rt t) 0 with h | ⟨q, q1, _, q2, q3⟩
  · exact absurd h h3
  · exact ⟨q, by omega, by rw [q3]; omega, q1⟩
end SUM
theorem sim_about {st : St} (w : WS st) (r k : Int) : Sim st mX8_about mX9_about [pI r, pI k] := by
  intro h g R M
  by_cases hr : 0 ≤ r ∧ r < (rt (sT st) : Int)
  · have e : r = (r.toNat : Int) := by omega
    refine ⟨aboutR (sT st) r.toNat k (caS (sT st) r.toNat (rt (sT st)) : Int), st, w, ?_, ?_⟩
    · have := c_about R w (r := r.toNat) (by omega) k
      rw [← caS_all w.1, ← e] at this
      rw [← e]
      exact this
    · have := m_about M w (r := r.toNat) (by omega) k
      rw [← e] at this ⊢
      exact this
  · exact ⟨-1, st, w, sX8_about_0 (c_isRoutine R.1 r ⟨fun q => absurd (b2_n0.mp q) hr, fun _ => ⟨rfl, R⟩⟩), sX9_about_0 (m_isRoutine M.1 r ⟨fun q => absurd (b2_n0.mp q) hr, fun _ => ⟨rfl, M⟩⟩)⟩
