/-! SAME: kinds and numbers in order tell how deep each step stands -/
section SAME
variable {t : TV}
def kk (t : TV) (D : List (Nat × Nat)) : List (Int × Int) := D.map (fun q => (kd t q.1, nm t q.1))
theorem ch_len (w : WF t) {s : Nat} (hs : s < mk t) (hk : kd t s ≠ -1) : (ch t s).length = ar t s := by
  have f := w.fu hs hk
  have h3 := ar_3 f
  have e : ∀ k, k < 3 → (pf t s k).length = if k < ar t s then 1 else 0 := by
    intro k hk3
    have := f.2.2.2 k hk3
    unfold pf
    by_cases c : k < ar t s
    · rw [if_pos (this.1 c), if_pos c]
      rfl
    · rw [if_neg (by have := this.2 (by omega); omega), if_neg c]
      rfl
  rw [ch_eq, List.length_append, List.length_append, e 0 (by decide), e 1 (by decide), e 2 (by decide)]
  split <;> split <;> split <;> omega
theorem restS_cons {s d : Nat} {L : List (Nat × Nat)} (hd : d ≤ 40) : restS t ((s, d) :: L) = (s, d) :: restS t ((ch t s).map (fun c => (c, d + 1)) ++ L) := by
  unfold restS
  rw [List.flatMap_cons, List.flatMap_append, List.flatMap_map]
  show pre t (41 - d) d s ++ _ = _
  rw [show 41 - d = (40 - d) + 1 by omega]
  show ((s, d) :: (ch t s).flatMap (pre t (40 - d) (d + 1))) ++ _ = _
  rw [List.cons_append]
  congr 2
  refine fm_congr (fun c _ => ?_)
  show pre t (40 - d) (d + 1) c = pre t (41 - (d + 1)) (d + 1) c
  rw [show 41 - (d + 1) = 40 - d by omega]
theorem trS_ch {s d : Nat} (hd : 1 ≤ d ∧ d ≤ 40) (h : tr t (41 - d) s) : trS t ((ch t s).map (fun c => (c, d + 1))) := by
  intro q hq
  obtain ⟨c, hc, rfl⟩ := List.mem_map.mp hq
  have h1 : tr t (41 - d - 1) c := tr_ch h hc
  rw [show 41 - d - 1 = 40 - d by omega] at h1
  have h2 : 1 ≤ 40 - d := by
    cases e : 40 - d with
    | zero => rw [e] at h1; exact h1.elim
    | succ n => omega
  refine ⟨by show 1 ≤ d + 1; omega, by show d + 1 ≤ 40; omega, ?_⟩
  show tr t (41 - (d + 1)) c
  rw [show 41 - (d + 1) = 40 - d by omega]
  exact h1
theorem dep (w : WF t) : ∀ (N : Nat) (L1 L2 : List (Nat × Nat)), (restS t L1).length ≤ N → trS t L1 → trS t L2 → L1.map (fun q => q.2) = L2.map (fun q => q.2) → kk t (restS t L1) = kk t (restS t L2) → (restS t L1).map (fun q => q.2) = (restS t L2).map (fun q => q.2)
  | N, [], L2, _, _, _, hm, _ => by
    cases L2 with
    | nil => rfl
    | cons x L => cases hm
  | N, (s, d) :: L1, [], _, _, _, hm, _ => by cases hm
  | 0, (s, d) :: L1, (s', d') :: L2, hl, h1, _, _, _ => by
    have := (h1 (s, d) List.mem_cons_self).2.1
    rw [restS_cons this] at hl
    exact absurd hl (by simp)
  | N + 1, (s, d) :: L1, (s', d') :: L2, hl, h1, h2, hm, hkk => by
    obtain ⟨a1, a2, a3⟩ := h1 (s, d) List.mem_cons_self
    obtain ⟨b1, b2, b3⟩ := h2 (s', d') List.mem_cons_self
    have a2 : d ≤ 40 := a2
    have b2 : d' ≤ 40 := b2
    rw [List.map_cons, List.map_cons] at hm
    have hdd : d = d' := (List.cons.inj hm).1
    subst hdd
    rw [restS_cons a2] at hl hkk ⊢
    rw [restS_cons b2] at hkk ⊢
    unfold kk at hkk
    rw [List.map_cons, List.map_cons] at hkk
    obtain ⟨e1, e2⟩ := List.cons.inj hkk
    have ek : kd t s = kd t s' := (Prod.mk.inj e1).1
    have en : nm t s = nm t s' := (Prod.mk.inj e1).2
    have ha : ar t s = ar t s' := by
      unfold ar
      rw [ek, en]
    have hs := tr_at a3
    have hs' := tr_at b3
    have hc : (ch t s).length = (ch t s').length := by rw [ch_len w hs.1 hs.2, ch_len w hs'.1 hs'.2, ha]
    rw [List.map_cons, List.map_cons]
    refine congrArg (d :: ·) (dep w N _ _ (by simpa using hl) ?_ ?_ ?_ e2)
    · intro q hq
      rcases List.mem_append.mp hq with h | h
      · exact trS_ch ⟨a1, a2⟩ a3 q h
      · exact h1 q (List.mem_cons_of_mem _ h)
    · intro q hq
      rcases List.mem_append.mp hq with h | h
      · exact trS_ch ⟨b1, b2⟩ b3 q h
      · exact h2 q (List.mem_cons_of_mem _ h)
    · rw [List.map_append, List.map_append, List.map_map, List.map_map, (List.cons.inj hm).2]
      congr 1
      have e3 : ∀ l : List Nat, l.map ((fun q : Nat × Nat => q.2) ∘ fun c => (c, d + 1)) = List.replicate l.length (d + 1) := by
        intro l
        induction l with
        | nil => rfl
        | cons a l ih =>
          rw [List.map_cons, ih]
          rfl
      rw [e3, e3, hc]
theorem key_kk (w : WF t) {x y : Int} (hx : al t x) (hy : al t y) : keyL t (plist t x) = keyL t (plist t y) ↔ kk t (plist t x) = kk t (plist t y) := by
  have px : plist t x = restS t [(x.toNat, 1)] := by
    unfold plist restS
    rw [if_pos hx]
    simp
  have py : plist t y = restS t [(y.toNat, 1)] := by
    unfold plist restS
    rw [if_pos hy]
    simp
  constructor
  · intro h
    have e : ∀ D, kk t D = (keyL t D).map (fun q => (q.2.1, q.2.2)) := fun D => by
      unfold kk keyL
      rw [List.map_map]
      rfl
    rw [e, e, h]
  · intro h
    have hd : (plist t x).map (fun q => q.2) = (plist t y).map (fun q => q.2) := by
      rw [px, py] at h ⊢
      refine dep w _ _ _ (Nat.le_refl _) ?_ ?_ rfl h
      · intro q hq
        rcases List.mem_singleton.mp hq with rfl
        exact ⟨Nat.le_refl 1, (show 1 ≤ 40 by decide), w.trr hx⟩
      · intro q hq
        rcases List.mem_singleton.mp hq with rfl
        exact ⟨Nat.le_refl 1, (show 1 ≤ 40 by decide), w.trr hy⟩
    have e : ∀ D, keyL t D = (D.map (fun q => q.2)).zip (kk t D) := fun D => by
      unfold kk keyL
      induction D with
      | nil => rfl
      | cons a D ih =>
        simp only [List.map_cons, List.zip_cons_cons]
        rw [ih]
    rw [e, e, hd, h]
end SAME
