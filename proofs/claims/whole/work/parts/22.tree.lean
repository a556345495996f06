/-! TREES: the list of a tree's steps -/
def pf (t : TV) (s k : Nat) : List Nat := if 0 ≤ pt t s k then [(pt t s k).toNat] else []
theorem ch_eq (t : TV) (s : Nat) : ch t s = pf t s 0 ++ (pf t s 1 ++ pf t s 2) := by
  simp [ch, chF, pf]
theorem mem_pf {t : TV} {s k c : Nat} : c ∈ pf t s k ↔ 0 ≤ pt t s k ∧ c = (pt t s k).toNat := by
  unfold pf
  split
  · rename_i h
    simp [h]
  · rename_i h
    simp [h]
theorem mem_ch {t : TV} {s c : Nat} : c ∈ ch t s ↔ ∃ k, k < 3 ∧ 0 ≤ pt t s k ∧ c = (pt t s k).toNat := by
  rw [ch_eq]
  simp only [List.mem_append, mem_pf]
  constructor
  · rintro (h | h | h)
    · exact ⟨0, by decide, h⟩
    · exact ⟨1, by decide, h⟩
    · exact ⟨2, by decide, h⟩
  · rintro ⟨k, hk, h⟩
    rcases (by omega : k = 0 ∨ k = 1 ∨ k = 2) with rfl | rfl | rfl
    · exact Or.inl h
    · exact Or.inr (Or.inl h)
    · exact Or.inr (Or.inr h)
theorem fm_congr {α β : Type} {l : List α} {f g : α → List β} (h : ∀ a ∈ l, f a = g a) : l.flatMap f = l.flatMap g := by
  induction l with
  | nil => rfl
  | cons a l ih =>
    rw [List.flatMap_cons, List.flatMap_cons, h a List.mem_cons_self, ih (fun b hb => h b (List.mem_cons_of_mem _ hb))]
theorem tr_mono {t : TV} : ∀ {n m s : Nat}, tr t n s → n ≤ m → tr t m s
  | 0, _, _, h, _ => h.elim
  | n + 1, 0, _, _, hm => absurd hm (by omega)
  | n + 1, m + 1, s, h, hm => ⟨h.1, h.2.1, h.2.2.1, fun c hc => tr_mono (h.2.2.2 c hc) (by omega)⟩
theorem pre_stab {t : TV} : ∀ {n m s d : Nat}, tr t n s → n ≤ m → pre t m d s = pre t n d s
  | 0, _, _, _, h, _ => h.elim
  | n + 1, 0, _, _, _, hm => absurd hm (by omega)
  | n + 1, m + 1, s, d, h, hm => by
    show (s, d) :: (ch t s).flatMap (pre t m (d + 1)) = (s, d) :: (ch t s).flatMap (pre t n (d + 1))
    rw [fm_congr (fun c hc => pre_stab (h.2.2.2 c hc) (by omega))]
theorem pre_same {t : TV} {n m s d : Nat} (h1 : tr t n s) (h2 : tr t m s) : pre t n d s = pre t m d s := by
  rcases Nat.le_total n m with q | q
  · exact (pre_stab h1 q).symm
  · exact pre_stab h2 q
theorem mem_pre {t : TV} {n d s : Nat} {x : Nat × Nat} : x ∈ pre t (n + 1) d s ↔ x = (s, d) ∨ ∃ c ∈ ch t s, x ∈ pre t n (d + 1) c := by
  show x ∈ (s, d) :: (ch t s).flatMap (pre t n (d + 1)) ↔ _
  rw [List.mem_cons, List.mem_flatMap]
theorem pre_in {t : TV} : ∀ {n d s x dx : Nat}, (x, dx) ∈ pre t n d s → tr t n s → d ≤ dx ∧ dx < d + n ∧ tr t (n - (dx - d)) x
  | 0, _, _, _, _, _, h => h.elim
  | n + 1, d, s, x, dx, hx, h => by
    rcases mem_pre.mp hx with e | ⟨c, hc, hx⟩
    · cases e
      exact ⟨Nat.le_refl _, by omega, by rw [Nat.sub_self]; exact h⟩
    · obtain ⟨h1, h2, h3⟩ := pre_in hx (h.2.2.2 c hc)
      exact ⟨by omega, by omega, by rw [show n + 1 - (dx - d) = n - (dx - (d + 1)) by omega]; exact h3⟩
theorem tr_at {t : TV} {n s : Nat} (h : tr t n s) : s < mk t ∧ kd t s ≠ -1 := by
  cases n with
  | zero => exact h.elim
  | succ n => exact ⟨h.1, h.2.1⟩
theorem tr_up {t : TV} {n s c : Nat} (h : tr t n s) (hc : c ∈ ch t s) : up t c = (s : Int) := by
  cases n with
  | zero => exact h.elim
  | succ n =>
    obtain ⟨k, hk, h0, rfl⟩ := mem_ch.mp hc
    rcases h.2.2.1 k hk with q | q
    · omega
    · exact q.2.1
theorem tr_ch {t : TV} {n s c : Nat} (h : tr t n s) (hc : c ∈ ch t s) : tr t (n - 1) c := by
  cases n with
  | zero => exact h.elim
  | succ n => exact h.2.2.2 c hc
theorem pclos {t : TV} : ∀ {m d c x dx : Nat}, (x, dx) ∈ pre t m d c → tr t m c → (x = c ∧ dx = d) ∨ ∃ y : Nat, up t x = (y : Int) ∧ d < dx ∧ (y, dx - 1) ∈ pre t m d c
  | 0, _, _, _, _, _, h => h.elim
  | m + 1, d, c, x, dx, hx, h => by
    rcases mem_pre.mp hx with e | ⟨c', hc, hx⟩
    · cases e
      exact Or.inl ⟨rfl, rfl⟩
    · right
      rcases pclos hx (h.2.2.2 c' hc) with ⟨rfl, rfl⟩ | ⟨y, h1, h2, h3⟩
      · exact ⟨c, tr_up h hc, by omega, mem_pre.mpr (Or.inl rfl)⟩
      · exact ⟨y, h1, by omega, mem_pre.mpr (Or.inr ⟨c', hc, h3⟩)⟩
theorem nin {t : TV} : ∀ (n s : Nat), tr t n s → ∀ c ∈ ch t s, ∀ m d dx, tr t m c → (s, dx) ∈ pre t m d c → False := by
  intro n
  induction n using Nat.strongRecOn with
  | ind n ih =>
    intro s h c hc m d dx hm hx
    cases n with
    | zero => exact h.elim
    | succ n =>
      have h1 := h.2.2.2 c hc
      have hx2 := hx
      rw [pre_same hm h1] at hx2
      have h3 := (pre_in hx2 h1).2.2
      exact ih (n - (dx - d)) (by omega) s h3 c hc m d dx hm hx
theorem ch_nodup {t : TV} {n s : Nat} (h : tr t n s) : (ch t s).Pairwise (· ≠ ·) := by
  cases n with
  | zero => exact h.elim
  | succ n =>
    have hd := h.2.2.1
    have key : ∀ i j, i < 3 → j < 3 → i ≠ j → ∀ a ∈ pf t s i, ∀ b ∈ pf t s j, a ≠ b := by
      intro i j hi hj hij a ha b hb
      obtain ⟨a0, rfl⟩ := mem_pf.mp ha
      obtain ⟨b0, rfl⟩ := mem_pf.mp hb
      rcases hd i hi with q | q
      · omega
      · have := q.2.2 j hj (fun e => hij e.symm)
        omega
    have one : ∀ i, (pf t s i).Pairwise (· ≠ ·) := by
      intro i
      unfold pf
      split <;> simp
    rw [ch_eq, List.pairwise_append, List.pairwise_append]
    refine ⟨one 0, ⟨one 1, one 2, key 1 2 (by decide) (by decide) (by decide)⟩, ?_⟩
    intro a ha b hb
    rcases List.mem_append.mp hb with hb | hb
    · exact key 0 1 (by decide) (by decide) (by decide) a ha b hb
    · exact key 0 2 (by decide) (by decide) (by decide) a ha b hb
theorem pre_apart {t : TV} {n s c1 c2 : Nat} (h : tr t n s) (h1 : c1 ∈ ch t s) (h2 : c2 ∈ ch t s) (hne : c1 ≠ c2) : ∀ (j m1 m2 d x dx1 dx2 : Nat), dx1 = d + j → tr t m1 c1 → tr t m2 c2 → (x, dx1) ∈ pre t m1 d c1 → (x, dx2) ∈ pre t m2 d c2 → False := by
  intro j
  induction j with
  | zero =>
    intro m1 m2 d x dx1 dx2 hj t1 t2 x1 x2
    rcases pclos x1 t1 with ⟨rfl, -⟩ | ⟨y, -, hlt, -⟩
    · rcases pclos x2 t2 with ⟨e, -⟩ | ⟨y, e1, -, e2⟩
      · exact hne e
      · have := tr_up h h1
        rw [this] at e1
        have : s = y := by omega
        subst this
        exact nin n s h c2 h2 m2 d _ t2 e2
    · omega
  | succ j ih =>
    intro m1 m2 d x dx1 dx2 hj t1 t2 x1 x2
    rcases pclos x1 t1 with ⟨rfl, e⟩ | ⟨y, u1, -, y1⟩
    · omega
    · rcases pclos x2 t2 with ⟨rfl, -⟩ | ⟨y', u2, -, y2⟩
      · have := tr_up h h2
        rw [this] at u1
        have : s = y := by omega
        subst this
        exact nin n s h c1 h1 m1 d _ t1 y1
      · rw [u1] at u2
        have : y = y' := by omega
        subst this
        exact ih m1 m2 d y (dx1 - 1) (dx2 - 1) (by omega) t1 t2 y1 y2
theorem pre_nodup {t : TV} : ∀ {n s d : Nat}, tr t n s → (pre t n d s).Pairwise (fun x y => x.1 ≠ y.1)
  | 0, _, _, h => h.elim
  | n + 1, s, d, h => by
    show ((s, d) :: (ch t s).flatMap (pre t n (d + 1))).Pairwise _
    rw [List.pairwise_cons, List.pairwise_flatMap]
    refine ⟨?_, fun c hc => pre_nodup (h.2.2.2 c hc), ?_⟩
    · intro x hx
      obtain ⟨c, hc, hx⟩ := List.mem_flatMap.mp hx
      intro e
      obtain ⟨x1, x2⟩ := x
      have e : s = x1 := e
      subst e
      exact nin (n + 1) s h c hc n (d + 1) x2 (h.2.2.2 c hc) hx
    · refine (ch_nodup h).imp_of_mem ?_
      intro a b ha hb hab x hx y hy e
      obtain ⟨x1, x2⟩ := x
      obtain ⟨y1, y2⟩ := y
      have e : x1 = y1 := e
      subst e
      have := (pre_in hx (h.2.2.2 a ha)).1
      exact pre_apart h ha hb hab (x2 - (d + 1)) n n (d + 1) x1 x2 y2 (by omega) (h.2.2.2 a ha) (h.2.2.2 b hb) hx hy
theorem pre_len {t : TV} {n s d : Nat} (h : tr t n s) : (pre t n d s).length ≤ mk t := by
  have h1 : ((pre t n d s).map Prod.fst).Nodup := List.pairwise_map.mpr (pre_nodup h)
  have h2 : (pre t n d s).map Prod.fst ⊆ List.range (mk t) := by
    intro x hx
    obtain ⟨⟨y, dy⟩, hy, rfl⟩ := List.mem_map.mp hx
    exact List.mem_range.mpr (tr_at (pre_in hy h).2.2).1
  have := h1.length_le_of_subset h2
  rwa [List.length_map, List.length_range] at this
/-- the list of what stands at z: none if z is no step -/
def plist (t : TV) (z : Int) : List (Nat × Nat) := if al t z then pre t 40 1 z.toNat else []
theorem plist_len {t : TV} {z : Int} (h : al t z → tr t 40 z.toNat) : (plist t z).length ≤ mk t := by
  unfold plist
  split
  · rename_i q
    exact pre_len (h q)
  · exact Nat.zero_le _
