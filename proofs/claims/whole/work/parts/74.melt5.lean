/-! MELT: the reference -/
section ME5
variable {t : TV} {c : Nat}
/-- what the reference's melting may change -/
def mz (m : Nat) (h h' : Hp) : Prop := (∀ a, (a = 0 ∨ a = 8 ∨ a = 12 ∨ (13 < a ∧ a ≠ 22)) → h'.1 a = h.1 a) ∧ (∀ s, h'.1 5 s = h.1 5 s ∨ (m ≤ s ∧ h'.1 5 s = 0)) ∧ (∀ o k, ¬ (o = 0 ∧ k = 0) → h'.2.1 o k = h.2.1 o k) ∧ h'.2.2 = h.2.2
theorem mz.rf {m : Nat} {h : Hp} : mz m h h := ⟨fun _ _ => rfl, fun _ => Or.inl rfl, fun _ _ _ => rfl, rfl⟩
theorem mz.tr {m m' : Nat} {h h1 h2 : Hp} (x : mz m h h1) (y : mz m' h1 h2) (hm : m ≤ m') : mz m h h2 := by
  refine ⟨fun a ha => (y.1 a ha).trans (x.1 a ha), fun s => ?_, fun o k q => (y.2.2.1 o k q).trans (x.2.2.1 o k q), y.2.2.2.trans x.2.2.2⟩
  rcases y.2.1 s with e | ⟨e1, e2⟩
  · rcases x.2.1 s with f | ⟨f1, f2⟩
    · exact Or.inl (e.trans f)
    · exact Or.inr ⟨f1, e.trans f2⟩
  · exact Or.inr ⟨by omega, e2⟩
theorem mz.mk {m m' : Nat} {h h1 h2 : Hp} (x : mz m h h1) (y : gf 1 5 h1 h2) (z : cz m' h1 h2) (hm : m ≤ m') : mz m h h2 :=
  x.tr (m' := m') ⟨fun a ha => by
    by_cases e : a = 0
    · exact y.1 a (by omega)
    · exact y.1 a (by omega), z.1, y.2.1, y.2.2⟩ hm
theorem mz.lk {m : Nat} {h h1 h2 : Hp} (x : mz m h h1) (y : gf 3 4 h1 h2) : mz m h h2 :=
  x.tr (m' := m) ⟨fun a ha => y.1 a (by omega), fun s => Or.inl (by rw [y.1 5 (by decide)]), y.2.1, y.2.2⟩ (Nat.le_refl _)
theorem mz.go {m : Nat} {h h1 h2 : Hp} (x : mz m h h1) (y : fm 9 11 h1 h2) : mz m h h2 :=
  x.tr (m' := m) ⟨fun a ha => y.1 a (by omega), fun s => Or.inl (by rw [y.1 5 (by decide)]), fun o k _ => by rw [y.2], by rw [y.2]⟩ (Nat.le_refl _)
theorem mz.A {m : Nat} {h h1 : Hp} (x : mz m h h1) {a i : Nat} {z : Int} (ha : a = 3 ∨ a = 13 ∨ a = 22) : mz m h (hA h1 a i z) :=
  x.tr (m' := m) ⟨fun b hb => by
    funext j
    rw [hA_at, if_neg (by omega)], fun s => Or.inl (by rw [hA_at, if_neg (by omega)]), fun _ _ _ => rfl, rfl⟩ (Nat.le_refl _)
theorem mz.gn {m : Nat} {h h1 h2 : Hp} (x : mz m h h1) (y : gf 1 7 h1 h2) (e5 : h2.1 5 = h1.1 5) : mz m h h2 :=
  x.tr (m' := m) ⟨fun a ha => by
    by_cases e : a = 0
    · exact y.1 a (by omega)
    · exact y.1 a (by omega), fun s => Or.inl (by rw [e5]), y.2.1, y.2.2⟩ (Nat.le_refl _)
/-- a place is held -/
theorem CT_junk (h : MH t c) {lk : Nat → Bool} {n k : Nat} (hk : k < qu t c) (hkp : k < qp t c) (hl : lk (qx t c k) = false) : TE (tw (CT t c true lk k n) 2 (3 * (qb t c k + 1)) (k : Int)) (CT t c true lk (k + 1) n) := by
  have hge := qb_ge (t := t) (c := c) k
  refine ⟨rfl, rfl, fun s hs => ⟨?_, ?_, ?_⟩, fun j hj => ?_, fun r hr => ⟨?_, ?_⟩⟩
  · show kd (CT t c true lk (k + 1) n) s = (tw (CT t c true lk k n) 2 (3 * (qb t c k + 1)) (k : Int)).1 0 s
    rw [tw_at, if_neg (by omega)]
    rfl
  · show nm (CT t c true lk (k + 1) n) s = (tw (CT t c true lk k n) 2 (3 * (qb t c k + 1)) (k : Int)).1 1 s
    rw [tw_at, if_neg (by omega)]
    rfl
  · show up (CT t c true lk (k + 1) n) s = (tw (CT t c true lk k n) 2 (3 * (qb t c k + 1)) (k : Int)).1 3 s
    rw [tw_at, if_neg (by omega)]
    rfl
  · rw [tw_at]
    by_cases z : j = 3 * (qb t c k + 1)
    · rw [if_pos (show (2 : Nat) = 2 ∧ j = 3 * (qb t c k + 1) from ⟨rfl, z⟩), CT_2, z, show 3 * (qb t c k + 1) / 3 = qb t c k + 1 by omega, show 3 * (qb t c k + 1) % 3 = 0 by omega, if_neg (by omega), pN_s hk, if_pos rfl, if_pos hkp, if_neg (by omega), Int.toNat_natCast, hl, if_neg (by decide), ds_s hk, if_pos ⟨rfl, rfl, by show k < k + 1; omega⟩]
    · rw [if_neg (show ¬ ((2 : Nat) = 2 ∧ j = 3 * (qb t c k + 1)) from fun y => z y.2), CT_2, CT_2]
      by_cases z1 : j / 3 < mk t
      · rw [if_pos z1, if_pos z1]
      · rw [if_neg z1, if_neg z1]
        have hne : ¬ ((ds t c (j / 3)).1 = 1 ∧ j % 3 = 0 ∧ (ds t c (j / 3)).2 = k) := fun y => by
          obtain ⟨y1, y2, y3⟩ := y
          apply z
          have : j / 3 = qb t c k + 1 := by
            unfold ds at y1 y3
            unfold qK at y1 y3
            unfold qb at y1 y3 ⊢
            split at y1
            · rename_i w
              rw [if_pos w] at y3
              simp only at y1 y3
              omega
            · rename_i w
              rw [if_neg w] at y3
              split at y1
              · rename_i w2
                rw [if_pos w2] at y3
                simp only at y1 y3
                omega
              · split at y1
                · simp at y1
                · simp at y1
          omega
        have e : ((ds t c (j / 3)).1 = 1 ∧ j % 3 = 0 ∧ (ds t c (j / 3)).2 < k + 1) ↔ ((ds t c (j / 3)).1 = 1 ∧ j % 3 = 0 ∧ (ds t c (j / 3)).2 < k) := ⟨fun y => ⟨y.1, y.2.1, by
          have : (ds t c (j / 3)).2 ≠ k := fun w => hne ⟨y.1, y.2.1, w⟩
          have := y.2.2
          omega⟩, fun y => ⟨y.1, y.2.1, by have := y.2.2; omega⟩⟩
        by_cases w : (ds t c (j / 3)).1 = 1 ∧ j % 3 = 0 ∧ (ds t c (j / 3)).2 < k
        · rw [if_pos w, if_pos (e.mpr w)]
        · rw [if_neg w, if_neg (fun y => w (e.mp y))]
  · show pr t r = (tw (CT t c true lk k n) 2 (3 * (qb t c k + 1)) (k : Int)).1 4 r
    rw [tw_at, if_neg (by omega)]
    rfl
  · show bd t r = (tw (CT t c true lk k n) 2 (3 * (qb t c k + 1)) (k : Int)).1 5 r
    rw [tw_at, if_neg (by omega)]
    rfl
/-- where SET has a nought no place is held -/
theorem CT_noju (h : MH t c) {lk : Nat → Bool} {n k : Nat} (hk : k < qu t c) (hkp : qp t c ≤ k) (hl : lk (qb t c k + 2) = true) : TE (CT t c true lk k n) (CT t c true lk (k + 1) n) := by
  have hge := qb_ge (t := t) (c := c) k
  refine ⟨rfl, rfl, fun s hs => ⟨rfl, rfl, rfl⟩, fun j hj => ?_, fun r hr => ⟨rfl, rfl⟩⟩
  rw [CT_2, CT_2]
  by_cases z1 : j / 3 < mk t
  · rw [if_pos z1, if_pos z1]
  · rw [if_neg z1, if_neg z1]
    by_cases z2 : pN t c (j / 3) (j % 3) < 0
    · rw [if_pos z2, if_pos z2]
    · rw [if_neg z2, if_neg z2]
      by_cases z3 : lk (pN t c (j / 3) (j % 3)).toNat = true
      · rw [if_pos z3, if_pos z3]
      · rw [if_neg z3, if_neg z3]
        have hne : ¬ ((ds t c (j / 3)).1 = 1 ∧ j % 3 = 0 ∧ (ds t c (j / 3)).2 = k) := fun y => by
          obtain ⟨y1, y2, y3⟩ := y
          apply z3
          have e : pN t c (j / 3) (j % 3) = ((qb t c k + 2 : Nat) : Int) := by
            unfold pN
            rw [y1, y2, y3, if_neg (by decide), if_pos rfl, if_pos rfl, if_neg (by omega)]
          rw [e, Int.toNat_natCast]
          exact hl
        by_cases w : (ds t c (j / 3)).1 = 1 ∧ j % 3 = 0 ∧ (ds t c (j / 3)).2 < k
        · rw [if_pos w, if_pos ⟨w.1, w.2.1, by have := w.2.2; omega⟩]
        · rw [if_neg w, if_neg (fun y => w ⟨y.1, y.2.1, by
            have : (ds t c (j / 3)).2 ≠ k := fun v => hne ⟨y.1, y.2.1, v⟩
            have := y.2.2
            omega⟩)]
/-- the old steps stand as they stood -/
theorem CT_tr {lk : Nat → Bool} {jk n : Nat} (hn : mk t ≤ n) (hl : ∀ s, s < mk t → lk s = false) : ∀ (m s : Nat), tr t m s → tr (CT t c true lk jk n) m s ∧ ∀ d, pre (CT t c true lk jk n) m d s = pre t m d s
  | 0, s, h => h.elim
  | m + 1, s, h => by
    have hs := h.1
    have ept : ∀ k, k < 3 → pt (CT t c true lk jk n) s k = pt t s k := fun k hk => by
      rw [CT_p _ _ _ _ hk, if_pos hs, if_neg (fun y => absurd y.1 (by decide))]
    have epf : ∀ k, k < 3 → pf (CT t c true lk jk n) s k = pf t s k := fun k hk => by
      unfold pf
      rw [ept k hk]
    have ech : ch (CT t c true lk jk n) s = ch t s := by
      rw [ch_eq, ch_eq, epf 0 (by decide), epf 1 (by decide), epf 2 (by decide)]
    refine ⟨⟨by show s < n; omega, by rw [CT_k, if_pos hs]; exact h.2.1, fun k hk => ?_, fun y hy => ?_⟩, fun d => ?_⟩
    · rw [ept k hk]
      rcases h.2.2.1 k hk with q | ⟨q1, q2, q3⟩
      · exact Or.inl q
      · by_cases h0 : pt t s k < 0
        · exact Or.inl h0
        · refine Or.inr ⟨by show pt t s k < (n : Int); omega, ?_, fun j hj hne => by rw [ept j hj]; exact q3 j hj hne⟩
          rw [CT_u, hl _ (by omega), if_neg (by decide), if_pos (by omega)]
          exact q2
    · rw [ech] at hy
      exact (CT_tr hn hl m y (h.2.2.2 y hy)).1
    · show (s, d) :: (ch _ s).flatMap (pre _ m (d + 1)) = (s, d) :: (ch t s).flatMap (pre t m (d + 1))
      rw [ech, fm_congr (fun y hy => (CT_tr hn hl m y (h.2.2.2 y hy)).2 (d + 1))]
theorem CT_fl (w : WF t) {lk : Nat → Bool} {jk n s : Nat} (hs : s < mk t) (hk : kd t s ≠ -1) : fl (CT t c true lk jk n) s ∧ ar (CT t c true lk jk n) s = ar t s := by
  have f := w.fu hs hk
  have ek : kd (CT t c true lk jk n) s = kd t s := by rw [CT_k, if_pos hs]
  have en : nm (CT t c true lk jk n) s = nm t s := by rw [CT_n, if_pos hs]
  have ea : ar (CT t c true lk jk n) s = ar t s := by
    unfold ar
    rw [ek, en]
    rfl
  refine ⟨⟨by rw [ek]; exact f.1, by rw [ek]; exact f.2.1, fun h6 => ?_, fun k hk => ?_⟩, ea⟩
  · rw [ek] at h6
    rw [en]
    exact f.2.2.1 h6
  · rw [ea, CT_p _ _ _ _ hk, if_pos hs, if_neg (fun y => absurd y.1 (by decide))]
    exact f.2.2.2 k hk
/-- what hangs in the reference before the body is written off -/
def lk0 (t : TV) (c : Nat) (n : Nat) (lk : Nat → Bool) : Prop := ∀ s, lk s = true ↔ (mk t < s ∧ s < n)
theorem m_writesOff (h : MH t c) {P : Int → Hp → Prop} {hp : Hp} {lk : Nat → Bool} (M : RM (CT t c true lk (qu t c) (qK t c + 1)) hp) (I : lk0 t c (qK t c) lk) (p : ∀ h' lk', mz (mk t) hp h' → RM (CT t c true lk' (qu t c) (qE t c)) h' → (∀ s, lk' s = true ↔ ((mk t < s ∧ s < qK t c) ∨ (qK t c + 1 < s ∧ s < qE t c))) → P ((qK t c + 1 : Nat) : Int) h') : Cl shM mX9_writesOff [pR 0, pI (bdI t (nm t c)), pI (qs t c)] hp P := by
  have hK := qK_ge t c
  have hE := h.E
  have hEd : qE t c = qK t c + 1 + (qD t c).length := rfl
  have hs0 := h.s0
  have hs40 : qs t c ≤ 40 := (h.1.us _).2
  have hlo : ∀ s, s < mk t → lk s = false := fun s hs => by
    cases q : lk s with
    | false => rfl
    | true => have := (I s).mp q; omega
  obtain ⟨root, hroot⟩ : ∃ root : Nat, bdI t (nm t c) = (root : Int) := ⟨_, (Int.toNat_of_nonneg h.rt.1).symm⟩
  have hDp := h.Dp
  have hd0 := h.dk0
  rw [hroot, Int.toNat_natCast] at hDp hd0
  have htr := CT_tr (t := t) (c := c) (lk := lk) (jk := qu t c) (n := qK t c + 1) (by omega) hlo 40 root hDp.2
  have hroot2 : (root, 1) ∈ qD t c := by
    rw [hDp.1]
    exact mem_pre.mpr (Or.inl rfl)
  have hal : ∀ q ∈ qD t c, q.1 < mk t ∧ kd t q.1 ≠ -1 := fun q hq => plist_at h.1 hq
  rw [hroot]
  refine sX9_writesOff_0 (m_goes M htr.1 (fun q hq => ?_) (fun h1 x1 hO _ => ?_))
  · rw [htr.2, ← hDp.1] at hq
    exact (CT_fl h.1 (hal q hq).1 (hal q hq).2).1
  rw [htr.2, ← hDp.1] at hO ⊢
  have M1 := M.kp x1 (by decide)
  -- the second pass: each part hangs in its twin
  have l151 : ∀ (i : Nat) (lkA : Nat → Bool), i < (qD t c).length → (∀ (g : Hp) (lk5 : Nat → Bool), mz (mk t) hp g → RM (CT t c true lk5 (qu t c) (qE t c)) g → (∀ j (q : Nat × Nat), (qD t c)[j]? = some q → g.1 13 j = (q.1 : Int) ∧ g.1 22 q.1 = (tn t c q.1 : Int)) → (∀ s, lkA s = true → lk5 s = true) → (∀ s, lk5 s = true → lkA s = true ∨ (qK t c + 1 < s ∧ s < qE t c)) → (∀ j, j < 3 → 0 ≤ pt t (dk t c i) j → lk5 (tn t c (pt t (dk t c i) j).toNat) = true) → inR ((i : Int) + 1) ∧ Ok shM 0 0 mX9_writesOff 133 [some (pR 0), some (pI (root : Int)), none, some (pI ((qD t c).length : Int)), some (pI ((i : Int) + 1)), none, none] [] g P) →
      ∀ (d j : Nat) (g : Hp) (lk5 : Nat → Bool), j + d = ar t (dk t c i) → mz (mk t) hp g → RM (CT t c true lk5 (qu t c) (qE t c)) g → (∀ j (q : Nat × Nat), (qD t c)[j]? = some q → g.1 13 j = (q.1 : Int) ∧ g.1 22 q.1 = (tn t c q.1 : Int)) → (∀ s, lkA s = true → lk5 s = true) → (∀ s, lk5 s = true → lkA s = true ∨ (qK t c + 1 < s ∧ s < qE t c)) → (∀ j', j' < j → lk5 (tn t c (pt t (dk t c i) j').toNat) = true) → Ok shM 0 0 mX9_writesOff 151 [some (pR 0), some (pI (root : Int)), none, some (pI ((qD t c).length : Int)), some (pI (i : Int)), some (pI (dk t c i : Int)), some (pI (j : Int))] [] g P := by
    intro i lkA hi next d
    obtain ⟨dd, hm⟩ := dk_mem hi
    have hia := h.dkal hi
    have f := fun k h3 => (h.1.2.2.2.2.2.1 _ hia.1 hia.2).2.2.2 k h3
    have har := ar_3 (h.1.fu hia.1 hia.2)
    induction d with
    | zero =>
      intro j g lk5 hj x Mg hA h1 h2 h3
      have e : j = ar t (dk t c i) := hj
      subst e
      have hfl := CT_fl (c := c) (lk := lk5) (jk := qu t c) (n := qE t c) h.1 hia.1 hia.2
      refine sX9_writesOff_151 (m_partsOf Mg (by show dk t c i < qE t c; omega) hfl.1 ?_)
      rw [hfl.2]
      refine ⟨fun _ => next g lk5 x Mg hA h1 h2 (fun j hj h0 => h3 j ?_), fun z => absurd (Int.le_refl _) z⟩
      exact Classical.byContradiction fun z => by
        have := (f j hj).2 (by omega)
        omega
    | succ d ih =>
      intro j g lk5 hj x Mg hA h1 h2 h3
      have hfl := CT_fl (c := c) (lk := lk5) (jk := qu t c) (n := qE t c) h.1 hia.1 hia.2
      have h0 := (f j (by omega)).1 (by omega)
      have hc : (pt t (dk t c i) j).toNat ∈ ch t (dk t c i) := mem_ch.mpr ⟨j, by omega, h0, rfl⟩
      have hd2 := h.Dch hm hc
      have hca := hal _ hd2
      refine sX9_writesOff_151 (m_partsOf Mg (by show dk t c i < qE t c; omega) hfl.1 ?_)
      rw [hfl.2]
      refine ⟨fun z => absurd z (by omega), fun _ => ⟨dk t c i, rfl, by omega, by unfold inR; omega, by unfold inR; omega, 3 * dk t c i + j, by omega, by omega, (pt t (dk t c i) j).toNat, ?_, by omega, ?_⟩⟩
      · rw [Mg.p (by show dk t c i < qE t c; omega) (by omega), CT_p _ _ _ _ (by omega), if_pos hia.1, if_neg (fun y => absurd y.1 (by decide))]
        omega
      · obtain ⟨d5, hm5⟩ := dk_at hi
        have e1 : g.1 22 (dk t c i) = (tn t c (dk t c i) : Int) := (hA _ _ hm5).2
        obtain ⟨m6, hm6⟩ := List.getElem?_of_mem hd2
        have e2 : g.1 22 (pt t (dk t c i) j).toNat = (tn t c (pt t (dk t c i) j).toNat : Int) := (hA _ _ hm6).2
        rw [e1, e2]
        have l1 := tn_lt h hm
        have l2 := tn_lt h hd2
        have etn : tn t c (dk t c i) = qK t c + 1 + i := tn_dk h hi
        refine m_setPart Mg (by omega) (by omega) (by omega) (fun g2 x2 M2 => ⟨by unfold inR; omega, ?_⟩)
        have hpn : pN t c (tn t c (dk t c i)) j = (tn t c (pt t (dk t c i) j).toNat : Int) := by
          rw [etn, pN_t h, if_neg (by omega)]
        have M2 := M2.te (CT_link h (g := true) (lk := lk5) (jk := qu t c) (n := qE t c) (Nat.le_refl _) (by omega) l1.1 (by omega) hpn (Or.inl rfl))
        refine ih (j + 1) g2 _ (by omega) (x.lk x2) M2 (fun j q hq => ?_) (fun s hs => lkU_at.mpr (Or.inr (h1 s hs))) (fun s hs => ?_) (fun j' hj' => ?_)
        · rw [x2.1 13 (by decide), x2.1 22 (by decide)]
          exact hA j q hq
        · rcases lkU_at.mp hs with e | e
          · have hne := (uN_tn h hd2 (Or.inr ⟨dd, hm⟩) hc).2
            right
            rw [e]
            refine ⟨?_, l2.1⟩
            unfold tn
            omega
          · exact h2 s e
        · by_cases e : j' = j
          · rw [e]
            exact lkU_at.mpr (Or.inl rfl)
          · exact lkU_at.mpr (Or.inr (h3 j' (by omega)))
  have l133 : ∀ (d i : Nat) (g : Hp) (lk5 : Nat → Bool), i + d = (qD t c).length → mz (mk t) hp g → RM (CT t c true lk5 (qu t c) (qE t c)) g → (∀ j (q : Nat × Nat), (qD t c)[j]? = some q → g.1 13 j = (q.1 : Int) ∧ g.1 22 q.1 = (tn t c q.1 : Int)) → (∀ s, lk s = true → lk5 s = true) → (∀ s, lk5 s = true → lk s = true ∨ (qK t c + 1 < s ∧ s < qE t c)) → (∀ i', i' < i → ∀ j, j < 3 → 0 ≤ pt t (dk t c i') j → lk5 (tn t c (pt t (dk t c i') j).toNat) = true) → Ok shM 0 0 mX9_writesOff 133 [some (pR 0), some (pI (root : Int)), none, some (pI ((qD t c).length : Int)), some (pI (i : Int)), none, none] [] g P := by
    intro d
    induction d with
    | zero =>
      intro i g lk5 hi x Mg hA h1 h2 h3
      have e : i = (qD t c).length := hi
      subst e
      have hra := hal _ hroot2
      refine sX9_writesOff_133 ⟨fun _ => ⟨root, rfl, by have : root < mk t := hra.1; omega, ?_⟩, fun z => absurd (Int.le_refl _) z⟩
      obtain ⟨m6, hm6⟩ := List.getElem?_of_mem hroot2
      have e2 : g.1 22 root = (tn t c root : Int) := (hA _ _ hm6).2
      have e3 : tn t c root = qK t c + 1 := by
        have := tn_dk h hd0.2
        rw [hd0.1] at this
        exact this
      rw [e2, e3]
      refine p g lk5 x Mg (fun s => ⟨fun q => ?_, fun q => ?_⟩)
      · rcases h2 s q with e | e
        · exact Or.inl ((I s).mp e)
        · exact Or.inr e
      · rcases q with e | e
        · exact h1 s ((I s).mpr e)
        · obtain ⟨i, rfl⟩ : ∃ i, s = qK t c + 1 + i := ⟨s - (qK t c + 1), by omega⟩
          have hi : i < (qD t c).length := by omega
          obtain ⟨dd, hm⟩ := dk_mem hi
          have hne : dk t c i ≠ (bdI t (nm t c)).toNat := fun z => by
            have z1 := h.ixk hi
            have z2 := h.ixk h.dk0.2
            rw [h.dk0.1, ← z, z1] at z2
            omega
          obtain ⟨a, d', u1, u2, u3⟩ := h.Dup hm hne
          obtain ⟨j, hj, hj0, hje⟩ := mem_ch.mp u3
          have := h3 (ix (qD t c) a) (ix_at u2).1 j hj (by rw [h.dkx u2]; exact hj0)
          rw [h.dkx u2, ← hje, tn_dk h hi] at this
          exact this
    | succ d ih =>
      intro i g lk5 hi x Mg hA h1 h2 h3
      have hil : i < (qD t c).length := by omega
      obtain ⟨d5, hm5⟩ := dk_at hil
      refine sX9_writesOff_133 ⟨fun z => absurd z (by omega), fun _ => ⟨i, rfl, by omega, ?_⟩⟩
      rw [(hA _ _ hm5).1]
      refine l151 i lk5 hil (fun g2 lk6 x2 M2 hA2 a1 a2 a3 => ⟨by unfold inR; omega, ih (i + 1) g2 lk6 (by omega) x2 M2 hA2 (fun s hs => a1 s (h1 s hs)) (fun s hs => ?_) (fun i' hi' j hj h0 => ?_)⟩) _ 0 g lk5 (Nat.zero_add _) x Mg hA (fun s hs => hs) (fun s hs => Or.inl hs) (fun j' hj' => by omega)
      · rcases a2 s hs with e | e
        · exact h2 s e
        · exact Or.inr e
      · by_cases e : i' = i
        · rw [e] at h0 ⊢
          exact a3 j hj h0
        · exact a1 _ (h3 i' (by omega) j hj h0)
  -- the first pass: each step is made
  have l38 : ∀ (d i : Nat) (g : Hp), i + d = (qD t c).length → mz (mk t) hp g → RM (CT t c true lk (qu t c) (qK t c + 1 + i)) g → (∀ j (q : Nat × Nat), (qD t c)[j]? = some q → g.1 13 j = (q.1 : Int)) → (∀ j (q : Nat × Nat), j < i → (qD t c)[j]? = some q → g.1 22 q.1 = (tn t c q.1 : Int)) → Ok shM 0 0 mX9_writesOff 38 [some (pR 0), some (pI (root : Int)), some (pI (qs t c)), some (pI ((qD t c).length : Int)), some (pI (i : Int)), none, none] [] g P := by
    intro d
    induction d with
    | zero =>
      intro i g hi x Mg h13 h22
      have e : i = (qD t c).length := hi
      subst e
      refine sX9_writesOff_38 ⟨fun _ => l133 (qD t c).length 0 g lk (by omega) x Mg (fun j q hq => ⟨h13 j q hq, h22 j q (List.getElem?_eq_some_iff.mp hq).1 hq⟩) (fun s hs => hs) (fun s hs => Or.inl hs) (fun i' hi' => by omega), fun z => absurd (Int.le_refl _) z⟩
    | succ d ih =>
      intro i g hi x Mg h13 h22
      have hil : i < (qD t c).length := by omega
      obtain ⟨d5, hm5⟩ := dk_at hil
      obtain ⟨dd, hm⟩ := dk_mem hil
      have hia := h.dkal hil
      have hkn := kN_t h i
      have hno : ∀ s, qK t c ≤ s → lk s = false := fun s hs => by
        cases q : lk s with
        | false => rfl
        | true => have := (I s).mp q; omega
      have hnr := (h.1.nmr hia.1 hia.2).1
      have go : ∀ (v : Int), v = nm t (dk t c i) + (if kd t (dk t c i) = 1 ∨ kd t (dk t c i) = 4 then qs t c else 0) → Cl shM mX9_make [pR 0, pI (kd t (dk t c i)), pI v] g (fun r1 h1 => inR ((i : Int) + 1) ∧ (Ok shM 0 0 mX9_writesOff 38 [some (pR 0), some (pI (root : Int)), some (pI (qs t c)), some (pI ((qD t c).length : Int)), some (pI ((i : Int) + 1)), none, none] [] (hA h1 22 (dk t c i) r1) P)) := fun v hv => by
        rw [hv, ← hkn.2, ← hkn.1]
        refine m_make Mg (by show qK t c + 1 + i < 600; omega) _ _ (fun g2 x2 c2 M2 => ⟨by unfold inR; omega, ?_⟩)
        show Ok shM 0 0 mX9_writesOff 38 _ [] (hA g2 22 (dk t c i) ((qK t c + 1 + i : Nat) : Int)) P
        have M2 := M2.te (CT_make (t := t) (c := c) (g := true) (lk := lk) (jk := qu t c) (n := qK t c + 1 + i) (by omega) (hno _ (by omega)) (fun j hj h0 => ?_) (fun z => by rw [ds_t h] at z; simp at z))
        · refine ih (i + 1) _ (by omega) ((x.mk x2 c2 (by show mk t ≤ qK t c + 1 + i; omega)).A (by decide)) (M2.oth (by decide) _ _) (fun j q hq => ?_) (fun j q hj hq => ?_)
          · rw [hA_at, if_neg (by omega), x2.1 13 (by decide)]
            exact h13 j q hq
          · rw [hA_at]
            by_cases e : j = i
            · rw [e, hm5] at hq
              injection hq with hq
              rw [if_pos ⟨rfl, (congrArg Prod.fst hq).symm⟩, ← hq, tn_dk h hil]
            · rw [if_neg, x2.1 22 (by decide)]
              · exact h22 j q (by omega) hq
              · rintro ⟨_, z⟩
                exact e (pw_at h.nd hq hm5 z)
        · rw [pN_t h] at h0 ⊢
          split at h0
          · exact absurd h0 (by decide)
          · rename_i z
            rw [if_neg z, Int.toNat_natCast]
            have hc : (pt t (dk t c i) j).toNat ∈ ch t (dk t c i) := mem_ch.mpr ⟨j, hj, by omega, rfl⟩
            exact hno _ (by have := (tn_lt h (h.Dch hm hc)).2; omega)
      refine Ok.rng (fun cn _ _ => ?_)
      have hin : inR (nm t (dk t c i)) := by
        have := Mg.n (s := dk t c i) (by show dk t c i < qK t c + 1 + i; omega)
        rw [CT_n, if_pos hia.1] at this
        rw [← this]
        exact cn.1 2 _
      refine sX9_writesOff_38 ⟨fun z => absurd z (by omega), fun _ => ⟨i, rfl, by omega, dk t c i, h13 i (dk t c i, d5) hm5, by omega, ?_⟩⟩
      rw [Mg.k (by show dk t c i < qK t c + 1 + i; omega), Mg.n (by show dk t c i < qK t c + 1 + i; omega), CT_k, CT_n, if_pos hia.1, if_pos hia.1]
      refine ⟨fun c1 => ⟨by have := hnr (Or.inl c1); unfold inR; omega, go _ (by rw [if_pos (Or.inl c1)])⟩, fun c1 => ⟨fun c2 => go _ (by rw [if_neg (fun z => z.elim c1 c2), Int.add_zero]), fun c2 => ⟨by have := hnr (Or.inr c2); unfold inR; omega, go _ (by rw [if_pos (Or.inr c2)])⟩⟩⟩
  -- the order is kept
  have l9 : ∀ (d i : Nat) (g : Hp), i + d = (qD t c).length → mz (mk t) hp g → RM (CT t c true lk (qu t c) (qK t c + 1)) g → (∀ j (q : Nat × Nat), (qD t c)[j]? = some q → g.1 9 j = (q.1 : Int)) → (∀ j (q : Nat × Nat), j < i → (qD t c)[j]? = some q → g.1 13 j = (q.1 : Int)) → Ok shM 0 0 mX9_writesOff 9 [some (pR 0), some (pI (root : Int)), some (pI (qs t c)), some (pI ((qD t c).length : Int)), some (pI (i : Int)), none, none] [] g P := by
    intro d
    induction d with
    | zero =>
      intro i g hi x Mg h9 h13
      have e : i = (qD t c).length := hi
      subst e
      exact sX9_writesOff_9 ⟨fun _ => l38 (qD t c).length 0 g (by omega) x Mg (fun j q hq => h13 j q (List.getElem?_eq_some_iff.mp hq).1 hq) (fun j q hj => by omega), fun z => absurd (Int.le_refl _) z⟩
    | succ d ih =>
      intro i g hi x Mg h9 h13
      have hil : i < (qD t c).length := by omega
      obtain ⟨d5, hm5⟩ := dk_at hil
      refine sX9_writesOff_9 ⟨fun z => absurd z (by omega), fun _ => ⟨i, rfl, by omega, by unfold inR; omega, ?_⟩⟩
      refine ih (i + 1) _ (by omega) (x.A (by decide)) (Mg.oth (by decide) _ _) (fun j q hq => ?_) (fun j q hj hq => ?_)
      · rw [hA_at, if_neg (by omega)]
        exact h9 j q hq
      · rw [hA_at]
        by_cases e : j = i
        · rw [if_pos ⟨rfl, e⟩, ← e]
          exact h9 j q hq
        · rw [if_neg (fun z => e z.2)]
          exact h13 j q (by omega) hq
  exact l9 (qD t c).length 0 h1 (by omega) (mz.rf.go x1) M1 (fun j q hq => hO j q hq) (fun j q hj => by omega)
end ME5
