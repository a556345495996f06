/-! THE REFERENCE: goes -/
def SO (h : Hp) : List (Nat × Nat) → Prop
  | [] => True
  | q :: L => h.1 11 L.length = (q.1 : Int) ∧ SO h L
theorem SO_eq {h h' : Hp} : ∀ {L : List (Nat × Nat)}, SO h L → (∀ j, j < L.length → h'.1 11 j = h.1 11 j) → SO h' L
  | [], _, _ => trivial
  | q :: L, s, e => ⟨by rw [e L.length (by simp)]; exact s.1, SO_eq s.2 (fun j hj => e j (by simp; omega))⟩
/-- the order, and how deep each -/
def OA (h : Hp) (D : List (Nat × Nat)) : Prop := ∀ (i : Nat) (q : Nat × Nat), D[i]? = some q → h.1 9 i = (q.1 : Int)
def DP (h : Hp) (E : List (Nat × Nat)) : Prop := ∀ q ∈ E, h.1 10 q.1 = (q.2 : Int)
def df (x y : Nat × Nat) : Prop := x.1 ≠ y.1
theorem rest_sub {t : TV} : ∀ {L : List (Nat × Nat)}, trS t L → List.Sublist L (restS t L)
  | [], _ => List.Sublist.slnil
  | q :: L, h => by
    have hq := h q List.mem_cons_self
    have e : restS t (q :: L) = pre t (41 - q.2) q.2 q.1 ++ restS t L := rfl
    rw [e, show 41 - q.2 = (40 - q.2) + 1 by omega]
    show List.Sublist (q :: L) (((q.1, q.2) :: (ch t q.1).flatMap (pre t (40 - q.2) (q.2 + 1))) ++ restS t L)
    rw [List.cons_append]
    exact List.Sublist.cons₂ _ (List.Sublist.trans (rest_sub (fun r hr => h r (List.mem_cons_of_mem _ hr))) (List.sublist_append_right _ _))
section MG
variable {t : TV}
theorem m_push {h0 h : Hp} {P : Int → Hp → Prop} (R0 : RM t h0) (x : fm 9 11 h0 h) {s d k : Nat} (hk : k < ar t s) (hk3 : k < 3) (ht : tr t (41 - d) s) (f : fl t s) (hd : 1 ≤ d ∧ d ≤ 40) {L D : List (Nat × Nat)} (hS : SO h L) (hO : OA h D) (hP : DP h (D ++ L)) (hsd : (s, d) ∈ D) (hL : L.length ≤ 82) (hDl : D.length ≤ 600)
    (hne : ∀ q ∈ D ++ L, q.1 ≠ (pt t s k).toNat)
    (next : ∀ h' : Hp, fm 9 11 h0 h' → SO h' (pfd t s (d + 1) k ++ L) → OA h' D → DP h' (D ++ (pfd t s (d + 1) k ++ L)) → Ok shM 0 0 mX9_goes 54 [some (pR 0), none, some (pI (D.length : Int)), some (pI ((pfd t s (d + 1) k ++ L).length : Int)), some (pI (s : Int)), some (pI ((k : Int) + -1))] [] h' P) :
    Ok shM 0 0 mX9_goes 54 [some (pR 0), none, some (pI (D.length : Int)), some (pI (L.length : Int)), some (pI (s : Int)), some (pI (k : Int))] [] h P := by
  have R := R0.kp x (by decide)
  have hm := R.m
  have hs := (tr_at ht).1
  have hp := R.p hs hk3
  have h0p := (f.2.2.2 k hk3).1 hk
  have hc : (pt t s k).toNat ∈ ch t s := mem_ch.mpr ⟨k, hk3, h0p, rfl⟩
  have h2 := tr_at (tr_ch ht hc)
  refine sX9_goes_54 ⟨fun c => absurd c (by omega), fun _ => ⟨by unfold inR; omega, by unfold inR; omega, ⟨3 * s + k, by omega, by omega, ⟨L.length, rfl, by omega, ⟨s, rfl, by omega, ?_⟩⟩⟩⟩⟩
  rw [hp, hP (s, d) (List.mem_append_left _ hsd), hA_at, if_pos ⟨rfl, rfl⟩]
  refine ⟨by unfold inR; show _ ∧ _; simp only; omega, ⟨(pt t s k).toNat, by omega, by omega, by unfold inR; omega, by unfold inR; omega, ?_⟩⟩
  have hn : pfd t s (d + 1) k = [((pt t s k).toNat, d + 1)] := by
    unfold pfd pf
    rw [if_pos h0p]
    rfl
  have := next (hA (hA h 11 L.length (pt t s k)) 10 (pt t s k).toNat ((d : Int) + 1)) ((x.A ⟨by decide, by decide⟩).A ⟨by decide, by decide⟩) (by
      rw [hn]
      refine ⟨?_, SO_eq hS (fun j hj => ?_)⟩
      · show (hA (hA h 11 L.length (pt t s k)) 10 (pt t s k).toNat ((d : Int) + 1)).1 11 L.length = ((pt t s k).toNat : Int)
        rw [hA_at, if_neg (by omega), hA_at, if_pos ⟨rfl, rfl⟩]
        omega
      · have hj : j < L.length := hj
        rw [hA_at, if_neg (by omega), hA_at, if_neg (by omega)]) (by
      intro i q hi
      rw [hA_at, if_neg (by omega), hA_at, if_neg (by omega)]
      exact hO i q hi) (by
      rw [hn]
      intro q hq
      rcases List.mem_append.mp hq with hq | hq
      · rw [hA_at, if_neg (fun e => hne q (List.mem_append_left _ hq) e.2), hA_at, if_neg (by omega)]
        exact hP q (List.mem_append_left _ hq)
      · rcases List.mem_cons.mp hq with rfl | hq
        · rw [hA_at, if_pos ⟨rfl, rfl⟩]
          rfl
        · rw [hA_at, if_neg (fun e => hne q (List.mem_append_right _ hq) e.2), hA_at, if_neg (by omega)]
          exact hP q (List.mem_append_right _ hq))
  rw [hn] at this
  exact this
theorem pf_nil {s k d : Nat} (f : fl t s) (hk3 : k < 3) (hk : ar t s ≤ k) : pfd t s d k = [] := by
  unfold pfd pf
  rw [if_neg (by have := (f.2.2.2 k hk3).2 hk; omega)]
  rfl
theorem ar_3 {s : Nat} (f : fl t s) : ar t s ≤ 3 := by
  unfold ar
  split
  · decide
  · split
    · decide
    · split
      · decide
      · split
        · rename_i h6
          have := (f.2.2.1 h6).2.2
          omega
        · decide
theorem m_goes {h : Hp} {P : Int → Hp → Prop} (R : RM t h) {z : Nat} (hz : tr t 40 z) (hf : ∀ q ∈ pre t 40 1 z, fl t q.1) (p : ∀ h' : Hp, fm 9 11 h h' → OA h' (pre t 40 1 z) → DP h' (pre t 40 1 z) → P ((pre t 40 1 z).length : Int) h') : Cl shM mX9_goes [pR 0, pI (z : Int)] h P := by
  have hm := R.m
  have hfull := pre_len (d := 1) hz
  have hz1 := (tr_at hz).1
  have hnd : (pre t 40 1 z).Pairwise df := pre_nodup hz
  have key : ∀ (n : Nat) (h1 : Hp) (L D : List (Nat × Nat)), D.length + n = (pre t 40 1 z).length → fm 9 11 h h1 → SO h1 L → okS L → trS t L → OA h1 D → DP h1 (D ++ L) → D ++ restS t L = pre t 40 1 z → Ok shM 0 0 mX9_goes 18 [some (pR 0), none, some (pI (D.length : Int)), some (pI (L.length : Int)), none, none] [] h1 P := by
    intro n
    induction n with
    | zero =>
      intro h1 L D hn x hS ho ht hD hP he
      have hl : (restS t L).length = 0 := by
        have := congrArg List.length he
        rw [List.length_append] at this
        omega
      have hL : L = [] := by
        cases L with
        | nil => rfl
        | cons q L =>
          have hq := ht q List.mem_cons_self
          have : restS t (q :: L) = pre t (41 - q.2) q.2 q.1 ++ restS t L := rfl
          rw [this, show 41 - q.2 = (40 - q.2) + 1 by omega] at hl
          simp [pre] at hl
      subst hL
      refine sX9_goes_18 ⟨fun _ => ?_, fun c => absurd (Int.le_refl 0) c⟩
      have he : D = pre t 40 1 z := by
        rw [← he]
        simp [restS]
      rw [List.append_nil] at hP
      rw [← he] at p
      exact p h1 x hD hP
    | succ n ih =>
      intro h1 L D hn x hS ho ht hD hP he
      have hL80 := okS_len ho (fun q hq => (ht q hq).2.1)
      cases L with
      | nil =>
        have := congrArg List.length he
        simp [restS] at this
        omega
      | cons q L =>
        obtain ⟨s, d⟩ := q
        have hq := ht (s, d) List.mem_cons_self
        have hq1 : 1 ≤ d ∧ d ≤ 40 := ⟨hq.1, hq.2.1⟩
        have hq2 : tr t (41 - d) s := hq.2.2
        simp only [List.length_cons] at hL80
        have hlen : (((s, d) :: L).length : Int) = (L.length : Int) + 1 := by simp
        have hsm := (tr_at hq2).1
        have e3 : restS t ((s, d) :: L) = pre t (41 - d) d s ++ restS t L := rfl
        have e4 : pre t (41 - d) d s = (s, d) :: (ch t s).flatMap (pre t (41 - (d + 1)) (d + 1)) := by
          rw [show 41 - d = (41 - (d + 1)) + 1 by omega]
          rfl
        have hfs : fl t s := hf (s, d) (by
          rw [← he, e3, e4]
          simp)
        have R1 := R.kp x (by decide)
        have hsd : h1.1 11 L.length = (s : Int) := hS.1
        refine sX9_goes_18 ⟨fun c => absurd c (by omega), fun _ => ⟨by unfold inR; omega, ⟨L.length, by omega, by omega, ⟨D.length, rfl, by omega, by unfold inR; omega, ?_⟩⟩⟩⟩
        rw [hsd]
        have x2 : fm 9 11 h (hA h1 9 D.length (s : Int)) := x.A ⟨by decide, by decide⟩
        refine m_partsOf (R.kp x2 (by decide)) hsm hfs ⟨by have := ar_3 hfs; unfold inR; omega, ?_⟩
        have hO2 : OA (hA h1 9 D.length (s : Int)) (D ++ [(s, d)]) := by
          intro i q hi
          by_cases hl : i < D.length
          · rw [List.getElem?_append_left hl] at hi
            rw [hA_at, if_neg (by omega)]
            exact hD i q hi
          · rw [List.getElem?_append_right (by omega)] at hi
            have h0 : i - D.length = 0 := by
              have := (List.getElem?_eq_some_iff.mp hi).1
              simp at this
              omega
            rw [h0] at hi
            cases hi
            rw [hA_at, if_pos ⟨rfl, by omega⟩]
        have hS2 : SO (hA h1 9 D.length (s : Int)) L := SO_eq hS.2 (fun j _ => by rw [hA_at, if_neg (by omega)])
        have hP2 : DP (hA h1 9 D.length (s : Int)) ((D ++ [(s, d)]) ++ L) := by
          intro q hq
          rw [hA_at, if_neg (by omega)]
          exact hP q (by simpa using hq)
        have hch : pfd t s (d + 1) 0 ++ (pfd t s (d + 1) 1 ++ (pfd t s (d + 1) 2 ++ L)) = (ch t s).map (fun c => (c, d + 1)) ++ L := by
          unfold pfd
          rw [ch_eq]
          simp
        have htc : ∀ c ∈ ch t s, tr t (41 - (d + 1)) c ∧ d + 1 ≤ 40 := by
          intro c hc
          have h1 := tr_ch hq2 hc
          rw [show 41 - d - 1 = 41 - (d + 1) by omega] at h1
          refine ⟨h1, ?_⟩
          rcases Nat.lt_or_ge 40 (d + 1) with q | q
          · rw [show 41 - (d + 1) = 0 by omega] at h1
            exact h1.elim
          · exact q
        have ht5 : trS t ((ch t s).map (fun c => (c, d + 1)) ++ L) := by
          intro q hq
          rcases List.mem_append.mp hq with hq | hq
          · obtain ⟨c, hc, rfl⟩ := List.mem_map.mp hq
            have := htc c hc
            exact ⟨by show 1 ≤ d + 1; omega, this.2, this.1⟩
          · exact ht q (List.mem_cons_of_mem _ hq)
        have he5 : (D ++ [(s, d)]) ++ restS t ((ch t s).map (fun c => (c, d + 1)) ++ L) = pre t 40 1 z := by
          rw [← he]
          have e5 : restS t ((ch t s).map (fun c => (c, d + 1)) ++ L) = (ch t s).flatMap (pre t (41 - (d + 1)) (d + 1)) ++ restS t L := by
            unfold restS
            rw [List.flatMap_append, List.flatMap_map]
          rw [e3, e4, e5]
          simp
        have hpw : ((D ++ [(s, d)]) ++ (pfd t s (d + 1) 0 ++ (pfd t s (d + 1) 1 ++ (pfd t s (d + 1) 2 ++ L)))).Pairwise df := by
          rw [hch]
          rw [← he5] at hnd
          exact hnd.sublist (List.Sublist.append (List.Sublist.refl _) (rest_sub ht5))
        have hmem : ∀ k, k < ar t s → k < 3 → ((pt t s k).toNat, d + 1) ∈ pfd t s (d + 1) k := by
          intro k hk hk3
          unfold pfd pf
          rw [if_pos ((hfs.2.2.2 k hk3).1 hk)]
          simp
        have fin : ∀ h5, fm 9 11 h h5 → SO h5 ((ch t s).map (fun c => (c, d + 1)) ++ L) → OA h5 (D ++ [(s, d)]) → DP h5 ((D ++ [(s, d)]) ++ ((ch t s).map (fun c => (c, d + 1)) ++ L)) → Ok shM 0 0 mX9_goes 54 [some (pR 0), none, some (pI ((D ++ [(s, d)]).length : Int)), some (pI (((ch t s).map (fun c => (c, d + 1)) ++ L).length : Int)), some (pI (s : Int)), some (pI (-1))] [] h5 P := by
          intro h5 x5 hS5 hO5 hP5
          refine sX9_goes_54 ⟨fun _ => ?_, fun c => absurd (show (-1 : Int) < 0 by decide) c⟩
          have hol := ho.1
          have hol : L.length + 2 ≤ 2 * d := hol
          refine ih h5 _ (D ++ [(s, d)]) (by simp; omega) x5 hS5 ?_ ht5 hO5 hP5 he5
          have hlen : (ch t s).length ≤ 3 := by
            rw [ch_eq]
            unfold pf
            simp only [List.length_append]
            split <;> split <;> split <;> simp
          have gen : ∀ cs : List Nat, cs.length ≤ 3 → okS (cs.map (fun c => (c, d + 1)) ++ L) := by
            intro cs
            induction cs with
            | nil => exact fun _ => ho.2
            | cons c cs ih2 =>
              intro hc
              refine ⟨?_, ih2 (by simp at hc; omega)⟩
              simp at hc
              simp
              omega
          exact gen _ hlen
        have hDl : (D ++ [(s, d)]).length ≤ 600 := by simp; omega
        have hsdm : (s, d) ∈ D ++ [(s, d)] := by simp
        have l2 := pfd_len t s (d + 1) 2
        have l1 := pfd_len t s (d + 1) 1
        have a1 : ∀ {A B C : List (Nat × Nat)} {b : Nat × Nat}, (A ++ (B ++ C)).Pairwise df → b ∈ B → ∀ q ∈ A ++ C, q.1 ≠ b.1 := by
          intro A B C b hp hb q hq
          rw [List.pairwise_append, List.pairwise_append] at hp
          rcases List.mem_append.mp hq with hq | hq
          · exact hp.2.2 q hq b (List.mem_append_left _ hb)
          · exact fun e => hp.2.1.2.2 b hb q hq e.symm
        have hD' : ((D ++ [(s, d)]).length : Int) = (D.length : Int) + 1 := by simp
        rw [show (D.length : Int) + 1 = ((D ++ [(s, d)]).length : Int) by omega, show (((s, d) :: L).length : Int) + -1 = (L.length : Int) by omega]
        have st0 : ∀ h4, fm 9 11 h h4 → SO h4 (pfd t s (d + 1) 1 ++ (pfd t s (d + 1) 2 ++ L)) → OA h4 (D ++ [(s, d)]) → DP h4 ((D ++ [(s, d)]) ++ (pfd t s (d + 1) 1 ++ (pfd t s (d + 1) 2 ++ L))) → 0 < ar t s → Ok shM 0 0 mX9_goes 54 [some (pR 0), none, some (pI ((D ++ [(s, d)]).length : Int)), some (pI ((pfd t s (d + 1) 1 ++ (pfd t s (d + 1) 2 ++ L)).length : Int)), some (pI (s : Int)), some (pI ((0 : Nat) : Int))] [] h4 P := by
          intro h4 x4 hS4 hO4 hP4 har
          refine m_push (k := 0) R x4 har (by decide) hq2 hfs hq1 hS4 hO4 hP4 hsdm (by rw [List.length_append, List.length_append]; omega) hDl (a1 hpw (hmem 0 har (by decide))) (fun h5 x5 hS5 hO5 hP5 => ?_)
          rw [hch] at hS5 hP5 ⊢
          exact fin h5 x5 hS5 hO5 hP5
        have st1 : ∀ h4, fm 9 11 h h4 → SO h4 (pfd t s (d + 1) 2 ++ L) → OA h4 (D ++ [(s, d)]) → DP h4 ((D ++ [(s, d)]) ++ (pfd t s (d + 1) 2 ++ L)) → 1 < ar t s → Ok shM 0 0 mX9_goes 54 [some (pR 0), none, some (pI ((D ++ [(s, d)]).length : Int)), some (pI ((pfd t s (d + 1) 2 ++ L).length : Int)), some (pI (s : Int)), some (pI ((1 : Nat) : Int))] [] h4 P := by
          intro h4 x4 hS4 hO4 hP4 har
          have hpw1 : ((D ++ [(s, d)] ++ pfd t s (d + 1) 0) ++ (pfd t s (d + 1) 1 ++ (pfd t s (d + 1) 2 ++ L))).Pairwise df := by
            rw [List.append_assoc (D ++ [(s, d)])]
            exact hpw
          refine m_push (k := 1) R x4 har (by decide) hq2 hfs hq1 hS4 hO4 hP4 hsdm (by rw [List.length_append]; omega) hDl (fun q hq => a1 hpw1 (hmem 1 har (by decide)) q (by
            rcases List.mem_append.mp hq with hq | hq
            · exact List.mem_append_left _ (List.mem_append_left _ hq)
            · exact List.mem_append_right _ hq)) (fun h5 x5 hS5 hO5 hP5 => st0 h5 x5 hS5 hO5 hP5 (by omega))
        have st2 : ∀ h4, fm 9 11 h h4 → SO h4 L → OA h4 (D ++ [(s, d)]) → DP h4 ((D ++ [(s, d)]) ++ L) → 2 < ar t s → Ok shM 0 0 mX9_goes 54 [some (pR 0), none, some (pI ((D ++ [(s, d)]).length : Int)), some (pI (L.length : Int)), some (pI (s : Int)), some (pI ((2 : Nat) : Int))] [] h4 P := by
          intro h4 x4 hS4 hO4 hP4 har
          have hpw2 : ((D ++ [(s, d)] ++ pfd t s (d + 1) 0 ++ pfd t s (d + 1) 1) ++ (pfd t s (d + 1) 2 ++ L)).Pairwise df := by
            rw [List.append_assoc (D ++ [(s, d)] ++ pfd t s (d + 1) 0), List.append_assoc (D ++ [(s, d)])]
            exact hpw
          refine m_push (k := 2) R x4 har (by decide) hq2 hfs hq1 hS4 hO4 hP4 hsdm (by omega) hDl (fun q hq => a1 hpw2 (hmem 2 har (by decide)) q (by
            rcases List.mem_append.mp hq with hq | hq
            · exact List.mem_append_left _ (List.mem_append_left _ (List.mem_append_left _ hq))
            · exact List.mem_append_right _ hq)) (fun h5 x5 hS5 hO5 hP5 => st1 h5 x5 hS5 hO5 hP5 (by omega))
        have har3 := ar_3 hfs
        rcases (by omega : ar t s = 0 ∨ ar t s = 1 ∨ ar t s = 2 ∨ ar t s = 3) with q | q | q | q
        · have n0 := pf_nil (d := d + 1) hfs (show 0 < 3 by decide) (by omega)
          have n1 := pf_nil (d := d + 1) hfs (show 1 < 3 by decide) (by omega)
          have n2 := pf_nil (d := d + 1) hfs (show 2 < 3 by decide) (by omega)
          rw [n0, n1, n2] at hch
          have hch : L = (ch t s).map (fun c => (c, d + 1)) ++ L := hch
          rw [q]
          have := fin _ x2 (by rw [← hch]; exact hS2) hO2 (by rw [← hch]; exact hP2)
          rw [← hch] at this
          exact this
        · have n1 := pf_nil (d := d + 1) hfs (show 1 < 3 by decide) (by omega)
          have n2 := pf_nil (d := d + 1) hfs (show 2 < 3 by decide) (by omega)
          have := st0 _ x2 (by rw [n1, n2]; exact hS2) hO2 (by rw [n1, n2]; exact hP2) (by omega)
          rw [n1, n2] at this
          rw [q]
          exact this
        · have n2 := pf_nil (d := d + 1) hfs (show 2 < 3 by decide) (by omega)
          have := st1 _ x2 (by rw [n2]; exact hS2) hO2 (by rw [n2]; exact hP2) (by omega)
          rw [n2] at this
          rw [q]
          exact this
        · rw [q]
          exact st2 _ x2 hS2 hO2 hP2 (by omega)
  refine sX9_goes_0 ⟨z, rfl, by omega, ?_⟩
  refine key (pre t 40 1 z).length _ [(z, 1)] [] (by simp) ((fm.rf.A ⟨by decide, by decide⟩).A ⟨by decide, by decide⟩) ⟨?_, trivial⟩ ⟨by simp, trivial⟩ ?_ (fun i q hi => by simp at hi) ?_ ?_
  · show (hA (hA h 11 0 (z : Int)) 10 z 1).1 11 0 = (z : Int)
    rw [hA_at, if_neg (by omega), hA_at, if_pos ⟨rfl, rfl⟩]
  · intro q hq
    rcases List.mem_singleton.mp hq with rfl
    exact ⟨Nat.le_refl _, by show 1 ≤ 40; decide, hz⟩
  · intro q hq
    rcases List.mem_singleton.mp hq with rfl
    show (hA (hA h 11 0 (z : Int)) 10 z 1).1 10 z = ((1 : Nat) : Int)
    rw [hA_at, if_pos ⟨rfl, rfl⟩]
    rfl
  · simp [restS]
end MG
