/-! THE CLASS: Walk.over -/
def SA (h : Hp) (a b : Nat) : List (Nat × Nat) → Prop
  | [] => True
  | q :: L => h.1 a L.length = (q.1 : Int) ∧ h.1 b L.length = (q.2 : Int) ∧ SA h a b L
def DA (h : Hp) (a b : Nat) (D : List (Nat × Nat)) : Prop := ∀ (i : Nat) (q : Nat × Nat), D[i]? = some q → h.1 a i = (q.1 : Int) ∧ h.1 b i = (q.2 : Int)
def okS : List (Nat × Nat) → Prop
  | [] => True
  | q :: L => L.length + 2 ≤ 2 * q.2 ∧ okS L
def trS (t : TV) (L : List (Nat × Nat)) : Prop := ∀ q ∈ L, 1 ≤ q.2 ∧ q.2 ≤ 40 ∧ tr t (41 - q.2) q.1
def restS (t : TV) (L : List (Nat × Nat)) : List (Nat × Nat) := L.flatMap (fun q => pre t (41 - q.2) q.2 q.1)
theorem SA_eq {h h' : Hp} {a b : Nat} : ∀ {L : List (Nat × Nat)}, SA h a b L → (∀ j, j < L.length → h'.1 a j = h.1 a j ∧ h'.1 b j = h.1 b j) → SA h' a b L
  | [], _, _ => trivial
  | q :: L, s, e => ⟨by rw [(e L.length (by simp)).1]; exact s.1, by rw [(e L.length (by simp)).2]; exact s.2.1, SA_eq s.2.2 (fun j hj => e j (by simp; omega))⟩
theorem DA_eq {h h' : Hp} {a b : Nat} {D : List (Nat × Nat)} (d : DA h a b D) (e : ∀ j, j < D.length → h'.1 a j = h.1 a j ∧ h'.1 b j = h.1 b j) : DA h' a b D := by
  intro i q hi
  have := e i (List.getElem?_eq_some_iff.mp hi).1
  rw [this.1, this.2]
  exact d i q hi
theorem DA_snoc {h h' : Hp} {a b : Nat} {D : List (Nat × Nat)} {q : Nat × Nat} (d : DA h a b D) (e : ∀ j, j < D.length → h'.1 a j = h.1 a j ∧ h'.1 b j = h.1 b j) (h1 : h'.1 a D.length = (q.1 : Int)) (h2 : h'.1 b D.length = (q.2 : Int)) : DA h' a b (D ++ [q]) := by
  intro i r hi
  by_cases hl : i < D.length
  · rw [List.getElem?_append_left hl] at hi
    exact DA_eq d e i r hi
  · rw [List.getElem?_append_right (by omega)] at hi
    have h0 : i - D.length = 0 := by
      have := (List.getElem?_eq_some_iff.mp hi).1
      simp at this
      omega
    rw [h0] at hi
    cases hi
    rw [show i = D.length by omega]
    exact ⟨h1, h2⟩
theorem okS_len : ∀ {L : List (Nat × Nat)}, okS L → (∀ q ∈ L, q.2 ≤ 40) → L.length ≤ 79
  | [], _, _ => by simp
  | q :: L, o, e => by
    have := o.1
    have := e q List.mem_cons_self
    simp only [List.length_cons]
    omega
/-- what the pushes of one step's parts leave: part k, .. of step s ahead of L -/
def pfd (t : TV) (s d k : Nat) : List (Nat × Nat) := (pf t s k).map (fun c => (c, d))
theorem pfd_len (t : TV) (s d k : Nat) : (pfd t s d k).length ≤ 1 := by
  unfold pfd pf
  split <;> simp
section OVER
variable {t : TV} {w : Nat}
theorem RC.wk {h h' : Hp} (R : RC t h) (hw : isW w) (x : fr w (w + 4) h h') : RC t h' := R.kp x (Or.inl (by rcases hw with rfl | rfl | rfl <;> decide))
theorem over_push {h0 h : Hp} {P : Int → Hp → Prop} (hw : isW w) (R0 : RC t h0) (x : fr w (w + 4) h0 h) {s d k : Nat} (hk : k < 3) (ht : tr t (41 - d) s) (hd : 1 ≤ d ∧ d ≤ 40) {L D : List (Nat × Nat)} (hS : SA h (w + 3) (w + 4) L) (hD : DA h (w + 1) (w + 2) D) (hsz : h.2.1 w 4 = (D.length : Int)) (hL : L.length ≤ 80)
    (next : ∀ h' : Hp, fr w (w + 4) h0 h' → SA h' (w + 3) (w + 4) (pfd t s (d + 1) k ++ L) → DA h' (w + 1) (w + 2) D → h'.2.1 w 4 = (D.length : Int) → Ok shC 0 0 mX6_over 101 [some (pR w), some (pR 2), none, some (pI ((pfd t s (d + 1) k ++ L).length : Int)), some (pI (s : Int)), some (pI (d : Int)), some (pI ((k : Int) + -1)), none] [] h' P) :
    Ok shC 0 0 mX6_over 101 [some (pR w), some (pR 2), none, some (pI (L.length : Int)), some (pI (s : Int)), some (pI (d : Int)), some (pI (k : Int)), none] [] h P := by
  have R := R0.wk hw x
  have hm := R.m
  have hs := (tr_at ht).1
  have hp := R.p hs hk
  have hpk : pt t s k < 0 ∨ (0 ≤ pt t s k ∧ al t (pt t s k)) := by
    by_cases q : pt t s k < 0
    · exact Or.inl q
    · have hc : (pt t s k).toNat ∈ ch t s := mem_ch.mpr ⟨k, hk, by omega, rfl⟩
      have h2 := tr_at (tr_ch ht hc)
      exact Or.inr ⟨by omega, by omega, by omega, h2.2⟩
  refine sX6_over_101 hw ⟨fun c => absurd c (by omega), fun _ => ⟨by unfold inR; omega, by unfold inR; omega, ⟨3 * s + k, by omega, by omega, ?_⟩⟩⟩
  rw [hp]
  refine c_Rows_isStep R _ ⟨fun c => ⟨by unfold inR; omega, ?_⟩, fun c => ⟨fun c2 => absurd c2 (by omega), fun _ => ⟨L.length, rfl, by omega, by unfold inR; omega, by unfold inR; omega, by unfold inR; omega, ?_⟩⟩⟩
  · rw [b2_0] at c
    have hn : pfd t s (d + 1) k = [] := by
      unfold pfd pf
      rw [if_neg (by rcases hpk with q | q; omega; exact absurd q.2 c)]
      rfl
    have := next h x (by rw [hn]; exact hS) hD hsz
    rw [hn] at this
    exact this
  · rw [b2_n0] at c
    have hn : pfd t s (d + 1) k = [((pt t s k).toNat, d + 1)] := by
      unfold pfd pf
      rw [if_pos c.1]
      rfl
    have := next (hA (hA h (w + 3) L.length (pt t s k)) (w + 4) L.length ((d : Int) + 1)) ((x.A ⟨by omega, by omega⟩).A ⟨by omega, by omega⟩) (by
        rw [hn]
        refine ⟨?_, ?_, SA_eq hS (fun j hj => ⟨?_, ?_⟩)⟩
        · rw [hA_at, if_neg (by omega), hA_at, if_pos ⟨rfl, rfl⟩]
          show pt t s k = ((pt t s k).toNat : Int)
          have := c.1
          omega
        · rw [hA_at, if_pos ⟨rfl, rfl⟩]
          rfl
        · have hj : j < L.length := hj
          rw [hA_at, if_neg (by omega), hA_at, if_neg (by omega)]
        · have hj : j < L.length := hj
          rw [hA_at, if_neg (by omega), hA_at, if_neg (by omega)]) (DA_eq hD (fun j hj => by
        rw [hA_at, if_neg (by omega), hA_at, if_neg (by omega), hA_at, if_neg (by omega), hA_at, if_neg (by omega)]
        exact ⟨rfl, rfl⟩)) hsz
    rw [hn] at this
    exact this
theorem c_over {h : Hp} {P : Int → Hp → Prop} (hw : isW w) (R : RC t h) (z : Int) (hz : al t z → tr t 40 z.toNat) (p : ∀ h' : Hp, fr w (w + 4) h h' → h'.2.1 w 4 = ((plist t z).length : Int) → DA h' (w + 1) (w + 2) (plist t z) → P 0 h') : Cl shC mX6_over [pR w, pR 2, pI z] h P := by
  have hm := R.m
  have hfull := plist_len hz
  have key : ∀ (n : Nat) (h1 : Hp) (L D : List (Nat × Nat)), D.length + n = (plist t z).length → fr w (w + 4) h h1 → SA h1 (w + 3) (w + 4) L → okS L → trS t L → DA h1 (w + 1) (w + 2) D → h1.2.1 w 4 = (D.length : Int) → D ++ restS t L = plist t z → Ok shC 0 0 mX6_over 33 [some (pR w), some (pR 2), none, some (pI (L.length : Int)), none, none, none, none] [] h1 P := by
    intro n
    induction n with
    | zero =>
      intro h1 L D hn x hS ho ht hD hsz he
      have hl : (restS t L).length = 0 := by
        have := congrArg List.length he
        rw [List.length_append] at this
        omega
      have hL : L = [] := by
        cases L with
        | nil => rfl
        | cons q L =>
          have hq := ht q List.mem_cons_self
          have : restS t (q :: L) = pre t (41 - q.2) q.2 q.1 ++ restS t L := rfl
          rw [this, show 41 - q.2 = (40 - q.2) + 1 by omega] at hl
          simp [pre] at hl
      subst hL
      refine sX6_over_33 hw ⟨fun _ => ?_, fun c => absurd (Int.le_refl 0) c⟩
      have he : D = plist t z := by
        rw [← he]
        simp [restS]
      rw [← he] at p
      exact p h1 x hsz hD
    | succ n ih =>
      intro h1 L D hn x hS ho ht hD hsz he
      have hL80 := okS_len ho (fun q hq => (ht q hq).2.1)
      cases L with
      | nil =>
        have := congrArg List.length he
        simp [restS] at this
        omega
      | cons q L =>
        obtain ⟨s, d⟩ := q
        have hq := ht (s, d) List.mem_cons_self
        have hq1 : 1 ≤ d ∧ d ≤ 40 := ⟨hq.1, hq.2.1⟩
        have hq2 : tr t (41 - d) s := hq.2.2
        simp only [List.length_cons] at hL80
        have hlen : (((s, d) :: L).length : Int) = (L.length : Int) + 1 := by simp
        refine sX6_over_33 hw ⟨fun c => absurd c (by omega), fun _ => ⟨fun c => absurd c (by omega), fun _ => ⟨by unfold inR; omega, ⟨L.length, by omega, by omega, ⟨D.length, hsz, by omega, by rw [hsz]; unfold inR; omega, ?_⟩⟩⟩⟩⟩
        have e1 : h1.1 (w + 3) L.length = (s : Int) := hS.1
        have e2 : h1.1 (w + 4) L.length = (d : Int) := hS.2.1
        rw [e1, e2, hsz]
        have hh : ∀ {a i : Nat}, (hI (hA (hA h1 (w + 1) D.length (s : Int)) (w + 2) D.length (d : Int)) w 4 ((D.length : Int) + 1)).1 a i = if a = w + 2 ∧ i = D.length then (d : Int) else if a = w + 1 ∧ i = D.length then (s : Int) else h1.1 a i := fun {a i} => rfl
        have x2 : fr w (w + 4) h (hI (hA (hA h1 (w + 1) D.length (s : Int)) (w + 2) D.length (d : Int)) w 4 ((D.length : Int) + 1)) := ((x.A ⟨by omega, by omega⟩).A ⟨by omega, by omega⟩).I ⟨by omega, by omega⟩
        have hD2 : DA (hI (hA (hA h1 (w + 1) D.length (s : Int)) (w + 2) D.length (d : Int)) w 4 ((D.length : Int) + 1)) (w + 1) (w + 2) (D ++ [(s, d)]) := DA_snoc hD (fun j hj => by
            rw [hh, hh, if_neg (by omega), if_neg (by omega), if_neg (by omega), if_neg (by omega)]
            exact ⟨rfl, rfl⟩) (by rw [hh, if_neg (by omega), if_pos ⟨rfl, rfl⟩]) (by rw [hh, if_pos ⟨rfl, rfl⟩])
        have hS2 : SA (hI (hA (hA h1 (w + 1) D.length (s : Int)) (w + 2) D.length (d : Int)) w 4 ((D.length : Int) + 1)) (w + 3) (w + 4) L := SA_eq hS.2.2 (fun j hj => by
            rw [hh, hh, if_neg (by omega), if_neg (by omega), if_neg (by omega), if_neg (by omega)]
            exact ⟨rfl, rfl⟩)
        have hz2 : (hI (hA (hA h1 (w + 1) D.length (s : Int)) (w + 2) D.length (d : Int)) w 4 ((D.length : Int) + 1)).2.1 w 4 = ((D ++ [(s, d)]).length : Int) := by
          rw [hI_at, if_pos ⟨rfl, rfl⟩]
          simp
        rw [show (((s, d) :: L).length : Int) + -1 = (L.length : Int) by omega]
        refine over_push (k := 2) hw R x2 (by decide) hq2 hq1 hS2 hD2 hz2 (by omega) (fun h3 x3 hS3 hD3 hz3 => ?_)
        have l2 := pfd_len t s (d + 1) 2
        refine over_push (k := 1) hw R x3 (by decide) hq2 hq1 hS3 hD3 hz3 (by rw [List.length_append]; omega) (fun h4 x4 hS4 hD4 hz4 => ?_)
        have l1 := pfd_len t s (d + 1) 1
        refine over_push (k := 0) hw R x4 (by decide) hq2 hq1 hS4 hD4 hz4 (by rw [List.length_append, List.length_append]; omega) (fun h5 x5 hS5 hD5 hz5 => ?_)
        have l0 := pfd_len t s (d + 1) 0
        refine sX6_over_101 hw ⟨fun _ => ?_, fun c => absurd (show ((0 : Nat) : Int) + -1 < 0 by decide) c⟩
        have hch : pfd t s (d + 1) 0 ++ (pfd t s (d + 1) 1 ++ (pfd t s (d + 1) 2 ++ L)) = (ch t s).map (fun c => (c, d + 1)) ++ L := by
          unfold pfd
          rw [ch_eq]
          simp
        rw [hch] at hS5 ⊢
        have hol := ho.1
        have hol : L.length + 2 ≤ 2 * d := hol
        have htc : ∀ c ∈ ch t s, tr t (41 - (d + 1)) c ∧ d + 1 ≤ 40 := by
          intro c hc
          have h1 := tr_ch hq2 hc
          rw [show 41 - d - 1 = 41 - (d + 1) by omega] at h1
          refine ⟨h1, ?_⟩
          rcases Nat.lt_or_ge 40 (d + 1) with q | q
          · rw [show 41 - (d + 1) = 0 by omega] at h1
            exact h1.elim
          · exact q
        refine ih h5 _ (D ++ [(s, d)]) (by simp; omega) x5 hS5 ?_ ?_ hD5 hz5 ?_
        · have hlen : (ch t s).length ≤ 3 := by
            rw [ch_eq]
            unfold pf
            simp only [List.length_append]
            split <;> split <;> split <;> simp
          have gen : ∀ cs : List Nat, cs.length ≤ 3 → okS (cs.map (fun c => (c, d + 1)) ++ L) := by
            intro cs
            induction cs with
            | nil => exact fun _ => ho.2
            | cons c cs ih2 =>
              intro hc
              refine ⟨?_, ih2 (by simp at hc; omega)⟩
              simp at hc
              simp
              omega
          exact gen _ hlen
        · intro q hq
          rcases List.mem_append.mp hq with hq | hq
          · obtain ⟨c, hc, rfl⟩ := List.mem_map.mp hq
            have := htc c hc
            exact ⟨by show 1 ≤ d + 1; omega, this.2, this.1⟩
          · exact ht q (List.mem_cons_of_mem _ hq)
        · rw [← he]
          have e3 : restS t ((s, d) :: L) = pre t (41 - d) d s ++ restS t L := rfl
          have e4 : pre t (41 - d) d s = (s, d) :: (ch t s).flatMap (pre t (41 - (d + 1)) (d + 1)) := by
            rw [show 41 - d = (41 - (d + 1)) + 1 by omega]
            rfl
          have e5 : restS t ((ch t s).map (fun c => (c, d + 1)) ++ L) = (ch t s).flatMap (pre t (41 - (d + 1)) (d + 1)) ++ restS t L := by
            unfold restS
            rw [List.flatMap_append, List.flatMap_map]
          rw [e3, e4, e5]
          simp
  have hh : ∀ {a i : Nat}, (hA (hA (hI h w 4 0) (w + 3) 0 z) (w + 4) 0 1).1 a i = if a = w + 4 ∧ i = 0 then 1 else if a = w + 3 ∧ i = 0 then z else h.1 a i := fun {a i} => rfl
  have x0 : fr w (w + 4) h (hA (hA (hI h w 4 0) (w + 3) 0 z) (w + 4) 0 1) := ((fr.rf.I ⟨by omega, by omega⟩).A ⟨by omega, by omega⟩).A ⟨by omega, by omega⟩
  refine sX6_over_0 hw (c_Rows_isStep (R.wk hw x0) z ⟨fun c => ?_, fun c => ?_⟩)
  · rw [b2_0] at c
    have hp0 : plist t z = [] := if_neg c
    exact key 0 _ [] [] (by rw [hp0]; rfl) x0 trivial trivial (fun q hq => by cases hq) (fun i q hi => by simp at hi) (by show (if w = w ∧ 4 = 4 then (0 : Int) else h.2.1 w 4) = _; rw [if_pos ⟨rfl, rfl⟩]; rfl) (by rw [hp0]; rfl)
  · rw [b2_n0] at c
    have hp0 : plist t z = pre t 40 1 z.toNat := if_pos c
    refine key (plist t z).length _ [(z.toNat, 1)] [] (by simp) x0 ?_ ⟨by simp, trivial⟩ ?_ (fun i q hi => by simp at hi) (by show (if w = w ∧ 4 = 4 then (0 : Int) else h.2.1 w 4) = _; rw [if_pos ⟨rfl, rfl⟩]; rfl) ?_
    · refine ⟨?_, ?_, trivial⟩
      · show (hA (hA (hI h w 4 0) (w + 3) 0 z) (w + 4) 0 1).1 (w + 3) 0 = (z.toNat : Int)
        rw [hh, if_neg (by omega), if_pos ⟨rfl, rfl⟩]
        have := c.1
        omega
      · show (hA (hA (hI h w 4 0) (w + 3) 0 z) (w + 4) 0 1).1 (w + 4) 0 = ((1 : Nat) : Int)
        rw [hh, if_pos ⟨rfl, rfl⟩]
        rfl
    · intro q hq
      rcases List.mem_singleton.mp hq with rfl
      exact ⟨Nat.le_refl _, by show 1 ≤ 40; decide, hz c⟩
    · rw [hp0]
      simp [restS]
end OVER
