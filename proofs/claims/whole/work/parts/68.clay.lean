/-! THE CLASS: layOut -/
section CLY
variable {st : St} {P : Int → Hp → Prop}
theorem wr_k (z : Int) : ∃ k : Int, wr z = z + 4294967296 * k := by
  have h : wr z = Int.bmod z (2 ^ 32) := Int32.toInt_ofInt
  rw [h]
  refine ⟨-((z - Int.bmod z (2 ^ 32)) / 4294967296), ?_⟩
  have h2 : (Int.bmod z (2 ^ 32)) % ((2 ^ 32 : Nat) : Int) = z % ((2 ^ 32 : Nat) : Int) := Int.bmod_emod
  have e : ((2 ^ 32 : Nat) : Int) = 4294967296 := by decide
  rw [e] at h2
  omega
theorem wr_pop {g x : Int} (hg : inR g) : wr (wr (g + x) - x) = g := by
  obtain ⟨k, h1⟩ := wr_k (g + x)
  obtain ⟨k2, h2⟩ := wr_k (wr (g + x) - x)
  have h3 := wr_in (wr (g + x) - x)
  unfold inR at hg h3
  omega
/-- the picked places -/
def PK (p : List Nat) (h : Hp) : Prop := h.2.1 40 9 = (p.length : Int) ∧ ∀ (i x : Nat), p[i]? = some x → h.1 45 i = (x : Int)
/-- the best up to now is written down -/
def LB (st : St) (L B : List Nat) (h : Hp) : Prop := h.2.1 40 10 = gl (GL st L) B ∧ h.2.1 40 11 = wl (WL st L) B ∧ h.2.1 40 12 = (B.length : Int) ∧ ∀ (i x : Nat), B[i]? = some x → h.1 44 i = ((L.getD x 0 : Nat) : Int)
theorem LKc.kp {L : List Nat} {h h' : Hp} (x : LKc st L h) (e8 : h'.2.1 40 8 = h.2.1 40 8) (e : ∀ a, 41 ≤ a → a ≤ 43 → h'.1 a = h.1 a) : LKc st L h' := by
  refine ⟨e8.trans x.1, fun i s hi => ?_⟩
  rw [e 41 (by decide) (by decide), e 42 (by decide) (by decide), e 43 (by decide) (by decide)]
  exact x.2 i s hi
theorem c_takePicked {h : Hp} {L p : List Nat} (K : LKc st L h) (hL : L.length ≤ 12) (Q : PK p h) (hp : p.length ≤ 12) (hx : ∀ x ∈ p, x < L.length) (k : ∀ h', cf h h' → LKc st L h' → PK p h' → LB st L p h' → P 0 h') : Cl shC mX0_takePicked [pR 40, pI (gl (GL st L) p), pI (wl (WL st L) p)] h P := by
  have key : ∀ (d i : Nat) (h1 : Hp), i + d = p.length → cf h h1 → LKc st L h1 → PK p h1 → (h1.2.1 40 10 = gl (GL st L) p ∧ h1.2.1 40 11 = wl (WL st L) p ∧ h1.2.1 40 12 = (p.length : Int)) → (∀ (j x : Nat), j < i → p[j]? = some x → h1.1 44 j = ((L.getD x 0 : Nat) : Int)) → Ok shC 0 0 mX0_takePicked 20 [some (pR 40), none, none, some (pI (i : Int))] [] h1 P := by
    intro d
    induction d with
    | zero =>
      intro i h1 hi c K1 Q1 b1 b2
      have e : i = p.length := hi
      subst e
      refine sX0_takePicked_20 ?_
      rw [Q1.1]
      exact ⟨fun _ => k h1 c K1 Q1 ⟨b1.1, b1.2.1, b1.2.2, fun j x hj => b2 j x (List.getElem?_eq_some_iff.mp hj).1 hj⟩, fun q => absurd (Int.le_refl _) q⟩
    | succ d ih =>
      intro i h1 hi c K1 Q1 b1 b2
      have hi2 : i < p.length := by omega
      have hpi := getD_some hi2
      have hx1 := hx _ (List.mem_of_getElem? hpi)
      refine sX0_takePicked_20 ?_
      rw [Q1.1]
      refine ⟨fun q => absurd q (by omega), fun _ => ⟨i, rfl, by omega, p.getD i 0, Q1.2 i _ hpi, by omega, by unfold inR; omega, ?_⟩⟩
      rw [(K1.g hx1).1]
      refine ih (i + 1) _ (by omega) (c.A (by decide)) (K1.kp rfl (fun a h1 h2 => by funext q; rw [hA_at, if_neg (by omega)])) ⟨Q1.1, fun j x hj => ?_⟩ b1 (fun j x hj hjx => ?_)
      · rw [hA_at, if_neg (by omega)]
        exact Q1.2 j x hj
      · rw [hA_at]
        by_cases e : j = i
        · rw [if_pos ⟨rfl, e⟩]
          rw [e, hpi] at hjx
          cases hjx
          rfl
        · rw [if_neg (fun q => e q.2)]
          exact b2 j x (by omega) hjx
  refine sX0_takePicked_0 (key p.length 0 _ (by omega) ((cf.rf.I).I.I) (K.kp ?_ (fun _ _ _ => rfl)) ⟨?_, Q.2⟩ ⟨?_, ?_, ?_⟩ (fun j x hj => absurd hj (by omega)))
  · rw [hI_at, if_neg (by omega), hI_at, if_neg (by omega), hI_at, if_neg (by omega)]
  · rw [hI_at, if_neg (by omega), hI_at, if_neg (by omega), hI_at, if_neg (by omega)]
    exact Q.1
  · rw [hI_at, if_neg (by omega), hI_at, if_neg (by omega), hI_at, if_pos ⟨rfl, rfl⟩]
  · rw [hI_at, if_neg (by omega), hI_at, if_pos ⟨rfl, rfl⟩]
  · rw [hI_at, if_pos ⟨rfl, rfl⟩]
    exact Q.1
def cst : Nat → Nat
  | 0 => 0
  | k + 1 => 2 * cst k + 2
theorem cst_12 : ∀ {k : Nat}, k ≤ 12 → cst k ≤ 8190 := by
  have h : ∀ k, k < 13 → cst k ≤ 8190 := by decide
  exact fun {k} hk => h k (by omega)
/-- what holds at the loop's head -/
def INV (st : St) (L : List Nat) (h0 : Hp) (p B : List Nat) (h : Hp) : Prop := cf h0 h ∧ LKc st L h ∧ PK p h ∧ LB st L B h
theorem LB.kp {L B : List Nat} {h h' : Hp} (x : LB st L B h) (e : ∀ k, 10 ≤ k → h'.2.1 40 k = h.2.1 40 k) (e4 : h'.1 44 = h.1 44) : LB st L B h' := by
  obtain ⟨x1, x2, x3, x4⟩ := x
  exact ⟨(e 10 (by decide)).trans x1, (e 11 (by decide)).trans x2, (e 12 (by decide)).trans x3, fun i x hi => (congrFun e4 i).trans (x4 i x hi)⟩
theorem c_dfs {L : List Nat} {h0 : Hp} {b : Int} (hL : L.length ≤ 12) (hW : ∀ i, i < L.length → 1 ≤ WL st L i ∧ WL st L i ≤ 800) (hb : 0 ≤ b ∧ b ≤ 1000) : ∀ (k j : Nat) (p B : List Nat) (h : Hp) (T : Nat), j + k = L.length → p.length ≤ j → (∀ x ∈ p, x < j) → (0 ≤ wl (WL st L) p ∧ wl (WL st L) p ≤ 800 * (j : Int)) → T + cst k < 1000000 → preS k j p B → INV st L h0 p B h →
    (∀ (h' : Hp) (T' : Nat) (B' : List Nat), T' ≤ T + cst k → dS (GL st L) (WL st L) b k j p B B' → INV st L h0 p B' h' → Ok shC 0 0 mX0_layOut 27 [some (pR 40), none, some (pI b), some (pI (gl (GL st L) p)), some (pI (wl (WL st L) p)), some (pI (L.length : Int)), some (pI (T' : Int))] [] h' P) →
    Ok shC 0 0 mX0_layOut 27 [some (pR 40), none, some (pI b), some (pI (gl (GL st L) p)), some (pI (wl (WL st L) p)), some (pI (j : Int)), some (pI (T : Int))] [] h P := by
  intro k
  induction k with
  | zero =>
    intro j p B h T hj hp hx hw hT pre I K
    have e : j = L.length := hj
    rw [e] at hw ⊢
    exact K h T B (Nat.le_refl _) dS_0 I
  | succ k ih =>
    intro j p B h T hj hp hx hw hT pre I K
    obtain ⟨c, KK, Q, LL⟩ := I
    have hc : cst (k + 1) = 2 * cst k + 2 := rfl
    have hjL : j < L.length := by omega
    have hWj := hW j hjL
    have gj := KK.g hjL
    refine sX0_layOut_27 ⟨fun q => absurd q (by omega), fun _ => ?_⟩
    rw [KK.1]
    refine ⟨fun _ => ⟨j, rfl, by omega, ?_⟩, fun q => absurd q (by omega)⟩
    rw [gj.2.2, gj.2.1]
    refine ⟨by unfold inR; omega, fun q => ⟨by unfold inR; omega, by unfold inR; omega, ?_⟩, fun q => ⟨p.length, Q.1, by omega, by rw [Q.1]; unfold inR; omega, ?_⟩⟩
    · refine ih (j + 1) p B h (T + 1) (by omega) (by omega) (fun x h => by have := hx x h; omega) ⟨hw.1, by omega⟩ (by omega) (pre_skip pre) ⟨c, KK, Q, LL⟩ (fun h' T' B' hT' d I' => ?_)
      exact K h' T' B' (by omega) (dS_skip (fun i hi => (hW i (by omega)).1) (by omega) d) I'
    · rw [Q.1, LL.1, LL.2.1]
      have eg : wr (gl (GL st L) p + GL st L j) = gl (GL st L) (p ++ [j]) := (gl_snoc p j).symm
      have ew : wl (WL st L) p + WL st L j = wl (WL st L) (p ++ [j]) := (wl_snoc p j).symm
      rw [eg, ew]
      have hwb : wl (WL st L) (p ++ [j]) ≤ b := by omega
      have hlen : (p ++ [j]).length = p.length + 1 := by simp
      have c1 : cf h0 (hI (hA h 45 p.length (j : Int)) 40 9 ((p.length : Int) + 1)) := (c.A (by decide)).I
      have KK1 : LKc st L (hI (hA h 45 p.length (j : Int)) 40 9 ((p.length : Int) + 1)) := KK.kp (by rw [hI_at, if_neg (by omega)]; rfl) (fun a h1 h2 => by funext q; rw [hI_a, hA_at, if_neg (by omega)])
      have Q1 : PK (p ++ [j]) (hI (hA h 45 p.length (j : Int)) 40 9 ((p.length : Int) + 1)) := by
        refine ⟨by rw [hI_at, if_pos ⟨rfl, rfl⟩, hlen]; rfl, lk_snoc (p := fun i x => _ = (x : Int)) (fun i x hi => ?_) ?_⟩
        · have := (List.getElem?_eq_some_iff.mp hi).1
          rw [hI_a, hA_at, if_neg (by omega)]
          exact Q.2 i x hi
        · rw [hI_a, hA_at, if_pos ⟨rfl, rfl⟩]
      have LL1 : LB st L B (hI (hA h 45 p.length (j : Int)) 40 9 ((p.length : Int) + 1)) := LL.kp (fun k hk => by rw [hI_at, if_neg (by omega)]; rfl) (by funext q; rw [hI_a, hA_at, if_neg (by omega)])
      have go : ∀ (h1 : Hp) (B1 : List Nat), INV st L h0 (p ++ [j]) B1 h1 → ((B1 = p ++ [j] ∧ vb (GL st L) (WL st L) (p ++ [j]) B) ∨ (B1 = B ∧ ¬ vb (GL st L) (WL st L) (p ++ [j]) B)) → inR ((j : Int) + 1) ∧ (inR ((T : Int) + 1) ∧ Ok shC 0 0 mX0_layOut 27 [some (pR 40), none, some (pI b), some (pI (gl (GL st L) (p ++ [j]))), some (pI (wl (WL st L) (p ++ [j]))), some (pI ((j : Int) + 1)), some (pI ((T : Int) + 1))] [] h1 P) := by
        intro h1 B1 I1 e1
        have e1' : B1 = B ∨ B1 = p ++ [j] := e1.elim (fun q => Or.inr q.1) (fun q => Or.inl q.1)
        refine ⟨by unfold inR; omega, by unfold inR; omega, ?_⟩
        refine ih (j + 1) (p ++ [j]) B1 h1 (T + 1) (by omega) (by omega) (fun x hx1 => ?_) ⟨by omega, by omega⟩ (by omega) (pre_in1 pre e1') I1 (fun h2 T2 B2 hT2 d2 I2 => ?_)
        · rcases List.mem_append.mp hx1 with q | q
          · have := hx x q
            omega
          · rw [List.mem_singleton] at q
            omega
        · obtain ⟨c2, KK2, Q2, LL2⟩ := I2
          refine sX0_layOut_27 ⟨fun q => absurd q (by omega), fun _ => ?_⟩
          rw [KK2.1, Q2.1, hlen]
          have e45 : h2.1 45 p.length = (j : Int) := Q2.2 p.length j (by simp)
          refine ⟨fun q => absurd q (by omega), fun _ => ⟨fun q => absurd q (by omega), fun _ => ⟨by unfold inR; omega, p.length, by omega, by omega, j, e45, by omega, ?_⟩⟩⟩
          rw [e45, (KK2.g hjL).2.1, (KK2.g hjL).2.2, gl_snoc, wr_pop (gl_in p), wl_snoc, show wl (WL st L) p + WL st L j - WL st L j = wl (WL st L) p by omega, show (((p.length + 1 : Nat) : Int) - 1) = (p.length : Int) by omega]
          refine ⟨by unfold inR; omega, by unfold inR; omega, by unfold inR; omega, ?_⟩
          refine ih (j + 1) p B2 _ (T2 + 1) (by omega) (by omega) (fun x h => by have := hx x h; omega) ⟨hw.1, by omega⟩ (by omega) (pre_out pre e1' d2) ⟨c2.I, KK2.kp (by rw [hI_at, if_neg (by omega)]) (fun _ _ _ => rfl), ⟨by rw [hI_at, if_pos ⟨rfl, rfl⟩], fun i x hi => ?_⟩, LL2.kp (fun k hk => by rw [hI_at, if_neg (by omega)]) rfl⟩ (fun h3 T3 B3 hT3 d3 I3 => ?_)
          · have := (List.getElem?_eq_some_iff.mp hi).1
            exact Q2.2 i x (by rw [List.getElem?_append_left this]; exact hi)
          · exact K h3 T3 B3 (by omega) (dS_pick pre hwb e1 d2 d3) I3
      have hx1 : ∀ x ∈ p ++ [j], x < L.length := fun x hx1 => by
        rcases List.mem_append.mp hx1 with q | q
        · have := hx x q
          omega
        · rw [List.mem_singleton] at q
          omega
      have tk : vb (GL st L) (WL st L) (p ++ [j]) B → Cl shC mX0_takePicked [pR 40, pI (gl (GL st L) (p ++ [j])), pI (wl (WL st L) (p ++ [j]))] (hI (hA h 45 p.length (j : Int)) 40 9 ((p.length : Int) + 1)) (fun _ h1 => inR ((j : Int) + 1) ∧ (inR ((T : Int) + 1) ∧ Ok shC 0 0 mX0_layOut 27 [some (pR 40), none, some (pI b), some (pI (gl (GL st L) (p ++ [j]))), some (pI (wl (WL st L) (p ++ [j]))), some (pI ((j : Int) + 1)), some (pI ((T : Int) + 1))] [] h1 P)) := fun v =>
        c_takePicked KK1 hL Q1 (by omega) hx1 (fun h' c' K' Q' L' => go h' (p ++ [j]) ⟨c1.tr c', K', Q', L'⟩ (Or.inl ⟨rfl, v⟩))
      refine ⟨fun q1 => tk (Or.inl q1), fun q1 => ⟨fun q2 => go _ B ⟨c1, KK1, Q1, LL1⟩ (Or.inr ⟨rfl, fun v => by unfold vb at v; omega⟩), fun q2 => ⟨fun q3 => go _ B ⟨c1, KK1, Q1, LL1⟩ (Or.inr ⟨rfl, fun v => by unfold vb at v; omega⟩), fun q3 => tk (Or.inr ⟨q2, by omega⟩)⟩⟩⟩
end CLY
