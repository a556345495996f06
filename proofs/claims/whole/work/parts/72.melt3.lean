/-! MELT: a list of steps, each behind the one that it is part of; the class writes off -/
section ME3
variable {t : TV} {c : Nat}
def chk (t : TV) : (Nat → Option Nat) → (Nat → Prop) → List (Nat × Nat) → Prop
  | _, _, [] => True
  | L, M, q :: r => (1 ≤ q.2 ∧ q.2 ≤ 40) ∧ (q.2 = 1 ∨ ∃ a, L (q.2 - 1) = some a ∧ M a ∧ q.1 ∈ ch t a ∧ ∀ j j', j < 3 → j' < j → pt t a j = (q.1 : Int) → 0 ≤ pt t a j' ∧ M (pt t a j').toNat) ∧ chk t (fun e => if e = q.2 then some q.1 else L e) (fun x => x = q.1 ∨ M x) r
theorem ch_get (w : WF t) {s j : Nat} (hs : s < mk t) (hk : kd t s ≠ -1) (hj : j < ar t s) (h3 : j < 3) : (ch t s)[j]? = some (pt t s j).toNat := by
  have f := fun k h => (w.2.2.2.2.2.1 s hs hk).2.2.2 k h
  have pfs : ∀ k, k < 3 → k < ar t s → pf t s k = [(pt t s k).toNat] := fun k h1 h2 => by
    unfold pf
    rw [if_pos ((f k h1).1 h2)]
  rw [ch_eq]
  rcases (by omega : j = 0 ∨ j = 1 ∨ j = 2) with rfl | rfl | rfl
  · rw [pfs 0 (by decide) hj]
    rfl
  · rw [pfs 0 (by decide) (by omega), pfs 1 (by decide) hj]
    rfl
  · rw [pfs 0 (by decide) (by omega), pfs 1 (by decide) (by omega), pfs 2 (by decide) hj]
    rfl
theorem chk_pre (w : WF t) : ∀ (n s d : Nat) (L : Nat → Option Nat) (M : Nat → Prop) (rest : List (Nat × Nat)), tr t n s → 1 ≤ d → d + n ≤ 41 →
    (d = 1 ∨ ∃ a, L (d - 1) = some a ∧ M a ∧ s ∈ ch t a ∧ ∀ j j', j < 3 → j' < j → pt t a j = (s : Int) → 0 ≤ pt t a j' ∧ M (pt t a j').toNat) →
    (∀ (L' : Nat → Option Nat) (M' : Nat → Prop), (∀ e, e < d → L' e = L e) → (∀ x, M x → M' x) → M' s → chk t L' M' rest) → chk t L M (pre t n d s ++ rest) := by
  intro n
  induction n with
  | zero => exact fun s d L M rest h => h.elim
  | succ n ih =>
    intro s d L M rest h hd hdn hp cont
    refine ⟨⟨hd, by show d ≤ 40; omega⟩, hp, ?_⟩
    have hs := tr_at h
    have inner : ∀ (cs done : List Nat) (L1 : Nat → Option Nat) (M1 : Nat → Prop), ch t s = done ++ cs → (∀ e, e < d → L1 e = L e) → L1 d = some s → (∀ x, M x → M1 x) → M1 s → (∀ x ∈ done, M1 x) → chk t L1 M1 (cs.flatMap (pre t n (d + 1)) ++ rest) := by
      intro cs
      induction cs with
      | nil => exact fun done L1 M1 _ h1 h2 h3 h4 _ => cont L1 M1 h1 h3 h4
      | cons y cs ih2 =>
        intro done L1 M1 he h1 h2 h3 h4 h5
        have hy : y ∈ ch t s := by rw [he]; simp
        rw [List.flatMap_cons, List.append_assoc]
        refine ih y (d + 1) L1 M1 _ (h.2.2.2 y hy) (by omega) (by omega) (Or.inr ⟨s, h2, h4, hy, fun j j' hj hjj e => ?_⟩) (fun L2 M2 g1 g2 g3 => ?_)
        · have f := fun k h => (w.2.2.2.2.2.1 s hs.1 hs.2).2.2.2 k h
          have hja : j < ar t s := Classical.byContradiction fun q => by
            have := (f j hj).2 (by omega)
            omega
          have h0 := (f j' (by omega)).1 (by omega)
          refine ⟨h0, h5 _ ?_⟩
          have g1 := ch_get w hs.1 hs.2 hja hj
          have g2 := ch_get w hs.1 hs.2 (j := j') (by omega) (by omega)
          have gy : (ch t s)[done.length]? = some y := by rw [he]; simp
          have hyj : (pt t s j).toNat = y := by omega
          rw [hyj] at g1
          have ej : j = done.length := by
            have hnd := ch_nodup h
            obtain ⟨a1, a2⟩ := List.getElem?_eq_some_iff.mp g1
            obtain ⟨b1, b2⟩ := List.getElem?_eq_some_iff.mp gy
            rw [List.pairwise_iff_getElem] at hnd
            rcases Nat.lt_trichotomy j done.length with q | q | q
            · exact absurd (a2.trans b2.symm) (hnd j done.length a1 b1 q)
            · exact q
            · exact absurd (b2.trans a2.symm) (hnd done.length j b1 a1 q)
          rw [he, List.getElem?_append_left (by omega)] at g2
          exact List.mem_of_getElem? g2
        · refine ih2 (done ++ [y]) L2 M2 (by rw [he]; simp) (fun e he => (g1 e (by omega)).trans (h1 e he)) ((g1 d (by omega)).trans h2) (fun x hx => g2 x (h3 x hx)) (g2 s h4) (fun x hx => ?_)
          rcases List.mem_append.mp hx with q | q
          · exact g2 x (h5 x q)
          · rw [List.mem_singleton] at q
            rw [q]
            exact g3
    exact inner (ch t s) [] _ _ rfl (fun e he => by show (if e = d then some s else L e) = L e; rw [if_neg (by omega)]) (by show (if d = d then some s else L d) = some s; rw [if_pos rfl]) (fun x hx => Or.inr hx) (Or.inl rfl) (fun x hx => by cases hx)
theorem MH.chk (h : MH t c) : chk t (fun _ => none) (fun _ => False) (qD t c) := by
  have := chk_pre h.1 40 (bdI t (nm t c)).toNat 1 (fun _ => none) (fun _ => False) [] h.Dp.2 (Nat.le_refl _) (Nat.le_refl _) (Or.inl rfl) (fun L' M' _ _ _ => trivial)
  rw [List.append_nil, ← h.Dp.1] at this
  exact this
theorem kN_t (h : MH t c) (i : Nat) : kN t c (qK t c + 1 + i) = kd t (dk t c i) ∧ nN t c (qK t c + 1 + i) = nm t (dk t c i) + (if kd t (dk t c i) = 1 ∨ kd t (dk t c i) = 4 then qs t c else 0) := by
  unfold kN nN
  rw [ds_t h]
  exact ⟨rfl, rfl⟩
/-- a new step is no GONE -/
theorem kN_al (h : MH t c) {s : Nat} (h1 : mk t ≤ s) (h2 : s < qE t c) : kN t c s ≠ -1 := by
  unfold kN
  rcases new_is h h1 h2 with ⟨k, hk, rfl⟩ | ⟨k, hk, rfl⟩ | ⟨k, hk, hp, rfl⟩ | rfl | ⟨i, hi, rfl⟩
  · rw [ds_b hk]; simp
  · rw [ds_s hk]; simp
  · rw [ds_z hk hp]; simp
  · rw [ds_B h]; simp
  · rw [ds_t h]
    simpa using (h.dkal hi).2
theorem CT_al (h : MH t c) {g : Bool} {lk : Nat → Bool} {jk n s : Nat} (h1 : mk t ≤ s) (h2 : s < n) (hn : n ≤ qE t c) : al (CT t c g lk jk n) (s : Int) := by
  refine al_n.mpr ⟨h2, ?_⟩
  rw [CT_k, if_neg (by omega)]
  exact kN_al h h1 (by omega)
/-- what hangs where it belongs, in the class: all that is made but the outermost, and the first kk parts of the call -/
def lkI (t : TV) (c n kk : Nat) (lk : Nat → Bool) : Prop := ∀ s, lk s = true ↔ ((mk t < s ∧ s < n) ∨ ∃ k, k < kk ∧ k < qp t c ∧ s = qx t c k)
theorem lkI.no (h : MH t c) {n kk : Nat} {lk : Nat → Bool} (I : lkI t c n kk lk) {s : Nat} (h1 : mk t ≤ s) (h2 : n ≤ s) : lk s = false := by
  cases q : lk s with
  | false => rfl
  | true =>
    rcases (I s).mp q with e | ⟨k, _, hk, e⟩
    · omega
    · have := (h.x hk).2.1
      omega
/-- one twin is made and hung -/
theorem c_twin (h : MH t c) {P : Hp → Prop} {hp : Hp} {lk : Nat → Bool} {i : Nat} {L : Nat → Option Nat} {M : Nat → Prop} {r : List (Nat × Nat)} {q : Nat × Nat} (hi : i < (qD t c).length) (hq : q.1 = dk t c i) (hqm : q ∈ qD t c) (hc : chk t L M (q :: r)) (I : lkI t c (qK t c + 1 + i) (qp t c) lk) (hM : ∀ x, M x → (∃ d, (x, d) ∈ qD t c) ∧ ix (qD t c) x < i) (hi0 : q.2 = 1 → i = 0)
    (R : RC (CT t c false lk 0 (qK t c + 1 + i + 1)) hp) {v : Int} (hv : q.2 = 1 → v = (qK t c : Int)) (hv2 : ∀ a, L (q.2 - 1) = some a → q.2 ≠ 1 → v = (tn t c a : Int))
    (k : ∀ h' lk', fr 2 8 hp h' → RC (CT t c false lk' 0 (qK t c + 1 + i + 1)) h' → lkI t c (qK t c + 1 + i + 1) (qp t c) lk' → P h') : Cl shC mX1_append [pR 1, pI v, pI ((qK t c + 1 + i : Nat) : Int)] hp (fun _ h' => P h') := by
  have hE : qE t c = qK t c + 1 + (qD t c).length := rfl
  have hK := qK_ge t c
  obtain ⟨hc1, hc2, _⟩ := hc
  have fin : ∀ h', fr 2 8 hp h' → ∀ (a j : Nat), mk t ≤ a → a < qK t c + 1 + i + 1 → j < 3 → pN t c a j = ((qK t c + 1 + i : Nat) : Int) → RC (lnk (CT t c false lk 0 (qK t c + 1 + i + 1)) a j (qK t c + 1 + i)) h' → P h' := fun h' x a j ha1 ha2 hj hpn R' => by
    refine k h' (lkU lk (qK t c + 1 + i)) x (R'.te (CT_link h (by omega) ha1 ha2 hj hpn (Or.inr (by omega)))) (fun s => ?_)
    rw [lkU_at, I s]
    constructor
    · rintro (e | e | e)
      · exact Or.inl (by omega)
      · exact Or.inl (by omega)
      · exact Or.inr e
    · rintro (e | e)
      · by_cases z : s = qK t c + 1 + i
        · exact Or.inl z
        · exact Or.inr (Or.inl (by omega))
      · exact Or.inr (Or.inr e)
  have hno : lk (qK t c + 1 + i) = false := I.no h (by omega) (Nat.le_refl _)
  rcases hc2 with d1 | ⟨a, e1, e2, e3, e4⟩
  · have := hi0 d1
    subst this
    rw [hv d1]
    have hp0 : pN t c (qK t c) 0 = ((qK t c + 1 + 0 : Nat) : Int) := by rw [pN_K h, if_pos rfl]
    refine c_append R (CT_al h hK (by omega) (by omega)) (CT_al h (by omega) (by omega) (by omega)) (k := 0) (by decide) (fun j hj => by omega) ?_ (fun h' x R' => fin h' x (qK t c) 0 hK (by omega) (by decide) hp0 R')
    rw [CT_p _ _ _ _ (by decide), if_neg (by omega), hp0, if_neg (by omega), Int.toNat_natCast, hno, if_neg (by decide), if_neg (by omega)]
  · have d1 : q.2 ≠ 1 := fun z => by
      rw [hi0 z] at hM
      have := (hM a e2).2
      omega
    obtain ⟨⟨d, hda⟩, hia⟩ := hM a e2
    rw [hv2 a e1 d1]
    have hla := tn_lt h hda
    have haa := plist_at (q := (a, d)) h.1 hda
    obtain ⟨j, hj, hj0, hje⟩ := mem_ch.mp e3
    have hje2 : pt t a j = (q.1 : Int) := by omega
    have eta : tn t c a = qK t c + 1 + ix (qD t c) a := rfl
    have hpn : ∀ j', j' < 3 → 0 ≤ pt t a j' → pN t c (tn t c a) j' = (tn t c (pt t a j').toNat : Int) := fun j' hj' h0 => by
      rw [eta, pN_t h, h.dkx hda, if_neg (by omega)]
    have hpj : pN t c (tn t c a) j = ((qK t c + 1 + i : Nat) : Int) := by
      rw [hpn j hj hj0, ← hje, hq, tn_dk h hi]
    refine c_append R (CT_al h (by omega) (by omega) (by omega)) (CT_al h (by omega) (by omega) (by omega)) (k := j) hj (fun j' hj' => ?_) ?_ (fun h' x R' => fin h' x (tn t c a) j (by omega) (by omega) hj hpj R')
    · obtain ⟨h0, hm⟩ := e4 j j' hj hj' hje2
      obtain ⟨⟨d', hd'⟩, hx⟩ := hM _ hm
      rw [CT_p _ _ _ _ (by omega), if_neg (by omega), hpn j' (by omega) h0, if_neg (by omega), Int.toNat_natCast, if_pos ((I _).mpr (Or.inl (by unfold tn; omega)))]
      omega
    · rw [CT_p _ _ _ _ hj, if_neg (by omega), hpj, if_neg (by omega), Int.toNat_natCast, hno, if_neg (by decide), if_neg (by omega)]
theorem c_writeOff (h : MH t c) {P : Int → Hp → Prop} {hp : Hp} {lk : Nat → Bool} (R : RC (CT t c false lk 0 (qK t c + 1)) hp) (I : lkI t c (qK t c + 1) (qp t c) lk) (hs : hp.2.1 14 4 = ((qD t c).length : Int)) (hD : DA hp 15 16 (qD t c)) (p : ∀ h' lk', (∀ a, a < 2 ∨ (8 < a ∧ a ≠ 29) → h'.1 a = hp.1 a ∧ h'.2.1 a = hp.2.1 a) → h'.2.2 = hp.2.2 → RC (CT t c false lk' 0 (qE t c)) h' → lkI t c (qE t c) (qp t c) lk' → P 0 h') : Cl shC mX3_writeOff [pR 28, pI (qK t c : Int), pI (qs t c)] hp P := by
  have hK := qK_ge t c
  have hE := h.E
  have hEd : qE t c = qK t c + 1 + (qD t c).length := rfl
  have key : ∀ (D2 D1 : List (Nat × Nat)) (h1 : Hp) (lk : Nat → Bool) (L : Nat → Option Nat) (M : Nat → Prop), D1 ++ D2 = qD t c → (∀ a, a < 2 ∨ (8 < a ∧ a ≠ 29) → h1.1 a = hp.1 a ∧ h1.2.1 a = hp.2.1 a) → h1.2.2 = hp.2.2 → RC (CT t c false lk 0 (qK t c + 1 + D1.length)) h1 → lkI t c (qK t c + 1 + D1.length) (qp t c) lk → chk t L M D2 → (∀ x, M x ↔ (∃ d, (x, d) ∈ qD t c) ∧ ix (qD t c) x < D1.length) → (∀ x a, M x → x ∈ ch t a → a < mk t → kd t a ≠ -1 → M a) → h1.1 29 0 = (qK t c : Int) → (∀ e a, 1 ≤ e → L e = some a → h1.1 29 e = (tn t c a : Int)) → Ok shC 0 0 mX3_writeOff 9 [some (pR 28), none, some (pI (qs t c)), some (pI (D1.length : Int)), none, none, none, none, none] [] h1 P := by
    intro D2
    induction D2 with
    | nil =>
      intro D1 h1 lk L M he x xc R I _ _ _ _ _
      rw [List.append_nil] at he
      subst he
      refine sX3_writeOff_9 ?_
      rw [(x 14 (by decide)).2, hs]
      exact ⟨fun _ => p h1 lk x xc R I, fun q => absurd (Int.le_refl _) q⟩
    | cons q D2 ih =>
      intro D1 h1 lk L M he x xc R I ck hM hMc h0 hL
      have hl : D1.length < (qD t c).length := by rw [← he]; simp
      have hq : (qD t c)[D1.length]? = some q := by rw [← he]; simp
      have hqm := List.mem_of_getElem? hq
      have hqa := plist_at h.1 hqm
      have hdk : dk t c D1.length = q.1 := by
        obtain ⟨d, e⟩ := dk_at hl
        rw [hq] at e
        injection e with e
        exact (congrArg Prod.fst e).symm
      have hqd := hD _ _ hq
      rw [← (x 15 (by decide)).1, ← (x 16 (by decide)).1] at hqd
      have hd40 := ck.1
      have hkn := kN_t h D1.length
      rw [hdk] at hkn
      have hno : lk (qK t c + 1 + D1.length) = false := I.no h (by omega) (Nat.le_refl _)
      have hi0 : q.2 = 1 → D1.length = 0 := fun e => Classical.byContradiction fun z => by
        obtain ⟨D0, ed⟩ := h.D0
        have h1 := h.Dp.2
        have hm2 : q ∈ D0 := by
          rw [ed] at hq
          obtain ⟨m, hm⟩ : ∃ m, D1.length = m + 1 := ⟨D1.length - 1, by omega⟩
          rw [hm, List.getElem?_cons_succ] at hq
          exact List.mem_of_getElem? hq
        have ed2 := h.Dp.1
        rw [ed] at ed2
        have e0 : D0 = (ch t (bdI t (nm t c)).toNat).flatMap (pre t 39 (1 + 1)) := (List.cons.inj ed2).2
        rw [e0] at hm2
        obtain ⟨y, hy, hm2⟩ := List.mem_flatMap.mp hm2
        have := (pre_in (x := q.1) (dx := q.2) hm2 (tr_ch h1 hy)).1
        omega
      have hnr := (h.1.nmr hqa.1 hqa.2).1
      have hs0 := h.s0
      have hs40 : qs t c ≤ 40 := (h.1.us _).2
      have go : ∀ (h3 : Hp), fr 2 8 h1 h3 → RC (mkS (CT t c false lk 0 (qK t c + 1 + D1.length)) (kd t q.1) (nm t q.1 + (if kd t q.1 = 1 ∨ kd t q.1 = 4 then qs t c else 0))) h3 → ((h1.1 16 D1.length ≤ 0) → inR (((D1.length : Nat) : Int) + 1) ∧ (Ok shC 0 0 mX3_writeOff 9 [some (pR 28), none, some (pI (qs t c)), some (pI ((D1.length : Int) + 1)), none, none, none, none, none] [] h3 P)) ∧ ((¬ h1.1 16 D1.length ≤ 0) → ((40 < h1.1 16 D1.length) → inR ((D1.length : Int) + 1) ∧ (Ok shC 0 0 mX3_writeOff 9 [some (pR 28), none, some (pI (qs t c)), some (pI ((D1.length : Int) + 1)), none, none, none, none, none] [] h3 P)) ∧ ((¬ 40 < h1.1 16 D1.length) → inR ((h1.1 16 D1.length - 1)) ∧ (∃ k8 : Nat, (h1.1 16 D1.length - 1) = (k8 : Int) ∧ k8 < 41 ∧ (Cl shC mX1_append [pR 1, pI (h3.1 29 k8), pI ((qK t c + 1 + D1.length : Nat) : Int)] h3 (fun _ h4 => ∃ k9 : Nat, h1.1 16 D1.length = (k9 : Int) ∧ k9 < 41 ∧ (inR ((D1.length : Int) + 1) ∧ (Ok shC 0 0 mX3_writeOff 9 [some (pR 28), none, some (pI (qs t c)), some (pI ((D1.length : Int) + 1)), none, none, none, none, none] [] (hA h4 29 k9 ((qK t c + 1 + D1.length : Nat) : Int)) P))))))) := by
        intro h3 x3 R3
        rw [← hkn.2, ← hkn.1] at R3
        have R3 := R3.te (CT_make (by omega) hno (fun j hj h0 => ?_) (fun _ => Nat.zero_le _))
        · rw [hqd.2]
          refine ⟨fun z => absurd z (by omega), fun _ => ⟨fun z => absurd z (by omega), fun _ => ⟨by unfold inR; omega, q.2 - 1, by omega, by omega, ?_⟩⟩⟩
          refine c_twin h hl hdk.symm hqm ck I (fun y hy => (hM y).mp hy) hi0 R3 (fun e => ?_) (fun a ha e => ?_) (fun h4 lk' x4 R4 I4 => ⟨q.2, rfl, by omega, by unfold inR; omega, ?_⟩)
          · rw [e, x3.a (by decide)]
            exact h0
          · rw [x3.a (by decide)]
            exact hL (q.2 - 1) a (by omega) ha
          · have hlen : (D1 ++ [q]).length = D1.length + 1 := by simp
            have := ih (D1 ++ [q]) (hA h4 29 q.2 ((qK t c + 1 + D1.length : Nat) : Int)) lk' (fun e => if e = q.2 then some q.1 else L e) (fun y => y = q.1 ∨ M y) (by rw [← he]; simp) (fun a ha => ⟨?_, ?_⟩) ?_ ?_ ?_ ck.2.2 (fun y => ?_) (fun y a hy hya ha1 ha2 => ?_) ?_ (fun e a he1 hea => ?_)
            · rw [hlen] at this
              exact this
            · rw [← (x a ha).1]
              funext z
              rw [hA_at, if_neg (by omega), x4.a (by omega), x3.a (by omega)]
            · rw [← (x a ha).2]
              show h4.2.1 a = _
              rw [x4.i (by omega), x3.i (by omega)]
            · show h4.2.2 = _
              rw [x4.2, x3.2, xc]
            · rw [hlen]
              exact R4.kp (fr.rf.A (lo := 29) (hi := 29) ⟨by decide, by decide⟩) (Or.inl (by decide))
            · rw [hlen]
              exact I4
            · rw [hlen, hM y]
              constructor
              · rintro (e | ⟨a1, a2⟩)
                · rw [e]
                  refine ⟨⟨q.2, hqm⟩, ?_⟩
                  rw [← hdk, h.ixk hl]
                  omega
                · exact ⟨a1, by omega⟩
              · rintro ⟨⟨d, a1⟩, a2⟩
                by_cases e : ix (qD t c) y = D1.length
                · left
                  rw [← hdk, ← e, h.dkx a1]
                · exact Or.inr ⟨⟨d, a1⟩, by omega⟩
            · rcases hy with e | e
              · rw [e] at hya
                rcases ck.2.1 with d1 | ⟨a', _, e2, e3, _⟩
                · have e5 := hi0 d1
                  rw [e5, h.dk0.1] at hdk
                  obtain ⟨_, _, h4⟩ := h.1.2.2.1 (nm t c).toNat (by have := h.nr; omega)
                  have hb2 : bdI t (nm t c) = bd t (nm t c).toNat := if_pos h.nr
                  have hu := tr_up (h.1.tr' ha1 ha2) hya
                  rw [← hb2] at h4
                  rcases h4 with h4 | h4
                  · exact absurd h4 h.2.2.2.1
                  · rw [hdk] at h4
                    have := h4.2
                    omega
                · have ha' := (hM a').mp e2
                  obtain ⟨⟨d', hd'⟩, _⟩ := ha'
                  have haa := plist_at (q := (a', d')) h.1 hd'
                  have u1 := tr_up (h.1.tr' haa.1 haa.2) e3
                  have u2 := tr_up (h.1.tr' ha1 ha2) hya
                  have : a = a' := by omega
                  rw [this]
                  exact Or.inr e2
              · exact Or.inr (hMc y a e hya ha1 ha2)
            · rw [hA_at, if_neg (by omega), x4.a (by decide), x3.a (by decide)]
              exact h0
            · rw [hA_at]
              by_cases z : e = q.2
              · have hea : (if e = q.2 then some q.1 else L e) = some a := hea
                rw [if_pos z] at hea
                injection hea with hea
                rw [if_pos ⟨rfl, z⟩, ← hea, ← hdk, tn_dk h hl]
              · have hea : (if e = q.2 then some q.1 else L e) = some a := hea
                rw [if_neg z] at hea
                rw [if_neg (fun y => z y.2), x4.a (by decide), x3.a (by decide)]
                exact hL e a he1 hea
        · rw [pN_t h, hdk] at h0 ⊢
          split at h0
          · exact absurd h0 (by decide)
          · rename_i z
            rw [if_neg z, Int.toNat_natCast]
            have hc : (pt t q.1 j).toNat ∈ ch t q.1 := mem_ch.mpr ⟨j, hj, by omega, rfl⟩
            have hd := h.Dch hqm hc
            refine I.no h (by have := (tn_lt h hd).2; omega) ?_
            have hge : D1.length ≤ ix (qD t c) (pt t q.1 j).toNat := Classical.byContradiction fun y => by
              have h1 := hMc _ q.1 ((hM _).mpr ⟨⟨_, hd⟩, by omega⟩) hc hqa.1 hqa.2
              have h2 := ((hM _).mp h1).2
              rw [← hdk, h.ixk hl] at h2
              omega
            unfold tn
            omega
      have hmk : mk (CT t c false lk 0 (qK t c + 1 + D1.length)) < 600 := by show qK t c + 1 + D1.length < 600; omega
      refine Ok.rng (fun cn _ _ => ?_)
      refine sX3_writeOff_9 ?_
      rw [(x 14 (by decide)).2, hs]
      refine ⟨fun z => absurd z (by omega), fun _ => ⟨D1.length, rfl, by omega, ?_⟩⟩
      rw [hqd.1]
      refine c_kindOf R _ ?_
      have ek : kdI (CT t c false lk 0 (qK t c + 1 + D1.length)) (q.1 : Int) = kd t q.1 := by
        rw [kdI_at (by show q.1 < qK t c + 1 + D1.length; omega), CT_k, if_pos hqa.1]
      have en : nmI (CT t c false lk 0 (qK t c + 1 + D1.length)) (q.1 : Int) = nm t q.1 := by
        rw [nmI_at (by show q.1 < qK t c + 1 + D1.length; omega), CT_n, if_pos hqa.1]
      rw [ek]
      refine ⟨fun c1 => c_numberOf R _ ?_, fun c1 => ⟨fun c2 => c_numberOf R _ ?_, fun c2 => c_numberOf R _ ?_⟩⟩
      · rw [en]
        have := hnr (Or.inl c1)
        refine ⟨by unfold inR; omega, c_add R hmk _ _ (fun h3 x3 R3 => go h3 x3 ?_)⟩
        rw [if_pos (Or.inl c1)]
        exact R3
      · rw [en]
        have hin : inR (nm t q.1) := by
          have := R.n (s := q.1) (by show q.1 < qK t c + 1 + D1.length; omega)
          rw [CT_n, if_pos hqa.1] at this
          rw [← this]
          exact cn.1 4 q.1
        refine ⟨by rw [Int.add_zero]; exact hin, c_add R hmk _ _ (fun h3 x3 R3 => go h3 x3 ?_)⟩
        rw [if_neg (fun z => z.elim c1 c2)]
        exact R3
      · rw [en]
        have := hnr (Or.inr c2)
        refine ⟨by unfold inR; omega, c_add R hmk _ _ (fun h3 x3 R3 => go h3 x3 ?_)⟩
        rw [if_pos (Or.inr c2)]
        exact R3
  have x0 : ∀ a, a < 2 ∨ (8 < a ∧ a ≠ 29) → (hA hp 29 0 (qK t c : Int)).1 a = hp.1 a ∧ (hA hp 29 0 (qK t c : Int)).2.1 a = hp.2.1 a := fun a ha => ⟨by
    funext z
    rw [hA_at, if_neg (by omega)], rfl⟩
  exact sX3_writeOff_0 (key (qD t c) [] _ lk (fun _ => none) (fun _ => False) rfl x0 rfl (R.kp (fr.rf.A (lo := 29) (hi := 29) ⟨by decide, by decide⟩) (Or.inl (by decide))) I h.chk (fun x => ⟨fun hx => hx.elim, fun hx => absurd hx.2 (Nat.not_lt_zero _)⟩) (fun x a hx => hx.elim) (by rw [hA_at, if_pos ⟨rfl, rfl⟩]) (fun e a _ hea => by cases hea))
end ME3
