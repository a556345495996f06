/-! CHOICE: the best of all lists of calls -/
section BE
def sg (f : Nat → Bool) : Nat → Nat → List Nat
  | 0, _ => []
  | k + 1, j => if f j then j :: sg f k (j + 1) else sg f k (j + 1)
theorem sg_congr {f f' : Nat → Bool} : ∀ {k j : Nat}, (∀ i, j ≤ i → i < j + k → f i = f' i) → sg f k j = sg f' k j
  | 0, _, _ => rfl
  | k + 1, j, h => by
    rw [sg, sg, h j (Nat.le_refl _) (by omega), sg_congr (k := k) (j := j + 1) (fun i h1 h2 => h i (by omega) (by omega))]
theorem sg_mem {f : Nat → Bool} : ∀ {k j i : Nat}, i ∈ sg f k j → j ≤ i ∧ i < j + k
  | k + 1, j, i, h => by
    rw [sg] at h
    split at h
    · rcases List.mem_cons.mp h with e | e
      · omega
      · have := sg_mem e
        omega
    · have := sg_mem h
      omega
theorem sg_len (f : Nat → Bool) : ∀ k j, (sg f k j).length ≤ k
  | 0, _ => Nat.le_refl _
  | k + 1, j => by
    have := sg_len f k (j + 1)
    rw [sg]
    split
    · show _ + 1 ≤ _
      omega
    · omega
theorem sg_snoc (f : Nat → Bool) : ∀ k j, sg f (k + 1) j = sg f k j ++ (if f (j + k) then [j + k] else [])
  | 0, j => by
    show (if f j then j :: sg f 0 (j + 1) else sg f 0 (j + 1)) = [] ++ (if f (j + 0) then [j + 0] else [])
    rfl
  | k + 1, j => by
    rw [sg, sg_snoc f k (j + 1), sg]
    rw [show j + 1 + k = j + (k + 1) by omega]
    split <;> rfl
/-- first in order: of two lists that one whose first other part is less, or that ends first -/
def lxb : List Nat → List Nat → Bool
  | _, [] => false
  | [], _ :: _ => true
  | a :: x, b :: y => decide (a < b) || (decide (a = b) && lxb x y)
abbrev lx (x y : List Nat) : Prop := lxb x y = true
theorem lx_cc {a b : Nat} {x y : List Nat} : lx (a :: x) (b :: y) ↔ a < b ∨ (a = b ∧ lx x y) := by
  show (decide (a < b) || (decide (a = b) && lxb x y)) = true ↔ _
  simp
theorem lx_n {x : List Nat} : ¬ lx x [] := by
  cases x <;> (intro h; cases h)
theorem lx_nc {a : Nat} {x : List Nat} : lx [] (a :: x) := rfl
theorem lx_irr : ∀ x : List Nat, ¬ lx x x
  | [] => lx_n
  | a :: x => fun h => by
    rcases lx_cc.mp h with h | h
    · omega
    · exact lx_irr x h.2
theorem lx_tr : ∀ {x y z : List Nat}, lx x y → lx y z → lx x z
  | _, [], _, h, _ => absurd h lx_n
  | _, _ :: _, [], _, h => absurd h lx_n
  | [], _ :: _, _ :: _, _, _ => lx_nc
  | a :: x, b :: y, c :: z, h1, h2 => by
    rw [lx_cc] at h1 h2 ⊢
    rcases h1 with h1 | ⟨h1, h3⟩
    · rcases h2 with h2 | ⟨h2, h4⟩
      · exact Or.inl (by omega)
      · exact Or.inl (by omega)
    · rcases h2 with h2 | ⟨h2, h4⟩
      · exact Or.inl (by omega)
      · exact Or.inr ⟨by omega, lx_tr h3 h4⟩
theorem lx_tot : ∀ x y : List Nat, x = y ∨ lx x y ∨ lx y x
  | [], [] => Or.inl rfl
  | [], _ :: _ => Or.inr (Or.inl lx_nc)
  | _ :: _, [] => Or.inr (Or.inr lx_nc)
  | a :: x, b :: y => by
    rw [lx_cc, lx_cc]
    rcases Nat.lt_trichotomy a b with h | h | h
    · exact Or.inr (Or.inl (Or.inl h))
    · subst h
      rcases lx_tot x y with h | h | h
      · subst h
        exact Or.inl rfl
      · exact Or.inr (Or.inl (Or.inr ⟨rfl, h⟩))
      · exact Or.inr (Or.inr (Or.inr ⟨rfl, h⟩))
    · exact Or.inr (Or.inr (Or.inl h))
theorem lx_app : ∀ (p : List Nat) {x y : List Nat}, lx (p ++ x) (p ++ y) ↔ lx x y
  | [], _, _ => Iff.rfl
  | a :: p, x, y => by
    show lx (a :: (p ++ x)) (a :: (p ++ y)) ↔ _
    rw [lx_cc, lx_app p]
    constructor
    · rintro (h | h)
      · omega
      · exact h.2
    · exact fun h => Or.inr ⟨rfl, h⟩
theorem lx_pre {p y : List Nat} (h : y ≠ []) : lx p (p ++ y) := by
  have := (lx_app p (x := []) (y := y)).mpr (by
    cases y with
    | nil => exact absurd rfl h
    | cons a y => exact lx_nc)
  rwa [List.append_nil] at this
/-- a later part comes behind -/
theorem lx_hd {j : Nat} {f : Nat → Bool} {k : Nat} {x : List Nat} (h : sg f k (j + 1) ≠ []) : lx (j :: x) (sg f k (j + 1)) := by
  cases e : sg f k (j + 1) with
  | nil => exact absurd e h
  | cons a y =>
    have := sg_mem (f := f) (k := k) (j := j + 1) (i := a) (by rw [e]; exact List.mem_cons_self)
    exact lx_cc.mpr (Or.inl (by omega))
theorem lx_hd2 {j : Nat} {f : Nat → Bool} {k : Nat} {x : List Nat} : ¬ lx (sg f k (j + 1)) (j :: x) ∨ sg f k (j + 1) = [] := by
  cases e : sg f k (j + 1) with
  | nil => exact Or.inr rfl
  | cons a y =>
    have := sg_mem (f := f) (k := k) (j := j + 1) (i := a) (by rw [e]; exact List.mem_cons_self)
    exact Or.inl (fun h => by
      rcases lx_cc.mp h with h | h <;> omega)
def gl (G : Nat → Int) (p : List Nat) : Int := p.foldl (fun a i => wr (a + G i)) 0
def wl (W : Nat → Int) (p : List Nat) : Int := p.foldl (fun a i => a + W i) 0
variable {G W : Nat → Int} {b : Int}
theorem gl_snoc (p : List Nat) (j : Nat) : gl G (p ++ [j]) = wr (gl G p + G j) := by simp [gl]
theorem wl_snoc (p : List Nat) (j : Nat) : wl W (p ++ [j]) = wl W p + W j := by simp [wl]
theorem gl_in (p : List Nat) : inR (gl G p) := by
  have key : ∀ (p : List Nat) (a : Int), inR a → inR (p.foldl (fun a i => wr (a + G i)) a) := by
    intro p
    induction p with
    | nil => exact fun a h => h
    | cons i p ih => exact fun a _ => ih _ (wr_in _)
  exact key p 0 (by unfold inR; decide)
theorem wl_app (p q : List Nat) (hq : ∀ i ∈ q, 1 ≤ W i) : wl W p ≤ wl W (p ++ q) := by
  have key : ∀ (q : List Nat) (a : Int), (∀ i ∈ q, 1 ≤ W i) → a ≤ q.foldl (fun a i => a + W i) a := by
    intro q
    induction q with
    | nil => exact fun a _ => Int.le_refl _
    | cons i q ih =>
      intro a h
      have h1 := h i List.mem_cons_self
      have h2 := ih (a + W i) (fun x hx => h x (List.mem_cons_of_mem _ hx))
      show a ≤ q.foldl (fun a i => a + W i) (a + W i)
      omega
  have := key q (wl W p) hq
  show wl W p ≤ (p ++ q).foldl (fun a i => a + W i) 0
  rw [List.foldl_append]
  exact this
/-- more is gained, or as much at less weight -/
abbrev vb (G W : Nat → Int) (x y : List Nat) : Prop := gl G y < gl G x ∨ (gl G x = gl G y ∧ wl W x < wl W y)
abbrev ve (G W : Nat → Int) (x y : List Nat) : Prop := gl G x = gl G y ∧ wl W x = wl W y
/-- x comes ahead of y, or is it -/
def ah (G W : Nat → Int) (x y : List Nat) : Prop := ¬ vb G W y x ∧ (ve G W y x → x = y ∨ lx x y)
theorem ah_rf (x : List Nat) : ah G W x x := ⟨fun h => by rcases h with h | h <;> omega, fun _ => Or.inl rfl⟩
theorem ah_vb {x y z : List Nat} (h : ah G W y z) (v : vb G W x y) : ah G W x z := by
  obtain ⟨h1, h2⟩ := h
  refine ⟨fun q => h1 ?_, fun q => absurd ?_ h1⟩
  · rcases q with q | q <;> rcases v with v | v <;> unfold vb <;> omega
  · unfold ve at q
    rcases v with v | v <;> unfold vb <;> omega
theorem ah_or {x y z : List Nat} (h : ah G W y z) (v : x = y ∨ vb G W x y) : ah G W x z := by
  rcases v with e | v
  · rw [e]
    exact h
  · exact ah_vb h v
theorem ah_uniq {x y : List Nat} (h1 : ah G W x y) (h2 : ah G W y x) : x = y := by
  have e : ve G W y x := by
    have a := h1.1
    have c := h2.1
    unfold vb at a c
    unfold ve
    omega
  rcases h1.2 e with q | q
  · exact q
  · rcases h2.2 ⟨e.1.symm, e.2.symm⟩ with q2 | q2
    · exact q2.symm
    · exact absurd (lx_tr q q2) (lx_irr _)
/-- what going through all lists that begin with p, with parts from j on, makes of the best up to then -/
def dS (G W : Nat → Int) (b : Int) (k j : Nat) (p B B' : List Nat) : Prop :=
  (B' = B ∨ ∃ f, B' = p ++ sg f k j ∧ wl W B' ≤ b) ∧ (B' = B ∨ vb G W B' B) ∧ ∀ f, sg f k j ≠ [] → wl W (p ++ sg f k j) ≤ b → ah G W B' (p ++ sg f k j)
def preS (k j : Nat) (p B : List Nat) : Prop := ∀ f, sg f k j ≠ [] → lx B (p ++ sg f k j)
theorem dS_0 {j : Nat} {p B : List Nat} : dS G W b 0 j p B B := ⟨Or.inl rfl, Or.inl rfl, fun f h => absurd rfl h⟩
theorem sg_off (f : Nat → Bool) (k j : Nat) : sg (fun i => decide (i ≠ j) && f i) (k + 1) j = sg f k (j + 1) := by
  rw [sg]
  simp only [ne_eq, not_true, decide_false, Bool.false_and, Bool.false_eq_true, if_false]
  exact sg_congr (fun i h1 h2 => by
    have : i ≠ j := by omega
    simp [this])
theorem sg_on (f : Nat → Bool) (k j : Nat) : sg (fun i => decide (i = j) || f i) (k + 1) j = j :: sg f k (j + 1) := by
  rw [sg]
  simp only [decide_true, Bool.true_or, if_true]
  congr 1
  exact sg_congr (fun i h1 h2 => by
    have : i ≠ j := by omega
    simp [this])
theorem sg_no (k j : Nat) : sg (fun _ => false) k j = [] := by
  cases h : sg (fun _ => false) k j with
  | nil => rfl
  | cons a x =>
    exfalso
    have key : ∀ k j, sg (fun _ => false) k j = [] := by
      intro k
      induction k with
      | zero => exact fun _ => rfl
      | succ k ih => exact fun j => by rw [sg]; exact ih (j + 1)
    rw [key] at h
    cases h
theorem pre_skip {k j : Nat} {p B : List Nat} (h : preS (k + 1) j p B) : preS k (j + 1) p B := fun f hf => by
  have := h (fun i => decide (i ≠ j) && f i) (by rw [sg_off]; exact hf)
  rwa [sg_off] at this
theorem dS_skip {k j : Nat} {p B B' : List Nat} (hW : ∀ i, i < j + (k + 1) → 1 ≤ W i) (hb : b < wl W p + W j) (d : dS G W b k (j + 1) p B B') : dS G W b (k + 1) j p B B' := by
  obtain ⟨d1, d2, d3⟩ := d
  refine ⟨d1.imp id (fun ⟨f, h1, h2⟩ => ⟨fun i => decide (i ≠ j) && f i, by rw [sg_off]; exact h1, h2⟩), d2, fun f hf hw => ?_⟩
  rw [sg] at hf hw ⊢
  split
  · rename_i c
    rw [if_pos c] at hw
    exfalso
    have h1 : wl W (p ++ [j]) ≤ wl W ((p ++ [j]) ++ sg f k (j + 1)) := wl_app _ _ (fun i hi => hW i (by have := sg_mem hi; omega))
    rw [wl_snoc, List.append_assoc] at h1
    have h2 : p ++ ([j] ++ sg f k (j + 1)) = p ++ j :: sg f k (j + 1) := rfl
    rw [h2] at h1
    omega
  · rename_i c
    rw [if_neg c] at hf hw
    exact d3 f hf hw
theorem app_c (p q : List Nat) (j : Nat) : (p ++ [j]) ++ q = p ++ j :: q := by simp
theorem pre_in1 {k j : Nat} {p B B1 : List Nat} (h : preS (k + 1) j p B) (e : B1 = B ∨ B1 = p ++ [j]) : preS k (j + 1) (p ++ [j]) B1 := fun f hf => by
  rcases e with e | e
  · have := h (fun i => decide (i = j) || f i) (by rw [sg_on]; exact List.cons_ne_nil _ _)
    rw [sg_on] at this
    rw [e, app_c]
    exact this
  · rw [e]
    exact lx_pre hf
theorem pre_out {k j : Nat} {p B B1 B2 : List Nat} (h : preS (k + 1) j p B) (e : B1 = B ∨ B1 = p ++ [j]) (d : dS G W b k (j + 1) (p ++ [j]) B1 B2) : preS k (j + 1) p B2 := fun f hf => by
  have hl : ∀ x, lx (p ++ j :: x) (p ++ sg f k (j + 1)) := fun x => (lx_app p).mpr (lx_hd hf)
  rcases d.1 with d1 | ⟨f1, d1, _⟩
  · rcases e with e | e
    · rw [d1, e]
      exact pre_skip h f hf
    · rw [d1, e]
      exact hl []
  · rw [d1, app_c]
    exact hl _
theorem vb_tr {x y z : List Nat} (h1 : x = y ∨ vb G W x y) (h2 : y = z ∨ vb G W y z) : x = z ∨ vb G W x z := by
  rcases h1 with e | h1
  · rw [e]
    exact h2
  · rcases h2 with e | h2
    · rw [← e]
      exact Or.inr h1
    · right
      unfold vb at *
      omega
theorem dS_pick {k j : Nat} {p B B1 B2 B3 : List Nat} (h : preS (k + 1) j p B) (hb : wl W (p ++ [j]) ≤ b) (e : (B1 = p ++ [j] ∧ vb G W (p ++ [j]) B) ∨ (B1 = B ∧ ¬ vb G W (p ++ [j]) B)) (d2 : dS G W b k (j + 1) (p ++ [j]) B1 B2) (d3 : dS G W b k (j + 1) p B2 B3) : dS G W b (k + 1) j p B B3 := by
  have e1 : B1 = B ∨ vb G W B1 B := by
    rcases e with ⟨e, v⟩ | ⟨e, _⟩
    · right
      rw [e]
      exact v
    · exact Or.inl e
  have hone : sg (fun i => decide (i = j) || false) (k + 1) j = [j] := by rw [sg_on (fun _ => false), sg_no]
  refine ⟨?_, vb_tr d3.2.1 (vb_tr d2.2.1 e1), fun f hf hw => ?_⟩
  · rcases d3.1 with q | ⟨f, q1, q2⟩
    · rw [q]
      rcases d2.1 with q | ⟨f, q1, q2⟩
      · rw [q]
        rcases e with ⟨e, _⟩ | ⟨e, _⟩
        · right
          refine ⟨fun i => decide (i = j) || false, ?_, ?_⟩
          · rw [hone]
            exact e
          · rw [e]
            exact hb
        · exact Or.inl e
      · right
        refine ⟨fun i => decide (i = j) || f i, ?_, q2⟩
        rw [sg_on, q1, app_c]
    · right
      exact ⟨fun i => decide (i ≠ j) && f i, by rw [sg_off]; exact q1, q2⟩
  · rw [sg] at hf hw ⊢
    split
    · rename_i c
      rw [if_pos c, ← app_c] at hw
      rw [← app_c]
      refine ah_or ?_ d3.2.1
      by_cases q : sg f k (j + 1) = []
      · rw [q, List.append_nil]
        refine ah_or ?_ d2.2.1
        rcases e with ⟨e, v⟩ | ⟨e, v⟩
        · rw [e]
          exact ah_rf _
        · rw [e]
          refine ⟨v, fun _ => Or.inr ?_⟩
          have := h (fun i => decide (i = j) || false) (by rw [hone]; exact List.cons_ne_nil _ _)
          rwa [hone] at this
      · exact d2.2.2 f q hw
    · rename_i c
      rw [if_neg c] at hf hw
      exact d3.2.2 f hf hw
/-! the reference's way: all masks -/
abbrev bm (n m : Nat) : List Nat := sg m.testBit n 0
abbrev btr (G W : Nat → Int) (b : Int) (n : Nat) (s m : Nat) : Prop := wl W (bm n s) ≤ b ∧ (vb G W (bm n s) (bm n m) ∨ (ve G W (bm n s) (bm n m) ∧ lx (bm n s) (bm n m)))
def bsN (G W : Nat → Int) (b : Int) (n : Nat) : Nat → Nat
  | 0 => 0
  | s + 1 => if btr G W b n (s + 1) (bsN G W b n s) then s + 1 else bsN G W b n s
theorem bsN_le (n : Nat) : ∀ s, bsN G W b n s ≤ s
  | 0 => Nat.le_refl _
  | s + 1 => by
    have := bsN_le n s
    rw [bsN]
    split <;> omega
theorem bm_0 (n : Nat) : bm n 0 = [] := by
  rw [← sg_no n 0]
  exact sg_congr (fun i _ _ => Nat.zero_testBit i)
theorem bsN_ah (hb : 0 ≤ b) (n : Nat) : ∀ s, wl W (bm n (bsN G W b n s)) ≤ b ∧ ∀ q, q ≤ s → wl W (bm n q) ≤ b → ah G W (bm n (bsN G W b n s)) (bm n q)
  | 0 => by
    refine ⟨?_, fun q hq _ => ?_⟩
    · show wl W (bm n 0) ≤ b
      rw [bm_0]
      exact hb
    · have : q = 0 := by omega
      subst this
      exact ah_rf _
  | s + 1 => by
    obtain ⟨h1, h2⟩ := bsN_ah hb n s
    rw [bsN]
    split
    · rename_i c
      refine ⟨c.1, fun q hq hw => ?_⟩
      by_cases e : q = s + 1
      · rw [e]
        exact ah_rf _
      · have h3 := h2 q (by omega) hw
        rcases c.2 with v | ⟨v, l⟩
        · exact ah_vb h3 v
        · refine ⟨fun x => h3.1 ?_, fun x => ?_⟩
          · unfold vb ve at *
            omega
          · rcases h3.2 (by unfold ve at *; omega) with y | y
            · rw [← y]
              exact Or.inr l
            · exact Or.inr (lx_tr l y)
    · rename_i c
      refine ⟨h1, fun q hq hw => ?_⟩
      by_cases e : q = s + 1
      · rw [e] at hw ⊢
        refine ⟨fun v => c ⟨hw, Or.inl v⟩, fun v => ?_⟩
        rcases lx_tot (bm n (bsN G W b n s)) (bm n (s + 1)) with y | y | y
        · exact Or.inl y
        · exact Or.inr y
        · exact absurd ⟨hw, Or.inr ⟨v, y⟩⟩ c
      · exact h2 q (by omega) hw
theorem mask_of (f : Nat → Bool) : ∀ n, ∃ m, m < 2 ^ n ∧ ∀ i, i < n → m.testBit i = f i
  | 0 => ⟨0, by decide, fun i h => by omega⟩
  | n + 1 => by
    obtain ⟨m, h1, h2⟩ := mask_of f n
    have hp : 2 ^ n < 2 ^ (n + 1) := Nat.pow_lt_pow_right (by decide) (by omega)
    by_cases c : f n = true
    · refine ⟨m ||| 2 ^ n, Nat.or_lt_two_pow (by omega) hp, fun i hi => ?_⟩
      rw [Nat.testBit_or, tb_pow]
      by_cases e : i = n
      · rw [e, c]
        simp
      · rw [h2 i (by omega), decide_eq_false (by omega), Bool.or_false]
    · refine ⟨m, by omega, fun i hi => ?_⟩
      by_cases e : i = n
      · rw [e, Nat.testBit_lt_two_pow h1]
        cases q : f n with
        | false => rfl
        | true => exact absurd q c
      · exact h2 i (by omega)
/-- both ways come to one list -/
theorem best_same {n : Nat} {B : List Nat} (hb : 0 ≤ b) (d : dS G W b n 0 [] [] B) : B = bm n (bsN G W b n (2 ^ n - 1)) := by
  obtain ⟨h1, h2⟩ := bsN_ah (G := G) (W := W) hb n (2 ^ n - 1)
  obtain ⟨d1, d2, d3⟩ := d
  have hpos : 0 < 2 ^ n := Nat.two_pow_pos n
  have hB : ∃ f, B = sg f n 0 ∧ wl W B ≤ b := by
    rcases d1 with e | ⟨f, e, w⟩
    · exact ⟨fun _ => false, by rw [sg_no]; exact e, by rw [e]; exact hb⟩
    · exact ⟨f, e, w⟩
  obtain ⟨f, e, w⟩ := hB
  obtain ⟨m, hm, hmf⟩ := mask_of f n
  have em : bm n m = B := by
    rw [e]
    exact sg_congr (fun i _ hi => hmf i (by omega))
  refine ah_uniq (G := G) (W := W) ?_ ?_
  · by_cases q : sg (bsN G W b n (2 ^ n - 1)).testBit n 0 = []
    · show ah G W B (sg _ n 0)
      rw [q]
      exact ah_or (ah_rf _) d2
    · exact d3 _ q h1
  · have := h2 m (by omega) (by rw [em]; exact w)
    rwa [em] at this
end BE
