/-! PURE MACHINE: ints as Int (in range), references as numbers of cells; a heap is what the int arrays and the int fields hold, and how many of the lazy cells there are. -/
abbrev PV : Type := Int ⊕ (Nat ⊕ Int)
abbrev pI (z : Int) : PV := Sum.inl z
abbrev pR (o : Nat) : PV := Sum.inr (Sum.inl o)
abbrev pL (z : Int) : PV := Sum.inr (Sum.inr z)
abbrev Hp : Type := (Nat → Nat → Int) × ((Nat → Nat → Int) × Nat)
def inR (z : Int) : Prop := -2147483648 ≤ z ∧ z < 2147483648
def inL (z : Int) : Prop := -9223372036854775808 ≤ z ∧ z < 9223372036854775808
def cnV (v : PV) : Prop := match v with
  | .inl z => inR z
  | .inr (.inl _) => True
  | .inr (.inr z) => inL z
abbrev i32 (z : Int) : Int32 := Int32.ofInt z
abbrev i64 (z : Int) : Int64 := Int64.ofInt z
def trV (ad : Nat → Nat) (v : PV) : Value := match v with
  | .inl z => .int (i32 z)
  | .inr (.inl o) => .ref (ad o)
  | .inr (.inr z) => .long (i64 z)
def wr (z : Int) : Int := (i32 z).toInt
theorem i32_toInt {z : Int} (h : inR z) : (i32 z).toInt = z := Int32.toInt_ofInt_of_le (by unfold inR at h; omega) (by unfold inR at h; omega)
theorem i64_toInt {z : Int} (h : inL z) : (i64 z).toInt = z := Int64.toInt_ofInt_of_le (by unfold inL at h; omega) (by unfold inL at h; omega)
theorem wr_in (z : Int) : inR (wr z) := by
  have h1 := Int32.le_toInt (i32 z)
  have h2 := Int32.toInt_lt (i32 z)
  unfold inR wr
  omega
theorem wr_id {z : Int} (h : inR z) : wr z = z := i32_toInt h
theorem i32_wr (z : Int) : i32 (wr z) = i32 z := Int32.ofInt_toInt _
theorem i32_lt {x y : Int} (hx : inR x) (hy : inR y) : i32 x < i32 y ↔ x < y := by
  rw [Int32.lt_iff_toInt_lt, i32_toInt hx, i32_toInt hy]
theorem i32_le {x y : Int} (hx : inR x) (hy : inR y) : i32 x ≤ i32 y ↔ x ≤ y := by
  rw [Int32.le_iff_toInt_le, i32_toInt hx, i32_toInt hy]
theorem i32_eq {x y : Int} (hx : inR x) (hy : inR y) : i32 x = i32 y ↔ x = y := by
  rw [← Int32.toInt_inj, i32_toInt hx, i32_toInt hy]
theorem i32_nat {z : Int} (h : inR z) : (i32 z).toNatClampNeg = z.toNat := Int32.toNatClampNeg_ofInt_of_le (by unfold inR at h; omega) (by unfold inR at h; omega)
theorem i32_in {k n : Nat} (hk : k < n) (hn : n < 2147483648) : vp_in (i32 (k : Int)) n := by
  have hr : inR (k : Int) := by unfold inR; omega
  unfold vp_in
  rw [i32_nat hr]
  have h0 : (0 : Int32) = i32 0 := rfl
  rw [h0, i32_lt hr (by unfold inR; omega)]
  omega
theorem i32_k {k : Nat} (hk : k < 2147483648) : (i32 (k : Int)).toNatClampNeg = k := by
  rw [i32_nat (by unfold inR; omega)]
  rfl
/-! shapes -/
abbrev Sh : Type := Nat ⊕ ((Nat × List (Option Nat)) ⊕ (Nat × (Nat → Option Nat)))
abbrev shA (n : Nat) : Sh := Sum.inl n
abbrev shO (ci : Nat) (fs : List (Option Nat)) : Sh := Sum.inr (Sum.inl (ci, fs))
abbrev shQ (n : Nat) (f : Nat → Option Nat) : Sh := Sum.inr (Sum.inr (n, f))
def fv (ad : Nat → Nat) (I : Nat → Int) (k : Nat) (f : Option Nat) : Value := match f with
  | none => .int (i32 (I k))
  | some o => .ref (ad o)
def fvs (ad : Nat → Nat) (I : Nat → Int) (fs : List (Option Nat)) : List Value := fs.mapIdx (fun k f => fv ad I k f)
def ent (cI cQ : ClassId) (ad : Nat → Nat) (h : Hp) (o : Nat) (sh : Sh) : va_E := match sh with
  | .inl n => .inl (cI, n, .inl (fun j => i32 (h.1 o j)))
  | .inr (.inl (ci, fs)) => .inr (ci, fvs ad (h.2.1 o) fs)
  | .inr (.inr (n, f)) => .inl (cQ, n, .inr (.inr (.inr (.inr (fun j => (f j).map ad)))))
def wld (cI cQ : ClassId) (ad : Nat → Nat) (S : List Sh) (h : Hp) : va_W := S.mapIdx (fun o sh => (ad o, ent cI cQ ad h o sh))
theorem wld_at {cI cQ : ClassId} {ad : Nat → Nat} {S : List Sh} {h : Hp} {o : Nat} {sh : Sh} (hs : S[o]? = some sh) : (wld cI cQ ad S h)[o]? = some (ad o, ent cI cQ ad h o sh) := by
  unfold wld
  rw [List.getElem?_mapIdx, hs]
  rfl
def hA (h : Hp) (a i : Nat) (z : Int) : Hp := (fun a' i' => if a' = a ∧ i' = i then z else h.1 a' i', h.2)
def hI (h : Hp) (o k : Nat) (z : Int) : Hp := (h.1, (fun o' k' => if o' = o ∧ k' = k then z else h.2.1 o' k', h.2.2))
def cnH (h : Hp) : Prop := (∀ a i, inR (h.1 a i)) ∧ ∀ o k, inR (h.2.1 o k)
theorem cnH.A {h : Hp} (c : cnH h) {z : Int} (hz : inR z) (a i : Nat) : cnH (hA h a i z) := by
  refine ⟨fun a' i' => ?_, c.2⟩
  show inR (if a' = a ∧ i' = i then z else h.1 a' i')
  split
  · exact hz
  · exact c.1 a' i'
theorem cnH.I {h : Hp} (c : cnH h) {z : Int} (hz : inR z) (o k : Nat) : cnH (hI h o k z) := by
  refine ⟨c.1, fun o' k' => ?_⟩
  show inR (if o' = o ∧ k' = k then z else h.2.1 o' k')
  split
  · exact hz
  · exact c.2 o' k'
theorem wld_A {cI cQ : ClassId} {ad : Nat → Nat} {S : List Sh} {h : Hp} {a n : Nat} (hs : S[a]? = some (shA n)) (i : Nat) (z : Int) :
    (wld cI cQ ad S h).set a (ad a, .inl (cI, n, .inl (upd (fun j => i32 (h.1 a j)) i (i32 z)))) = wld cI cQ ad S (hA h a i z) := by
  apply List.ext_getElem?
  intro o
  by_cases ho : o = a
  · subst ho
    have hl : o < (wld cI cQ ad S h).length := by
      unfold wld
      rw [List.length_mapIdx]
      exact (List.getElem?_eq_some_iff.mp hs).1
    rw [List.getElem?_set_self hl, wld_at hs]
    simp only [ent, hA]
    congr 6
    funext j
    simp only [upd]
    by_cases hj : j = i <;> simp [hj]
  · rw [List.getElem?_set_ne (fun q => ho q.symm)]
    unfold wld
    rw [List.getElem?_mapIdx, List.getElem?_mapIdx]
    cases hso : S[o]? with
    | none => rfl
    | some sh =>
      rcases sh with n' | ⟨ci, fs⟩ | ⟨n', f⟩ <;> simp [ent, hA, ho]
theorem fvs_at {ad : Nat → Nat} {I : Nat → Int} {fs : List (Option Nat)} {k : Nat} {f : Option Nat} (h : fs[k]? = some f) : (fvs ad I fs)[k]? = some (fv ad I k f) := by
  unfold fvs
  rw [List.getElem?_mapIdx, h]
  rfl
theorem wld_I {cI cQ : ClassId} {ad : Nat → Nat} {S : List Sh} {h : Hp} {o ci k : Nat} {fs : List (Option Nat)} (hs : S[o]? = some (shO ci fs)) (hk : fs[k]? = some none) (z : Int) :
    (wld cI cQ ad S h).set o (ad o, .inr (ci, (fvs ad (h.2.1 o) fs).set k (.int (i32 z)))) = wld cI cQ ad S (hI h o k z) := by
  apply List.ext_getElem?
  intro q
  by_cases ho : q = o
  · subst ho
    have hl : q < (wld cI cQ ad S h).length := by
      unfold wld
      rw [List.length_mapIdx]
      exact (List.getElem?_eq_some_iff.mp hs).1
    rw [List.getElem?_set_self hl, wld_at hs]
    simp only [ent, hI]
    congr 4
    apply List.ext_getElem?
    intro j
    unfold fvs
    by_cases hj : j = k
    · subst hj
      have hl2 : j < (fs.mapIdx (fun k f => fv ad (h.2.1 q) k f)).length := by
        rw [List.length_mapIdx]
        exact (List.getElem?_eq_some_iff.mp hk).1
      rw [List.getElem?_set_self hl2, List.getElem?_mapIdx, hk]
      simp [fv]
    · rw [List.getElem?_set_ne (fun e => hj e.symm), List.getElem?_mapIdx, List.getElem?_mapIdx]
      cases fs[j]? with
      | none => rfl
      | some f => cases f <;> simp [fv, hj]
  · rw [List.getElem?_set_ne (fun e => ho e.symm)]
    unfold wld
    rw [List.getElem?_mapIdx, List.getElem?_mapIdx]
    cases hso : S[q]? with
    | none => rfl
    | some sh =>
      rcases sh with n' | ⟨ci', fs'⟩ | ⟨n', f⟩ <;> simp [ent, hI, ho]
/-! locals -/
def lvl (ad : Nat → Nat) (ls : List (Option PV)) : List (Nat × Value) := (ls.mapIdx (fun i v => (i, v))).filterMap (fun q => q.2.map (fun v => (q.1, trV ad v)))
theorem lvl_mem {ad : Nat → Nat} {ls : List (Option PV)} {q : Nat × Value} : q ∈ lvl ad ls ↔ ∃ v, ls[q.1]? = some (some v) ∧ q.2 = trV ad v := by
  unfold lvl
  rw [List.mem_filterMap]
  constructor
  · rintro ⟨⟨i, w⟩, hm, he⟩
    obtain ⟨j, hj⟩ := List.getElem?_of_mem hm
    rw [List.getElem?_mapIdx] at hj
    cases hl : ls[j]? with
    | none => rw [hl] at hj; cases hj
    | some w' =>
      rw [hl] at hj
      cases hj
      cases w with
      | none => cases he
      | some v =>
        cases he
        exact ⟨v, hl, rfl⟩
  · rintro ⟨v, h1, h2⟩
    refine ⟨(q.1, some v), List.mem_of_getElem? (i := q.1) ?_, ?_⟩
    · rw [List.getElem?_mapIdx, h1]
      rfl
    · show some (q.1, trV ad v) = some q
      rw [← h2]
def LVs (ad : Nat → Nat) (LS : Array Slot) (n : Nat) (ls : List (Option PV)) : Prop := lv_has LS n (lvl ad ls) ∧ ∀ v, some v ∈ ls → cnV v
theorem LVs.at {ad : Nat → Nat} {LS : Array Slot} {n : Nat} {ls : List (Option PV)} (h : LVs ad LS n ls) {i : Nat} {v : PV} (hi : ls[i]? = some (some v)) : LS[i]? = some (.val (trV ad v)) := h.1.2.2 (i, trV ad v) (lvl_mem.mpr ⟨v, hi, rfl⟩)
theorem LVs.cn {ad : Nat → Nat} {LS : Array Slot} {n : Nat} {ls : List (Option PV)} (h : LVs ad LS n ls) {i : Nat} {v : PV} (hi : ls[i]? = some (some v)) : cnV v := h.2 v (List.mem_of_getElem? hi)
def nl (v : Option PV) : Bool := match v with
  | some (.inr (.inr _)) => false
  | _ => true
theorem nl_cat {ad : Nat → Nat} {v : PV} (h : nl (some v) = true) : (trV ad v).category = 1 := by
  rcases v with z | o | z
  · rfl
  · rfl
  · cases h
theorem LVs.set {ad : Nat → Nat} {LS' : Array Slot} {n i : Nat} {v : PV} {ls ls' : List (Option PV)} (hc : ∀ v, some v ∈ ls → cnV v) (hv : cnV v) (hn : ls.all nl = true) (he : ls.set i (some v) = ls')
    (h : lv_has LS' n ((i, trV ad v) :: (lvl ad ls).filter (fun q => !(q.1 == i) && !(q.1 + 1 == i && q.2.category == 2)))) : LVs ad LS' n ls' := by
  subst he
  refine ⟨⟨h.1, h.2.1, fun q hq => ?_⟩, fun w hw => ?_⟩
  · obtain ⟨w, h1, h2⟩ := lvl_mem.mp hq
    apply h.2.2
    by_cases hi : q.1 = i
    · have hlt : i < ls.length := by
        have := (List.getElem?_eq_some_iff.mp h1).1
        rw [List.length_set] at this
        omega
      rw [hi, List.getElem?_set_self hlt] at h1
      cases h1
      rw [List.mem_cons]
      left
      rw [← hi, ← h2]
    · rw [List.getElem?_set_ne (fun e => hi e.symm)] at h1
      rw [List.mem_cons]
      right
      rw [List.mem_filter]
      refine ⟨lvl_mem.mpr ⟨w, h1, h2⟩, ?_⟩
      have hw := List.all_eq_true.mp hn _ (List.mem_of_getElem? h1)
      have hcat := nl_cat (ad := ad) hw
      rw [← h2] at hcat
      simp [hi, hcat]
  · rcases List.mem_or_eq_of_mem_set hw with h1 | h1
    · exact hc w h1
    · cases h1
      exact hv
/-! the words that go along with a call: those that stay when classes warm, and those of nest mates -/
def isNest (w : Cond) : Bool := match w with
  | .fieldLinkNest .. => true
  | .methodLinkNest .. => true
  | _ => false
def lw_g : List Cond := lw_tbl.filter goodWord
def lw_n : List Cond := lw_tbl.filter isNest
def lw_u : List Cond := lw_g ++ lw_n
theorem lw_in {w : Cond} (h : w ∈ lw_tbl) (hg : goodWord w = true) : w ∈ lw_u := List.mem_append_left _ (List.mem_filter.mpr ⟨h, hg⟩)
theorem lw_inN {w : Cond} (h : w ∈ lw_tbl) (hg : isNest w = true) : w ∈ lw_u := List.mem_append_right _ (List.mem_filter.mpr ⟨h, hg⟩)
theorem lw_good : lw_g.all goodWord = true := List.all_eq_true.mpr fun _ h => (List.mem_filter.mp h).2
theorem isNest_tab {w : Cond} (h : isNest w = true) : w.onTables = true := by cases w <;> first | rfl | cases h
theorem isNest_warm {w : Cond} (h : isNest w = true) {s U : State} (hW : s.WarmedH U.vm) (hz : va_Nw w s) : va_Nw w U := by
  cases w <;> first | exact va_Nw.warmF hW hz | exact va_Nw.warmM hW hz | cases h
/-! methods: class, name, bytes, locals, answer, frames, words of locals below -/
abbrev MI : Type := String × MethodName × ByteArray × Nat × Option FieldType × Nat × Nat
abbrev slz : Nat := 3628
def stN (k : Nat) : String := if k = 0 then "COST_OF_KIND" else "PARTS_OF_KIND"
def stT (k : Nat) (j : Nat) : Int := if k = 0 then [0, 0, 1, 1, 1, 0, 0, 1, 1, 1, 1, 0].getD j 0 else [0, 0, 2, 3, 1, 2, 0, 1, 2, 1, 2, 1].getD j 0
def stZ (ad : Nat → Nat) (A : Nat → Prop) (s : State) : Prop := ∀ k, k < 2 → va_Z "CallMelt" (stN k) "[I" (.ref (ad (1000000 + k))) A s s.heap ∧ va_T .int (ad (1000000 + k)) 12 (fun j => .int (i32 (stT k j))) A s s.heap
def Cx (T : Nat) (F : MI) (p : Program) (R : Room) (s : State) (m : MethodId) (args : Array Value) (meth : Method) (c : Code) (D : va_G) (cI cQ : ClassId) (A : Nat → Prop) : Prop :=
  p.tables.exec = Jvm.exec ∧ c.code = F.2.2.1 ∧ meth.sig.returnType = F.2.2.2.2.1 ∧ c.maxLocals = F.2.2.2.1 ∧ s.vm.findClass F.1 = some m.cls ∧ (∀ w ∈ lw_u, w.before args s = true) ∧ meth.locks = false ∧
  F.2.2.2.2.2.1 ≤ R.frames ∧ F.2.2.2.2.2.2 ≤ R.locals ∧ 7 * T ≤ R.cells ∧ slz * T ≤ R.slots ∧ va_K D vwCl [(cI, .int), (cQ, .object RX5)] s ∧ ∀ q, s.heap.size ≤ q → A q
def Wd (Sg : Nat → List Sh) (D : va_G) (cI cQ : ClassId) (A : Nat → Prop) (s : State) (ad : Nat → Nat) (h : Hp) (H : Heap) (locs : List Loc) : Prop :=
  va_P D vwCl (wld cI cQ ad (Sg h.2.2) h) H ∧ va_D A (wld cI cQ ad (Sg h.2.2) h) ∧ va_S A s.heap H locs ∧ cnH h ∧ stZ ad A s
def Ext (Sg : Nat → List Sh) (T : Nat) (ad : Nat → Nat) (c : Nat) (ad' : Nat → Nat) (c' : Nat) : Prop :=
  (T = 0 → ad' = ad ∧ c' = c) ∧ c ≤ c' ∧ ∀ i, (i < (Sg c).length ∨ 1000000 ≤ i) → ad' i = ad i
theorem Ext.rf {Sg : Nat → List Sh} {T : Nat} {ad : Nat → Nat} {c : Nat} : Ext Sg T ad c ad c := ⟨fun _ => ⟨rfl, rfl⟩, Nat.le_refl _, fun _ _ => rfl⟩
def retOf (ret : Option FieldType) (r : Int) (v : Option Value) : Prop := match ret with
  | none => v = none ∧ r = 0
  | some _ => v = some (.int (i32 r))
def Rt (Sg : Nat → List Sh) (T : Nat) (F : MI) (D : va_G) (cI cQ : ClassId) (A : Nat → Prop) (s : State) (args : Array Value) (Qc : Array Value → State → Outcome → State → Prop) (ad : Nat → Nat) (h : Hp) (Post : Int → Hp → Prop) : Prop :=
  ∀ (r : Int) (h' : Hp) (ad' : Nat → Nat) (t : State) (v : Option Value), Post r h' → Ext Sg T ad h.2.2 ad' h'.2.2 → va_P D vwCl (wld cI cQ ad' (Sg h'.2.2) h') t.heap → va_D A (wld cI cQ ad' (Sg h'.2.2) h') → cnH h' → inR r → retOf F.2.2.2.2.1 r v → s.WarmedH t.vm → va_F A s t → Qc args s (.returned v) t
def Ok (Sg : Nat → List Sh) (T u : Nat) (F : MI) (pc : Nat) (ls : List (Option PV)) (st : List PV) (h : Hp) (Post : Int → Hp → Prop) : Prop :=
  ∀ (p : Program) (l : Launch) (e : Env) (R : Room) (s : State) (m : MethodId) (args : Array Value) (below : List Frame) (meth : Method) (c : Code) (D : va_G) (cI cQ : ClassId) (A : Nat → Prop) (ad : Nat → Nat) (H : Heap) (locs : List Loc) (LS : Array Slot) (Qc : Array Value → State → Outcome → State → Prop) (free : Addr → Prop),
    Cx T F p R s m args meth c D cI cQ A → Wd Sg D cI cQ A s ad h H locs → LVs ad LS F.2.2.2.1 ls → (∀ v ∈ st, cnV v) → (∀ q : Nat, A q → free q) → Rt Sg T F D cI cQ A s args Qc ad h Post →
    W p l e R s m args below meth c H locs (7 * u) (slz * u) (MQ below Qc args s (7 * T) (slz * T) free) (F0 m pc LS (st.map (trV ad)))
theorem Ok.mono {Sg : Nat → List Sh} {T u : Nat} {F : MI} {pc : Nat} {ls : List (Option PV)} {st : List PV} {h : Hp} {P Q : Int → Hp → Prop} (k : Ok Sg T u F pc ls st h P) (hpq : ∀ r h', P r h' → inR r → cnH h' → Q r h') : Ok Sg T u F pc ls st h Q := by
  intro p l e R s m args below meth c D cI cQ A ad H locs LS Qc free C Wd L cs hf hq
  exact k p l e R s m args below meth c D cI cQ A ad H locs LS Qc free C Wd L cs hf (fun r h' ad' t v hp e1 e2 e3 e4 e5 e6 e7 e8 => hq r h' ad' t v (hpq r h' hp e5 e4) e1 e2 e3 e4 e5 e6 e7 e8)
/-- ranges of what is held -/
theorem Ok.rng {Sg : Nat → List Sh} {T u : Nat} {F : MI} {pc : Nat} {ls : List (Option PV)} {st : List PV} {h : Hp} {P : Int → Hp → Prop} (k : cnH h → (∀ v ∈ st, cnV v) → (∀ v, some v ∈ ls → cnV v) → Ok Sg T u F pc ls st h P) : Ok Sg T u F pc ls st h P := by
  intro p l e R s m args below meth c D cI cQ A ad H locs LS Qc free C Wd L cs hf hq
  exact k Wd.2.2.2.1 cs L.2 p l e R s m args below meth c D cI cQ A ad H locs LS Qc free C Wd L cs hf hq
