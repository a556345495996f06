/-! KEPT ROWS: hold and bringBackHeld -/
theorem b_idiv_n {a b : Nat} (ha : a < 2147483648) (hb : b < 2147483648) (h0 : 0 < b) : b_idiv (a : Int) (b : Int) = ((a / b : Nat) : Int) := by
  unfold b_idiv
  have hq : a / b ≤ a := Nat.div_le_self a b
  have e : (a : Int).tdiv (b : Int) = ((a / b : Nat) : Int) := (Int.ofNat_tdiv a b).symm
  rw [Int32.toInt_div, i32_toInt (by unfold inR; omega), i32_toInt (by unfold inR; omega), e]
  clear e
  generalize a / b = q at *
  rw [Int.bmod_eq_of_le (by omega) (by omega)]
theorem b_irem_n {a b : Nat} (ha : a < 2147483648) (hb : b < 2147483648) (h0 : 0 < b) : b_irem (a : Int) (b : Int) = ((a % b : Nat) : Int) := by
  have hq := b_idiv_n ha hb h0
  unfold b_idiv at hq
  unfold b_irem
  have hm : a / b * b ≤ a := Nat.div_mul_le_self a b
  have hd := Nat.div_add_mod' a b
  rw [Int32.toInt_sub, Int32.toInt_mul, hq, i32_toInt (by unfold inR; omega), i32_toInt (by unfold inR; omega)]
  have e1 : ((a / b : Nat) : Int) * (b : Int) = ((a / b * b : Nat) : Int) := by simp
  rw [e1, Int.bmod_eq_of_le (n := ((a / b * b : Nat) : Int)) (by omega) (by omega), Int.bmod_eq_of_le (by omega) (by omega)]
  omega
theorem hold_35 {u k m r : Nat} {h : Hp} {Post : Int → Hp → Prop} (hu : u ≤ 1) (hk : k < h.2.2) (hk13 : k < 13) (hm : h.2.1 2 6 = (m : Int)) (hr : h.2.1 2 7 = (r : Int)) (m6 : m ≤ 600) (r1 : r ≤ 10) (K : Post 0 (cpR h (46 + 7 * k) 2 m r)) :
    Ok shC 1 u mX4_hold 35 [some (pR 38), some (pR 2), some (pI k)] [] h Post := by
  have s39 : (shC h.2.2)[39]? = some (shQ 13 (fun k => if k < h.2.2 then some (46 + 7 * k) else none)) := shC_39 _
  have sR : (shC h.2.2)[46 + 7 * k]? = some (shO 5 [some (46 + 7 * k + 1), some (46 + 7 * k + 2), some (46 + 7 * k + 3), some (46 + 7 * k + 4), some (46 + 7 * k + 5), some (46 + 7 * k + 6), none, none]) := (shC_slot (i := 0) hk (by decide)).trans rfl
  refine Ok.aload_n (pc' := 36) rfl dX4_hold_35 rfl ?_
  refine Ok.getR (pc' := 39) (k := 0) dX4_hold_36 rfl (shC_38 _) rfl inX4 (by decide) rfl wd_325 rfl ?_
  refine Ok.iload_n (pc' := 40) rfl dX4_hold_39 rfl ?_
  refine Ok.aaload (pc' := 41) dX4_hold_40 rfl s39 rfl hk13 (by decide) (if_pos hk) ?_
  refine Ok.aload_n (pc' := 42) rfl dX4_hold_41 rfl ?_
  refine Ok.callV (pc' := 45) (av := [pR 2]) (rest := []) dX4_hold_42 rfl hu cvX4_hold_25 sR rfl rfl rfl (leb rfl) (leb rfl) (sX5_copyFrom_0 (Post := fun q h' => q = 0 ∧ h' = cpR h (46 + 7 * k) 2 m r) (Or.inr ⟨k, hk, rfl⟩) (Or.inl rfl) hm hr m6 r1 ⟨rfl, rfl⟩) (fun q h' K2 => ?_)
  obtain ⟨rfl, rfl⟩ := K2
  exact Ok.vret dX4_hold_45 rfl hu K
theorem c_hold {f z m r : Nat} {h : Hp} {Post : Int → Hp → Prop} (hf : h.2.1 38 1 = (f : Int)) (hz : h.2.1 38 2 = (z : Int)) (hfz : f + z < 1000) (hc : (f + z) % 13 ≤ h.2.2) (hm : h.2.1 2 6 = (m : Int)) (hr : h.2.1 2 7 = (r : Int)) (m6 : m ≤ 600) (r1 : r ≤ 10)
    (K : Post 0 (cpR (if (f + z) % 13 < h.2.2 then h else fresh h) (46 + 7 * ((f + z) % 13)) 2 m r)) : Cl1 shC mX4_hold [pR 38, pR 2] h Post := by
  show Ok shC 1 0 mX4_hold 0 [some (pR 38), some (pR 2), none] [] h Post
  have k13 : (f + z) % 13 < 13 := Nat.mod_lt _ (by decide)
  have s39 : (shC h.2.2)[39]? = some (shQ 13 (fun k => if k < h.2.2 then some (46 + 7 * k) else none)) := shC_39 _
  refine Ok.aload_n (pc' := 1) rfl dX4_hold_0 rfl ?_
  refine Ok.getI (pc' := 4) (z := (f : Int)) (k := 1) dX4_hold_1 rfl (shC_38 _) rfl inX4 (by decide) rfl hf wd_326 rfl ?_
  refine Ok.aload_n (pc' := 5) rfl dX4_hold_4 rfl ?_
  refine Ok.getI (pc' := 8) (z := (z : Int)) (k := 2) dX4_hold_5 rfl (shC_38 _) rfl inX4 (by decide) rfl hz wd_327 rfl ?_
  refine Ok.iadd (pc' := 9) dX4_hold_8 rfl (by unfold inR; omega) ?_
  refine Ok.bipush (pc' := 11) ⟨by decide, by decide⟩ dX4_hold_9 rfl ?_
  refine Ok.irem (pc' := 12) dX4_hold_11 rfl (by decide) ?_
  have e1 : b_irem ((f : Int) + (z : Int)) 13 = (((f + z) % 13 : Nat) : Int) := b_irem_n (a := f + z) (b := 13) (by omega) (by decide) (by decide)
  rw [e1]
  generalize (f + z) % 13 = k at *
  refine Ok.istore_n (pc' := 13) (ls' := [some (pR 38), some (pR 2), some (pI (k : Int))]) dX4_hold_12 rfl (by decide) rfl rfl ?_
  refine Ok.aload_n (pc' := 14) rfl dX4_hold_13 rfl ?_
  refine Ok.getR (pc' := 17) (k := 0) dX4_hold_14 rfl (shC_38 _) rfl inX4 (by decide) rfl wd_325 rfl ?_
  refine Ok.iload_n (pc' := 18) rfl dX4_hold_17 rfl ?_
  by_cases hk : k < h.2.2
  · rw [if_pos hk] at K
    refine Ok.aaload (pc' := 19) dX4_hold_18 rfl s39 rfl k13 (by decide) (if_pos hk) ?_
    refine Ok.ifnn (pc' := 35) dX4_hold_19 rfl ?_
    exact hold_35 (by decide) hk k13 hm hr m6 r1 K
  · rw [if_neg hk] at K
    have hkc : k = h.2.2 := by omega
    refine Ok.aanull (pc1 := 19) (pc' := 22) dX4_hold_18 rfl dX4_hold_19 rfl s39 rfl k13 (by decide) (if_neg hk) ?_
    refine Ok.aload_n (pc' := 23) rfl dX4_hold_22 rfl ?_
    refine Ok.getR (pc' := 26) (k := 0) dX4_hold_23 rfl (shC_38 _) rfl inX4 (by decide) rfl wd_325 rfl ?_
    refine Ok.iload_n (pc' := 27) rfl dX4_hold_26 rfl ?_
    refine hold_new hkc k13 ?_
    refine hold_35 (h := fresh h) (Nat.le_refl _) (by show k < h.2.2 + 1; omega) k13 ?_ ?_ m6 r1 K
    · show (if 46 + 7 * h.2.2 ≤ 2 then 0 else h.2.1 2 6) = _
      rw [if_neg (by omega)]
      exact hm
    · show (if 46 + 7 * h.2.2 ≤ 2 then 0 else h.2.1 2 7) = _
      rw [if_neg (by omega)]
      exact hr
theorem c_bring {f z m r : Nat} {h : Hp} {Post : Int → Hp → Prop} (hf : h.2.1 38 1 = (f : Int)) (hz : h.2.1 38 2 = (z : Int)) (hfz : f + z < 1000) (hc : (f + z) % 13 < h.2.2) (hm : h.2.1 (46 + 7 * ((f + z) % 13)) 6 = (m : Int)) (hr : h.2.1 (46 + 7 * ((f + z) % 13)) 7 = (r : Int)) (m6 : m ≤ 600) (r1 : r ≤ 10)
    (K : Post 0 (cpR h 2 (46 + 7 * ((f + z) % 13)) m r)) : Cl shC mX4_bringBackHeld [pR 38, pR 2] h Post := by
  show Ok shC 0 0 mX4_bringBackHeld 0 [some (pR 38), some (pR 2), none] [] h Post
  have k13 : (f + z) % 13 < 13 := Nat.mod_lt _ (by decide)
  have s39 : (shC h.2.2)[39]? = some (shQ 13 (fun k => if k < h.2.2 then some (46 + 7 * k) else none)) := shC_39 _
  refine Ok.aload_n (pc' := 1) rfl dX4_bringBackHeld_0 rfl ?_
  refine Ok.getR (pc' := 4) (k := 0) dX4_bringBackHeld_1 rfl (shC_38 _) rfl inX4 (by decide) rfl wd_325 rfl ?_
  refine Ok.aload_n (pc' := 5) rfl dX4_bringBackHeld_4 rfl ?_
  refine Ok.getI (pc' := 8) (z := (f : Int)) (k := 1) dX4_bringBackHeld_5 rfl (shC_38 _) rfl inX4 (by decide) rfl hf wd_326 rfl ?_
  refine Ok.aload_n (pc' := 9) rfl dX4_bringBackHeld_8 rfl ?_
  refine Ok.getI (pc' := 12) (z := (z : Int)) (k := 2) dX4_bringBackHeld_9 rfl (shC_38 _) rfl inX4 (by decide) rfl hz wd_327 rfl ?_
  refine Ok.iadd (pc' := 13) dX4_bringBackHeld_12 rfl (by unfold inR; omega) ?_
  refine Ok.bipush (pc' := 15) ⟨by decide, by decide⟩ dX4_bringBackHeld_13 rfl ?_
  refine Ok.irem (pc' := 16) dX4_bringBackHeld_15 rfl (by decide) ?_
  have e1 : b_irem ((f : Int) + (z : Int)) 13 = (((f + z) % 13 : Nat) : Int) := b_irem_n (a := f + z) (b := 13) (by omega) (by decide) (by decide)
  rw [e1]
  generalize (f + z) % 13 = k at *
  have sR : (shC h.2.2)[46 + 7 * k]? = some (shO 5 [some (46 + 7 * k + 1), some (46 + 7 * k + 2), some (46 + 7 * k + 3), some (46 + 7 * k + 4), some (46 + 7 * k + 5), some (46 + 7 * k + 6), none, none]) := (shC_slot (i := 0) hc (by decide)).trans rfl
  refine Ok.aaload (pc' := 17) dX4_bringBackHeld_16 rfl s39 rfl k13 (by decide) (if_pos hc) ?_
  refine Ok.astore_n (pc' := 18) (ls' := [some (pR 38), some (pR 2), some (pR (46 + 7 * k))]) dX4_bringBackHeld_17 rfl (by decide) rfl rfl ?_
  refine Ok.aload_n (pc' := 19) rfl dX4_bringBackHeld_18 rfl ?_
  refine Ok.ifnl (pc' := 22) dX4_bringBackHeld_19 rfl ?_
  refine Ok.aload_n (pc' := 23) rfl dX4_bringBackHeld_22 rfl ?_
  refine Ok.aload_n (pc' := 24) rfl dX4_bringBackHeld_23 rfl ?_
  refine Ok.callV (pc' := 27) (av := [pR (46 + 7 * k)]) (rest := []) dX4_bringBackHeld_24 rfl (by decide) cvX4_bringBackHeld_25 (shC_2 _) rfl rfl rfl (leb rfl) (leb rfl) (sX5_copyFrom_0 (Post := fun q h' => q = 0 ∧ h' = cpR h 2 (46 + 7 * k) m r) (Or.inl rfl) (Or.inr ⟨k, hc, rfl⟩) hm hr m6 r1 ⟨rfl, rfl⟩) (fun q h' K2 => ?_)
  obtain ⟨rfl, rfl⟩ := K2
  exact Ok.vret dX4_bringBackHeld_27 rfl (by decide) K
