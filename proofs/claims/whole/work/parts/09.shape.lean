/-! THE CLASS'S WORLD: 0: OX8 code=1 machine=19 melter=28 worker=30 past=38 choice=40; 1: OX1 rows=2 walk=9 held=14; 2: OX5 kinds=3 numbers=4 parts=5 parents=6 params=7 bodies=8 made=None routines=None; 3: A600; 4: A600; 5: A1800; 6: A600; 7: A10; 8: A10; 9: OX6 steps=10 deep=11 waiting=12 waitingDeep=13 size=None; 10: A600; 11: A600; 12: A120; 13: A120; 14: OX6 steps=15 deep=16 waiting=17 waitingDeep=18 size=None; 15: A600; 16: A600; 17: A120; 18: A120; 19: OX2 code=1 counts=20 row=21 uses=22 names=23 openedBy=24 steps=25 came=26 kept=27 top=None open=None left=None tookEver=None refusal=None value=None took=None mostOpen=None refused=None; 20: A600; 21: A8; 22: A10; 23: A480; 24: A12; 25: A480; 26: A480; 27: A1920; 28: OX3 code=1 walk=14 latest=29; 29: A41; 30: OX7 code=1 walk=14 inner=31 sets=36 names=37 isFull=None place=None value=None fixed=None; 31: OX6 steps=32 deep=33 waiting=34 waitingDeep=35 size=None; 32: A600; 33: A600; 34: A120; 35: A120; 36: A40; 37: A40; 38: OX4 slots=39 first=None size=None; 39: Q13; 40: OX0 code=1 melter=28 machine=19 calls=41 gains=42 weights=43 laidCalls=44 picked=45 looked=None pickedSize=None laidGain=None laidWeight=None laidSize=None; 41: A12; 42: A12; 43: A12; 44: A12; 45: A12 -/
def rowSh (o : Nat) : List Sh := [shO 5 [some (o + 1), some (o + 2), some (o + 3), some (o + 4), some (o + 5), some (o + 6), none, none], shA 600, shA 600, shA 1800, shA 600, shA 10, shA 10]
def slots : Nat → Nat → List Sh
  | _, 0 => []
  | o, n + 1 => rowSh o ++ slots (o + 7) n
def shC (c : Nat) : List Sh := [shO 8 [some 1, some 19, some 28, some 30, some 38, some 40], shO 1 [some 2, some 9, some 14], shO 5 [some 3, some 4, some 5, some 6, some 7, some 8, none, none], shA 600, shA 600, shA 1800, shA 600, shA 10, shA 10, shO 6 [some 10, some 11, some 12, some 13, none], shA 600, shA 600, shA 120, shA 120, shO 6 [some 15, some 16, some 17, some 18, none], shA 600, shA 600, shA 120, shA 120, shO 2 [some 1, some 20, some 21, some 22, some 23, some 24, some 25, some 26, some 27, none, none, none, none, none, none, none, none, none], shA 600, shA 8, shA 10, shA 480, shA 12, shA 480, shA 480, shA 1920, shO 3 [some 1, some 14, some 29], shA 41, shO 7 [some 1, some 14, some 31, some 36, some 37, none, none, none, none], shO 6 [some 32, some 33, some 34, some 35, none], shA 600, shA 600, shA 120, shA 120, shA 40, shA 40, shO 4 [some 39, none, none], shQ 13 (fun k => if k < c then some (46 + 7 * k) else none), shO 0 [some 1, some 28, some 19, some 41, some 42, some 43, some 44, some 45, none, none, none, none, none], shA 12, shA 12, shA 12, shA 12, shA 12] ++ slots 46 c
theorem shC_0 (c : Nat) : (shC c)[0]? = some (shO 8 [some 1, some 19, some 28, some 30, some 38, some 40]) := rfl
theorem shC_1 (c : Nat) : (shC c)[1]? = some (shO 1 [some 2, some 9, some 14]) := rfl
theorem shC_2 (c : Nat) : (shC c)[2]? = some (shO 5 [some 3, some 4, some 5, some 6, some 7, some 8, none, none]) := rfl
theorem shC_3 (c : Nat) : (shC c)[3]? = some (shA 600) := rfl
theorem shC_4 (c : Nat) : (shC c)[4]? = some (shA 600) := rfl
theorem shC_5 (c : Nat) : (shC c)[5]? = some (shA 1800) := rfl
theorem shC_6 (c : Nat) : (shC c)[6]? = some (shA 600) := rfl
theorem shC_7 (c : Nat) : (shC c)[7]? = some (shA 10) := rfl
theorem shC_8 (c : Nat) : (shC c)[8]? = some (shA 10) := rfl
theorem shC_9 (c : Nat) : (shC c)[9]? = some (shO 6 [some 10, some 11, some 12, some 13, none]) := rfl
theorem shC_10 (c : Nat) : (shC c)[10]? = some (shA 600) := rfl
theorem shC_11 (c : Nat) : (shC c)[11]? = some (shA 600) := rfl
theorem shC_12 (c : Nat) : (shC c)[12]? = some (shA 120) := rfl
theorem shC_13 (c : Nat) : (shC c)[13]? = some (shA 120) := rfl
theorem shC_14 (c : Nat) : (shC c)[14]? = some (shO 6 [some 15, some 16, some 17, some 18, none]) := rfl
theorem shC_15 (c : Nat) : (shC c)[15]? = some (shA 600) := rfl
theorem shC_16 (c : Nat) : (shC c)[16]? = some (shA 600) := rfl
theorem shC_17 (c : Nat) : (shC c)[17]? = some (shA 120) := rfl
theorem shC_18 (c : Nat) : (shC c)[18]? = some (shA 120) := rfl
theorem shC_19 (c : Nat) : (shC c)[19]? = some (shO 2 [some 1, some 20, some 21, some 22, some 23, some 24, some 25, some 26, some 27, none, none, none, none, none, none, none, none, none]) := rfl
theorem shC_20 (c : Nat) : (shC c)[20]? = some (shA 600) := rfl
theorem shC_21 (c : Nat) : (shC c)[21]? = some (shA 8) := rfl
theorem shC_22 (c : Nat) : (shC c)[22]? = some (shA 10) := rfl
theorem shC_23 (c : Nat) : (shC c)[23]? = some (shA 480) := rfl
theorem shC_24 (c : Nat) : (shC c)[24]? = some (shA 12) := rfl
theorem shC_25 (c : Nat) : (shC c)[25]? = some (shA 480) := rfl
theorem shC_26 (c : Nat) : (shC c)[26]? = some (shA 480) := rfl
theorem shC_27 (c : Nat) : (shC c)[27]? = some (shA 1920) := rfl
theorem shC_28 (c : Nat) : (shC c)[28]? = some (shO 3 [some 1, some 14, some 29]) := rfl
theorem shC_29 (c : Nat) : (shC c)[29]? = some (shA 41) := rfl
theorem shC_30 (c : Nat) : (shC c)[30]? = some (shO 7 [some 1, some 14, some 31, some 36, some 37, none, none, none, none]) := rfl
theorem shC_31 (c : Nat) : (shC c)[31]? = some (shO 6 [some 32, some 33, some 34, some 35, none]) := rfl
theorem shC_32 (c : Nat) : (shC c)[32]? = some (shA 600) := rfl
theorem shC_33 (c : Nat) : (shC c)[33]? = some (shA 600) := rfl
theorem shC_34 (c : Nat) : (shC c)[34]? = some (shA 120) := rfl
theorem shC_35 (c : Nat) : (shC c)[35]? = some (shA 120) := rfl
theorem shC_36 (c : Nat) : (shC c)[36]? = some (shA 40) := rfl
theorem shC_37 (c : Nat) : (shC c)[37]? = some (shA 40) := rfl
theorem shC_38 (c : Nat) : (shC c)[38]? = some (shO 4 [some 39, none, none]) := rfl
theorem shC_39 (c : Nat) : (shC c)[39]? = some (shQ 13 (fun k => if k < c then some (46 + 7 * k) else none)) := rfl
theorem shC_40 (c : Nat) : (shC c)[40]? = some (shO 0 [some 1, some 28, some 19, some 41, some 42, some 43, some 44, some 45, none, none, none, none, none]) := rfl
theorem shC_41 (c : Nat) : (shC c)[41]? = some (shA 12) := rfl
theorem shC_42 (c : Nat) : (shC c)[42]? = some (shA 12) := rfl
theorem shC_43 (c : Nat) : (shC c)[43]? = some (shA 12) := rfl
theorem shC_44 (c : Nat) : (shC c)[44]? = some (shA 12) := rfl
theorem shC_45 (c : Nat) : (shC c)[45]? = some (shA 12) := rfl
/-! THE REFERENCE'S WORLD: 0: OX9 many=None kind=1 num=2 part=3 up=4 count=5 routines=None params=6 bodies=7 row=8 order=9 deep=10 open=11 undos=None given=12 first=13 sp=None fStep=14 fPhase=15 fValue=16 fLevel=17 names=18 level=None fuel=None took=None refused=None value=None most=None at=None over=None allFuel=None isRun=None keptMany=19 keptSteps=20 keptBodies=21 copied=22 line=23 looked=None calls=24 gains=25 weights=26 isLaid=None laidGain=None laidWeight=None laidMany=None laidCalls=27; 1: A600; 2: A600; 3: A1800; 4: A600; 5: A600; 6: A10; 7: A10; 8: A8; 9: A600; 10: A600; 11: A1300; 12: A3; 13: A600; 14: A600; 15: A600; 16: A1800; 17: A600; 18: A520; 19: A13; 20: A46800; 21: A130; 22: A600; 23: A600; 24: A12; 25: A12; 26: A12; 27: A12 -/
def shM (_ : Nat) : List Sh := [shO 9 [none, some 1, some 2, some 3, some 4, some 5, none, some 6, some 7, some 8, some 9, some 10, some 11, none, some 12, some 13, none, some 14, some 15, some 16, some 17, some 18, none, none, none, none, none, none, none, none, none, none, some 19, some 20, some 21, some 22, some 23, none, some 24, some 25, some 26, none, none, none, none, some 27], shA 600, shA 600, shA 1800, shA 600, shA 600, shA 10, shA 10, shA 8, shA 600, shA 600, shA 1300, shA 3, shA 600, shA 600, shA 600, shA 1800, shA 600, shA 520, shA 13, shA 46800, shA 130, shA 600, shA 600, shA 12, shA 12, shA 12, shA 12]
theorem shM_0 (c : Nat) : (shM c)[0]? = some (shO 9 [none, some 1, some 2, some 3, some 4, some 5, none, some 6, some 7, some 8, some 9, some 10, some 11, none, some 12, some 13, none, some 14, some 15, some 16, some 17, some 18, none, none, none, none, none, none, none, none, none, none, some 19, some 20, some 21, some 22, some 23, none, some 24, some 25, some 26, none, none, none, none, some 27]) := rfl
theorem shM_1 (c : Nat) : (shM c)[1]? = some (shA 600) := rfl
theorem shM_2 (c : Nat) : (shM c)[2]? = some (shA 600) := rfl
theorem shM_3 (c : Nat) : (shM c)[3]? = some (shA 1800) := rfl
theorem shM_4 (c : Nat) : (shM c)[4]? = some (shA 600) := rfl
theorem shM_5 (c : Nat) : (shM c)[5]? = some (shA 600) := rfl
theorem shM_6 (c : Nat) : (shM c)[6]? = some (shA 10) := rfl
theorem shM_7 (c : Nat) : (shM c)[7]? = some (shA 10) := rfl
theorem shM_8 (c : Nat) : (shM c)[8]? = some (shA 8) := rfl
theorem shM_9 (c : Nat) : (shM c)[9]? = some (shA 600) := rfl
theorem shM_10 (c : Nat) : (shM c)[10]? = some (shA 600) := rfl
theorem shM_11 (c : Nat) : (shM c)[11]? = some (shA 1300) := rfl
theorem shM_12 (c : Nat) : (shM c)[12]? = some (shA 3) := rfl
theorem shM_13 (c : Nat) : (shM c)[13]? = some (shA 600) := rfl
theorem shM_14 (c : Nat) : (shM c)[14]? = some (shA 600) := rfl
theorem shM_15 (c : Nat) : (shM c)[15]? = some (shA 600) := rfl
theorem shM_16 (c : Nat) : (shM c)[16]? = some (shA 1800) := rfl
theorem shM_17 (c : Nat) : (shM c)[17]? = some (shA 600) := rfl
theorem shM_18 (c : Nat) : (shM c)[18]? = some (shA 520) := rfl
theorem shM_19 (c : Nat) : (shM c)[19]? = some (shA 13) := rfl
theorem shM_20 (c : Nat) : (shM c)[20]? = some (shA 46800) := rfl
theorem shM_21 (c : Nat) : (shM c)[21]? = some (shA 130) := rfl
theorem shM_22 (c : Nat) : (shM c)[22]? = some (shA 600) := rfl
theorem shM_23 (c : Nat) : (shM c)[23]? = some (shA 600) := rfl
theorem shM_24 (c : Nat) : (shM c)[24]? = some (shA 12) := rfl
theorem shM_25 (c : Nat) : (shM c)[25]? = some (shA 12) := rfl
theorem shM_26 (c : Nat) : (shM c)[26]? = some (shA 12) := rfl
theorem shM_27 (c : Nat) : (shM c)[27]? = some (shA 12) := rfl
def isW (w : Nat) : Prop := w = 9 ∨ w = 14 ∨ w = 31
theorem shW0 {w : Nat} (h : isW w) (c : Nat) : (shC c)[w]? = some (shO 6 [some (w + 1), some (w + 2), some (w + 3), some (w + 4), none]) := by rcases h with rfl | rfl | rfl <;> rfl
theorem shW1 {w : Nat} (h : isW w) (c : Nat) : (shC c)[w + 1]? = some (shA 600) := by rcases h with rfl | rfl | rfl <;> rfl
theorem shW2 {w : Nat} (h : isW w) (c : Nat) : (shC c)[w + 2]? = some (shA 600) := by rcases h with rfl | rfl | rfl <;> rfl
theorem shW3 {w : Nat} (h : isW w) (c : Nat) : (shC c)[w + 3]? = some (shA 120) := by rcases h with rfl | rfl | rfl <;> rfl
theorem shW4 {w : Nat} (h : isW w) (c : Nat) : (shC c)[w + 4]? = some (shA 120) := by rcases h with rfl | rfl | rfl <;> rfl
theorem slots_at : ∀ (n o k i : Nat), k < n → i < 7 → (slots o n)[7 * k + i]? = (rowSh (o + 7 * k))[i]?
  | 0, _, _, _, h, _ => absurd h (Nat.not_lt_zero _)
  | n + 1, o, 0, i, _, hi => by
    show (rowSh o ++ slots (o + 7) n)[7 * 0 + i]? = _
    rw [show 7 * 0 + i = i by omega, show o + 7 * 0 = o by omega, List.getElem?_append_left (by simpa [rowSh] using hi)]
  | n + 1, o, k + 1, i, h, hi => by
    show (rowSh o ++ slots (o + 7) n)[7 * (k + 1) + i]? = _
    rw [List.getElem?_append_right (by simp [rowSh]; omega), show 7 * (k + 1) + i - (rowSh o).length = 7 * k + i by simp [rowSh]; omega, slots_at n (o + 7) k i (by omega) hi, show o + 7 + 7 * k = o + 7 * (k + 1) by omega]
theorem shC_slot {c k i : Nat} (hk : k < c) (hi : i < 7) : (shC c)[46 + 7 * k + i]? = (rowSh (46 + 7 * k))[i]? := by
  unfold shC
  rw [List.getElem?_append_right (by simp; omega)]
  simp only [List.length_cons, List.length_nil]
  rw [show 46 + 7 * k + i - (0 + 1 + 1 + 1 + 1 + 1 + 1 + 1 + 1 + 1 + 1 + 1 + 1 + 1 + 1 + 1 + 1 + 1 + 1 + 1 + 1 + 1 + 1 + 1 + 1 + 1 + 1 + 1 + 1 + 1 + 1 + 1 + 1 + 1 + 1 + 1 + 1 + 1 + 1 + 1 + 1 + 1 + 1 + 1 + 1 + 1 + 1 ) = 7 * k + i by omega, slots_at c 46 k i hk hi]
/-- a Rows: that of the code, or one that is kept -/
def isRw (c o : Nat) : Prop := o = 2 ∨ ∃ k, k < c ∧ o = 46 + 7 * k
theorem shR {c o : Nat} (h : isRw c o) {i : Nat} (hi : i < 7) : (shC c)[o + i]? = (rowSh o)[i]? := by
  rcases h with rfl | ⟨k, hk, rfl⟩
  · rcases (by omega : i = 0 ∨ i = 1 ∨ i = 2 ∨ i = 3 ∨ i = 4 ∨ i = 5 ∨ i = 6) with rfl | rfl | rfl | rfl | rfl | rfl | rfl <;> rfl
  · exact shC_slot hk hi
theorem slots_len : ∀ n o, (slots o n).length = 7 * n
  | 0, _ => rfl
  | n + 1, o => by
    show (rowSh o ++ slots (o + 7) n).length = _
    rw [List.length_append, slots_len n (o + 7)]
    simp [rowSh]
    omega
theorem shC_len (c : Nat) : (shC c).length = 46 + 7 * c := by
  unfold shC
  rw [List.length_append, slots_len]
  rfl
