/-! the two worlds: 36 regions of the class, 23 of the reference -/
def cS : xH := fun k =>
  if k = 0 then .inr (.inr (4, 5, fun j => if j = 0 then some 1 else if j = 1 then some 10 else if j = 2 then some 31 else none))
  else if k = 1 then .inr (.inl (2, 4, fun i => 2 + i))
  else if k < 6 then .inr (.inr (1, 4, fun j => if j = 0 then some (k + 4) else none))
  else if k < 10 then .inl (0, 60)
  else if k = 10 then .inr (.inr (3, 9, fun j => if j < 6 then some (11 + j) else none))
  else if k = 11 then .inr (.inl (3, 7, fun i => 17 + i))
  else if k = 14 then .inl (0, 1281)
  else if k = 15 then .inl (0, 427)
  else if k < 17 then .inl (0, 60)
  else if k < 24 then .inr (.inr (2, 5, fun j => if j = 0 then some (k + 7) else none))
  else if k < 31 then .inl (0, 3)
  else if k = 31 then .inr (.inr (0, 5, fun j => if j < 4 then some (32 + j) else none))
  else .inl (0, 8)
theorem rgc_0 : 0 < 36 ∧ cS 0 = .inr (.inr (4, 5, fun j => if j = 0 then some 1 else if j = 1 then some 10 else if j = 2 then some 31 else none)) := ⟨by decide, rfl⟩
theorem rgc_1 : 1 < 36 ∧ cS 1 = .inr (.inl (2, 4, fun i => 2 + i)) := ⟨by decide, rfl⟩
theorem rgc_2 {i : Nat} (h : i < 4) : 2 + i < 36 ∧ cS (2 + i) = .inr (.inr (1, 4, fun j => if j = 0 then some (6 + i) else none)) := by
  refine ⟨by omega, ?_⟩
  unfold cS
  rw [if_neg (by omega), if_neg (by omega), if_pos (by omega), show 2 + i + 4 = 6 + i by omega]
theorem rgc_6 {i : Nat} (h : i < 4) : 6 + i < 36 ∧ cS (6 + i) = .inl (0, 60) := by
  refine ⟨by omega, ?_⟩
  unfold cS
  rw [if_neg (by omega), if_neg (by omega), if_neg (by omega), if_pos (by omega)]
theorem rgc_10 : 10 < 36 ∧ cS 10 = .inr (.inr (3, 9, fun j => if j < 6 then some (11 + j) else none)) := ⟨by decide, rfl⟩
theorem rgc_11 : 11 < 36 ∧ cS 11 = .inr (.inl (3, 7, fun i => 17 + i)) := ⟨by decide, rfl⟩
theorem rgc_12 : 12 < 36 ∧ cS 12 = .inl (0, 60) := ⟨by decide, rfl⟩
theorem rgc_13 : 13 < 36 ∧ cS 13 = .inl (0, 60) := ⟨by decide, rfl⟩
theorem rgc_14 : 14 < 36 ∧ cS 14 = .inl (0, 1281) := ⟨by decide, rfl⟩
theorem rgc_15 : 15 < 36 ∧ cS 15 = .inl (0, 427) := ⟨by decide, rfl⟩
theorem rgc_16 : 16 < 36 ∧ cS 16 = .inl (0, 60) := ⟨by decide, rfl⟩
theorem rgc_17 {i : Nat} (h : i < 7) : 17 + i < 36 ∧ cS (17 + i) = .inr (.inr (2, 5, fun j => if j = 0 then some (24 + i) else none)) := by
  refine ⟨by omega, ?_⟩
  unfold cS
  rw [if_neg (by omega), if_neg (by omega), if_neg (by omega), if_neg (by omega), if_neg (by omega), if_neg (by omega), if_neg (by omega), if_neg (by omega), if_neg (by omega), if_pos (by omega), show 17 + i + 7 = 24 + i by omega]
theorem rgc_24 {i : Nat} (h : i < 7) : 24 + i < 36 ∧ cS (24 + i) = .inl (0, 3) := by
  refine ⟨by omega, ?_⟩
  unfold cS
  rw [if_neg (by omega), if_neg (by omega), if_neg (by omega), if_neg (by omega), if_neg (by omega), if_neg (by omega), if_neg (by omega), if_neg (by omega), if_neg (by omega), if_neg (by omega), if_pos (by omega)]
theorem rgc_31 : 31 < 36 ∧ cS 31 = .inr (.inr (0, 5, fun j => if j < 4 then some (32 + j) else none)) := ⟨by decide, rfl⟩
theorem rgc_32 : 32 < 36 ∧ cS 32 = .inl (0, 8) := ⟨by decide, rfl⟩
theorem rgc_33 : 33 < 36 ∧ cS 33 = .inl (0, 8) := ⟨by decide, rfl⟩
theorem rgc_34 : 34 < 36 ∧ cS 34 = .inl (0, 8) := ⟨by decide, rfl⟩
theorem rgc_35 : 35 < 36 ∧ cS 35 = .inl (0, 8) := ⟨by decide, rfl⟩
def mS_ptr : Nat → Option Nat := fun j => ([none, none, some 1, some 2, some 3, some 4, some 5, none, none, some 6, some 7, some 8, some 9, some 10, none, some 11, some 12, some 13, some 14, none, some 15, some 16, some 17, some 18, some 19, some 20, some 21, some 22, none] : List (Option Nat)).getD j none
def mS : xH := fun k => if k = 0 then .inr (.inr (5, 29, mS_ptr)) else .inl (if k = 5 then 1 else 0, ([0, 7, 21, 7, 7, 7, 7, 21, 7, 60, 60, 21, 7, 7, 7, 8, 8, 8, 8, 4, 4, 240, 60] : List Nat).getD k 0)
theorem rgm_0 : 0 < 23 ∧ mS 0 = .inr (.inr (5, 29, mS_ptr)) := ⟨by decide, rfl⟩
theorem rgm_1 : 1 < 23 ∧ mS 1 = .inl (0, 7) := ⟨by decide, rfl⟩
theorem rgm_2 : 2 < 23 ∧ mS 2 = .inl (0, 21) := ⟨by decide, rfl⟩
theorem rgm_3 : 3 < 23 ∧ mS 3 = .inl (0, 7) := ⟨by decide, rfl⟩
theorem rgm_4 : 4 < 23 ∧ mS 4 = .inl (0, 7) := ⟨by decide, rfl⟩
theorem rgm_5 : 5 < 23 ∧ mS 5 = .inl (1, 7) := ⟨by decide, rfl⟩
theorem rgm_6 : 6 < 23 ∧ mS 6 = .inl (0, 7) := ⟨by decide, rfl⟩
theorem rgm_7 : 7 < 23 ∧ mS 7 = .inl (0, 21) := ⟨by decide, rfl⟩
theorem rgm_8 : 8 < 23 ∧ mS 8 = .inl (0, 7) := ⟨by decide, rfl⟩
theorem rgm_9 : 9 < 23 ∧ mS 9 = .inl (0, 60) := ⟨by decide, rfl⟩
theorem rgm_10 : 10 < 23 ∧ mS 10 = .inl (0, 60) := ⟨by decide, rfl⟩
theorem rgm_11 : 11 < 23 ∧ mS 11 = .inl (0, 21) := ⟨by decide, rfl⟩
theorem rgm_12 : 12 < 23 ∧ mS 12 = .inl (0, 7) := ⟨by decide, rfl⟩
theorem rgm_13 : 13 < 23 ∧ mS 13 = .inl (0, 7) := ⟨by decide, rfl⟩
theorem rgm_14 : 14 < 23 ∧ mS 14 = .inl (0, 7) := ⟨by decide, rfl⟩
theorem rgm_15 : 15 < 23 ∧ mS 15 = .inl (0, 8) := ⟨by decide, rfl⟩
theorem rgm_16 : 16 < 23 ∧ mS 16 = .inl (0, 8) := ⟨by decide, rfl⟩
theorem rgm_17 : 17 < 23 ∧ mS 17 = .inl (0, 8) := ⟨by decide, rfl⟩
theorem rgm_18 : 18 < 23 ∧ mS 18 = .inl (0, 8) := ⟨by decide, rfl⟩
theorem rgm_19 : 19 < 23 ∧ mS 19 = .inl (0, 4) := ⟨by decide, rfl⟩
theorem rgm_20 : 20 < 23 ∧ mS 20 = .inl (0, 4) := ⟨by decide, rfl⟩
theorem rgm_21 : 21 < 23 ∧ mS 21 = .inl (0, 240) := ⟨by decide, rfl⟩
theorem rgm_22 : 22 < 23 ∧ mS 22 = .inl (0, 60) := ⟨by decide, rfl⟩
