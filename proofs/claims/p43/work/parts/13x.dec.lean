section
/-! the tables' words by shelves of forty; each method's head word stands there -/
def dw_0 : List Jvm.Cond := lT
def dw_1 : List Jvm.Cond := dw_0.drop 40
def dw_2 : List Jvm.Cond := dw_1.drop 40
def dw_3 : List Jvm.Cond := dw_2.drop 40
def dw_4 : List Jvm.Cond := dw_3.drop 40
def dw_5 : List Jvm.Cond := dw_4.drop 40
def dw_6 : List Jvm.Cond := dw_5.drop 40
def dw_7 : List Jvm.Cond := dw_6.drop 40
def dw_8 : List Jvm.Cond := dw_7.drop 40
def dw_9 : List Jvm.Cond := dw_8.drop 40
def dw_10 : List Jvm.Cond := dw_9.drop 40
def dw_11 : List Jvm.Cond := dw_10.drop 40
def dw_12 : List Jvm.Cond := dw_11.drop 40
def dw_13 : List Jvm.Cond := dw_12.drop 40
def dw_14 : List Jvm.Cond := dw_13.drop 40
def dw_15 : List Jvm.Cond := dw_14.drop 40
def dw_16 : List Jvm.Cond := dw_15.drop 40
def dw_17 : List Jvm.Cond := dw_16.drop 40
def dw_18 : List Jvm.Cond := dw_17.drop 40
def dw_19 : List Jvm.Cond := dw_18.drop 40
def dw_20 : List Jvm.Cond := dw_19.drop 40
def dw_21 : List Jvm.Cond := dw_20.drop 40
def dw_22 : List Jvm.Cond := dw_21.drop 40
def dw_23 : List Jvm.Cond := dw_22.drop 40
def dw_24 : List Jvm.Cond := dw_23.drop 40
def dw_25 : List Jvm.Cond := dw_24.drop 40
def dw_26 : List Jvm.Cond := dw_25.drop 40
def dw_27 : List Jvm.Cond := dw_26.drop 40
def dw_28 : List Jvm.Cond := dw_27.drop 40
def dw_29 : List Jvm.Cond := dw_28.drop 40
def dw_30 : List Jvm.Cond := dw_29.drop 40
def dw_31 : List Jvm.Cond := dw_30.drop 40
def dw_32 : List Jvm.Cond := dw_31.drop 40
def dw_33 : List Jvm.Cond := dw_32.drop 40
theorem ds_0 : ∀ w ∈ dw_0, w ∈ lT := fun _ h => h
theorem ds_1 : ∀ w ∈ dw_1, w ∈ lT := fun w h => ds_0 w (List.mem_of_mem_drop h)
theorem ds_2 : ∀ w ∈ dw_2, w ∈ lT := fun w h => ds_1 w (List.mem_of_mem_drop h)
theorem ds_3 : ∀ w ∈ dw_3, w ∈ lT := fun w h => ds_2 w (List.mem_of_mem_drop h)
theorem ds_4 : ∀ w ∈ dw_4, w ∈ lT := fun w h => ds_3 w (List.mem_of_mem_drop h)
theorem ds_5 : ∀ w ∈ dw_5, w ∈ lT := fun w h => ds_4 w (List.mem_of_mem_drop h)
theorem ds_6 : ∀ w ∈ dw_6, w ∈ lT := fun w h => ds_5 w (List.mem_of_mem_drop h)
theorem ds_7 : ∀ w ∈ dw_7, w ∈ lT := fun w h => ds_6 w (List.mem_of_mem_drop h)
theorem ds_8 : ∀ w ∈ dw_8, w ∈ lT := fun w h => ds_7 w (List.mem_of_mem_drop h)
theorem ds_9 : ∀ w ∈ dw_9, w ∈ lT := fun w h => ds_8 w (List.mem_of_mem_drop h)
theorem ds_10 : ∀ w ∈ dw_10, w ∈ lT := fun w h => ds_9 w (List.mem_of_mem_drop h)
theorem ds_11 : ∀ w ∈ dw_11, w ∈ lT := fun w h => ds_10 w (List.mem_of_mem_drop h)
theorem ds_12 : ∀ w ∈ dw_12, w ∈ lT := fun w h => ds_11 w (List.mem_of_mem_drop h)
theorem ds_13 : ∀ w ∈ dw_13, w ∈ lT := fun w h => ds_12 w (List.mem_of_mem_drop h)
theorem ds_14 : ∀ w ∈ dw_14, w ∈ lT := fun w h => ds_13 w (List.mem_of_mem_drop h)
theorem ds_15 : ∀ w ∈ dw_15, w ∈ lT := fun w h => ds_14 w (List.mem_of_mem_drop h)
theorem ds_16 : ∀ w ∈ dw_16, w ∈ lT := fun w h => ds_15 w (List.mem_of_mem_drop h)
theorem ds_17 : ∀ w ∈ dw_17, w ∈ lT := fun w h => ds_16 w (List.mem_of_mem_drop h)
theorem ds_18 : ∀ w ∈ dw_18, w ∈ lT := fun w h => ds_17 w (List.mem_of_mem_drop h)
theorem ds_19 : ∀ w ∈ dw_19, w ∈ lT := fun w h => ds_18 w (List.mem_of_mem_drop h)
theorem ds_20 : ∀ w ∈ dw_20, w ∈ lT := fun w h => ds_19 w (List.mem_of_mem_drop h)
theorem ds_21 : ∀ w ∈ dw_21, w ∈ lT := fun w h => ds_20 w (List.mem_of_mem_drop h)
theorem ds_22 : ∀ w ∈ dw_22, w ∈ lT := fun w h => ds_21 w (List.mem_of_mem_drop h)
theorem ds_23 : ∀ w ∈ dw_23, w ∈ lT := fun w h => ds_22 w (List.mem_of_mem_drop h)
theorem ds_24 : ∀ w ∈ dw_24, w ∈ lT := fun w h => ds_23 w (List.mem_of_mem_drop h)
theorem ds_25 : ∀ w ∈ dw_25, w ∈ lT := fun w h => ds_24 w (List.mem_of_mem_drop h)
theorem ds_26 : ∀ w ∈ dw_26, w ∈ lT := fun w h => ds_25 w (List.mem_of_mem_drop h)
theorem ds_27 : ∀ w ∈ dw_27, w ∈ lT := fun w h => ds_26 w (List.mem_of_mem_drop h)
theorem ds_28 : ∀ w ∈ dw_28, w ∈ lT := fun w h => ds_27 w (List.mem_of_mem_drop h)
theorem ds_29 : ∀ w ∈ dw_29, w ∈ lT := fun w h => ds_28 w (List.mem_of_mem_drop h)
theorem ds_30 : ∀ w ∈ dw_30, w ∈ lT := fun w h => ds_29 w (List.mem_of_mem_drop h)
theorem ds_31 : ∀ w ∈ dw_31, w ∈ lT := fun w h => ds_30 w (List.mem_of_mem_drop h)
theorem ds_32 : ∀ w ∈ dw_32, w ∈ lT := fun w h => ds_31 w (List.mem_of_mem_drop h)
theorem ds_33 : ∀ w ∈ dw_33, w ∈ lT := fun w h => ds_32 w (List.mem_of_mem_drop h)
def dwL : List (List Jvm.Cond) := [dw_0, dw_1, dw_2, dw_3, dw_4, dw_5, dw_6, dw_7, dw_8, dw_9, dw_10, dw_11, dw_12, dw_13, dw_14, dw_15, dw_16, dw_17, dw_18, dw_19, dw_20, dw_21, dw_22, dw_23, dw_24, dw_25, dw_26, dw_27, dw_28, dw_29, dw_30, dw_31, dw_32, dw_33]
theorem dwL_in : ∀ l ∈ dwL, ∀ w ∈ l, w ∈ lT := List.forall_mem_cons.mpr ⟨ds_0, List.forall_mem_cons.mpr ⟨ds_1, List.forall_mem_cons.mpr ⟨ds_2, List.forall_mem_cons.mpr ⟨ds_3, List.forall_mem_cons.mpr ⟨ds_4, List.forall_mem_cons.mpr ⟨ds_5, List.forall_mem_cons.mpr ⟨ds_6, List.forall_mem_cons.mpr ⟨ds_7, List.forall_mem_cons.mpr ⟨ds_8, List.forall_mem_cons.mpr ⟨ds_9, List.forall_mem_cons.mpr ⟨ds_10, List.forall_mem_cons.mpr ⟨ds_11, List.forall_mem_cons.mpr ⟨ds_12, List.forall_mem_cons.mpr ⟨ds_13, List.forall_mem_cons.mpr ⟨ds_14, List.forall_mem_cons.mpr ⟨ds_15, List.forall_mem_cons.mpr ⟨ds_16, List.forall_mem_cons.mpr ⟨ds_17, List.forall_mem_cons.mpr ⟨ds_18, List.forall_mem_cons.mpr ⟨ds_19, List.forall_mem_cons.mpr ⟨ds_20, List.forall_mem_cons.mpr ⟨ds_21, List.forall_mem_cons.mpr ⟨ds_22, List.forall_mem_cons.mpr ⟨ds_23, List.forall_mem_cons.mpr ⟨ds_24, List.forall_mem_cons.mpr ⟨ds_25, List.forall_mem_cons.mpr ⟨ds_26, List.forall_mem_cons.mpr ⟨ds_27, List.forall_mem_cons.mpr ⟨ds_28, List.forall_mem_cons.mpr ⟨ds_29, List.forall_mem_cons.mpr ⟨ds_30, List.forall_mem_cons.mpr ⟨ds_31, List.forall_mem_cons.mpr ⟨ds_32, List.forall_mem_cons.mpr ⟨ds_33, fun _ h => nomatch h⟩⟩⟩⟩⟩⟩⟩⟩⟩⟩⟩⟩⟩⟩⟩⟩⟩⟩⟩⟩⟩⟩⟩⟩⟩⟩⟩⟩⟩⟩⟩⟩⟩⟩
def get2 (p : Nat × Nat) : Option Jvm.Cond := match nth dwL p.1 with | some l => nth l p.2 | none => none
theorem get2_in {p : Nat × Nat} {w : Jvm.Cond} (h : get2 p = some w) : w ∈ lT := by
  unfold get2 at h
  split at h
  · rename_i l hl
    exact dwL_in l (nth_mem hl) w (nth_mem h)
  · cases h
theorem hdT_1 : nth dw_1 14 = some (headw n_X_new) := rfl
theorem hdi_X_new : headw n_X_new ∈ lT := ds_1 _ (nth_mem hdT_1)
theorem hdT_2 : nth dw_2 2 = some (headw n_X_knock) ∧ nth dw_2 6 = some (headw n_X_isSound) ∧ nth dw_2 17 = some (headw n_X_needIndex) ∧ nth dw_2 14 = some (headw n_X_numberAt) ∧ nth dw_2 10 = some (headw n_X_areNumbersSound) := ⟨rfl, rfl, rfl, rfl, rfl⟩
theorem hdi_X_knock : headw n_X_knock ∈ lT := ds_2 _ (nth_mem hdT_2.1)
theorem hdi_X_isSound : headw n_X_isSound ∈ lT := ds_2 _ (nth_mem hdT_2.2.1)
theorem hdi_X_needIndex : headw n_X_needIndex ∈ lT := ds_2 _ (nth_mem hdT_2.2.2.1)
theorem hdi_X_numberAt : headw n_X_numberAt ∈ lT := ds_2 _ (nth_mem hdT_2.2.2.2.1)
theorem hdi_X_areNumbersSound : headw n_X_areNumbersSound ∈ lT := ds_2 _ (nth_mem hdT_2.2.2.2.2)
theorem hdT_4 : nth dw_4 7 = some (headw n_A_holdForPair) ∧ nth dw_4 10 = some (headw n_A_holdForAverages) ∧ nth dw_4 22 = some (headw n_A_holdForFloor) ∧ nth dw_4 37 = some (headw n_A_holdForTowards) ∧ nth dw_4 31 = some (headw n_W_goneRound) ∧ nth dw_4 13 = some (headw n_W_averageOf) ∧ nth dw_4 25 = some (headw n_W_floorOf) ∧ nth dw_4 34 = some (headw n_W_restOf) ∧ nth dw_4 28 = some (headw n_MA_floorDiv) ∧ nth dw_4 19 = some (headw n_MA_max_JJ) ∧ nth dw_4 16 = some (headw n_MA_min_JJ) := ⟨rfl, rfl, rfl, rfl, rfl, rfl, rfl, rfl, rfl, rfl, rfl⟩
theorem hdi_A_holdForPair : headw n_A_holdForPair ∈ lT := ds_4 _ (nth_mem hdT_4.1)
theorem hdi_A_holdForAverages : headw n_A_holdForAverages ∈ lT := ds_4 _ (nth_mem hdT_4.2.1)
theorem hdi_A_holdForFloor : headw n_A_holdForFloor ∈ lT := ds_4 _ (nth_mem hdT_4.2.2.1)
theorem hdi_A_holdForTowards : headw n_A_holdForTowards ∈ lT := ds_4 _ (nth_mem hdT_4.2.2.2.1)
theorem hdi_W_goneRound : headw n_W_goneRound ∈ lT := ds_4 _ (nth_mem hdT_4.2.2.2.2.1)
theorem hdi_W_averageOf : headw n_W_averageOf ∈ lT := ds_4 _ (nth_mem hdT_4.2.2.2.2.2.1)
theorem hdi_W_floorOf : headw n_W_floorOf ∈ lT := ds_4 _ (nth_mem hdT_4.2.2.2.2.2.2.1)
theorem hdi_W_restOf : headw n_W_restOf ∈ lT := ds_4 _ (nth_mem hdT_4.2.2.2.2.2.2.2.1)
theorem hdi_MA_floorDiv : headw n_MA_floorDiv ∈ lT := ds_4 _ (nth_mem hdT_4.2.2.2.2.2.2.2.2.1)
theorem hdi_MA_max_JJ : headw n_MA_max_JJ ∈ lT := ds_4 _ (nth_mem hdT_4.2.2.2.2.2.2.2.2.2.1)
theorem hdi_MA_min_JJ : headw n_MA_min_JJ ∈ lT := ds_4 _ (nth_mem hdT_4.2.2.2.2.2.2.2.2.2.2)
theorem hdT_5 : nth dw_5 6 = some (headw n_A_holdForProduct) ∧ nth dw_5 25 = some (headw n_W_isWithin) ∧ nth dw_5 17 = some (headw n_W_joined) ∧ nth dw_5 14 = some (headw n_W_isExact) ∧ nth dw_5 20 = some (headw n_W_isTrue) ∧ nth dw_5 10 = some (headw n_W_upperHalf) ∧ nth dw_5 0 = some (headw n_W_quotientTowards) ∧ nth dw_5 3 = some (headw n_W_restTowards) ∧ nth dw_5 28 = some (headw n_W_chained) ∧ nth dw_5 38 = some (headw n_X_modulusAt) ∧ nth dw_5 34 = some (headw n_X_areRingsSound) := ⟨rfl, rfl, rfl, rfl, rfl, rfl, rfl, rfl, rfl, rfl, rfl⟩
theorem hdi_A_holdForProduct : headw n_A_holdForProduct ∈ lT := ds_5 _ (nth_mem hdT_5.1)
theorem hdi_W_isWithin : headw n_W_isWithin ∈ lT := ds_5 _ (nth_mem hdT_5.2.1)
theorem hdi_W_joined : headw n_W_joined ∈ lT := ds_5 _ (nth_mem hdT_5.2.2.1)
theorem hdi_W_isExact : headw n_W_isExact ∈ lT := ds_5 _ (nth_mem hdT_5.2.2.2.1)
theorem hdi_W_isTrue : headw n_W_isTrue ∈ lT := ds_5 _ (nth_mem hdT_5.2.2.2.2.1)
theorem hdi_W_upperHalf : headw n_W_upperHalf ∈ lT := ds_5 _ (nth_mem hdT_5.2.2.2.2.2.1)
theorem hdi_W_quotientTowards : headw n_W_quotientTowards ∈ lT := ds_5 _ (nth_mem hdT_5.2.2.2.2.2.2.1)
theorem hdi_W_restTowards : headw n_W_restTowards ∈ lT := ds_5 _ (nth_mem hdT_5.2.2.2.2.2.2.2.1)
theorem hdi_W_chained : headw n_W_chained ∈ lT := ds_5 _ (nth_mem hdT_5.2.2.2.2.2.2.2.2.1)
theorem hdi_X_modulusAt : headw n_X_modulusAt ∈ lT := ds_5 _ (nth_mem hdT_5.2.2.2.2.2.2.2.2.2.1)
theorem hdi_X_areRingsSound : headw n_X_areRingsSound ∈ lT := ds_5 _ (nth_mem hdT_5.2.2.2.2.2.2.2.2.2.2)
theorem hdT_6 : nth dw_6 5 = some (headw n_A_holdForResidue) ∧ nth dw_6 29 = some (headw n_A_keepResidues) ∧ nth dw_6 36 = some (headw n_A_holdForMeeting) ∧ nth dw_6 15 = some (headw n_R_sizeOf) ∧ nth dw_6 8 = some (headw n_R_residueOf) ∧ nth dw_6 12 = some (headw n_R_hasInverse) ∧ nth dw_6 25 = some (headw n_R_inverseOf) ∧ nth dw_6 21 = some (headw n_R_inverseBelow) ∧ nth dw_6 39 = some (headw n_R_meetingOf) ∧ nth dw_6 2 = some (headw n_X_residueAt) ∧ nth dw_6 33 = some (headw n_X_areMeetingsSound) ∧ nth dw_6 18 = some (headw n_MA_abs) := ⟨rfl, rfl, rfl, rfl, rfl, rfl, rfl, rfl, rfl, rfl, rfl, rfl⟩
theorem hdi_A_holdForResidue : headw n_A_holdForResidue ∈ lT := ds_6 _ (nth_mem hdT_6.1)
theorem hdi_A_keepResidues : headw n_A_keepResidues ∈ lT := ds_6 _ (nth_mem hdT_6.2.1)
theorem hdi_A_holdForMeeting : headw n_A_holdForMeeting ∈ lT := ds_6 _ (nth_mem hdT_6.2.2.1)
theorem hdi_R_sizeOf : headw n_R_sizeOf ∈ lT := ds_6 _ (nth_mem hdT_6.2.2.2.1)
theorem hdi_R_residueOf : headw n_R_residueOf ∈ lT := ds_6 _ (nth_mem hdT_6.2.2.2.2.1)
theorem hdi_R_hasInverse : headw n_R_hasInverse ∈ lT := ds_6 _ (nth_mem hdT_6.2.2.2.2.2.1)
theorem hdi_R_inverseOf : headw n_R_inverseOf ∈ lT := ds_6 _ (nth_mem hdT_6.2.2.2.2.2.2.1)
theorem hdi_R_inverseBelow : headw n_R_inverseBelow ∈ lT := ds_6 _ (nth_mem hdT_6.2.2.2.2.2.2.2.1)
theorem hdi_R_meetingOf : headw n_R_meetingOf ∈ lT := ds_6 _ (nth_mem hdT_6.2.2.2.2.2.2.2.2.1)
theorem hdi_X_residueAt : headw n_X_residueAt ∈ lT := ds_6 _ (nth_mem hdT_6.2.2.2.2.2.2.2.2.2.1)
theorem hdi_X_areMeetingsSound : headw n_X_areMeetingsSound ∈ lT := ds_6 _ (nth_mem hdT_6.2.2.2.2.2.2.2.2.2.2.1)
theorem hdi_MA_abs : headw n_MA_abs ∈ lT := ds_6 _ (nth_mem hdT_6.2.2.2.2.2.2.2.2.2.2.2)
theorem hdT_7 : nth dw_7 2 = some (headw n_R_greatestDivisor) ∧ nth dw_7 13 = some (headw n_X_house) ∧ nth dw_7 7 = some (headw n_X_digest) ∧ nth dw_7 16 = some (headw n_X_needChoice) ∧ nth dw_7 35 = some (headw n_X_countZeros) ∧ nth dw_7 39 = some (headw n_X_countUnits) := ⟨rfl, rfl, rfl, rfl, rfl, rfl⟩
theorem hdi_R_greatestDivisor : headw n_R_greatestDivisor ∈ lT := ds_7 _ (nth_mem hdT_7.1)
theorem hdi_X_house : headw n_X_house ∈ lT := ds_7 _ (nth_mem hdT_7.2.1)
theorem hdi_X_digest : headw n_X_digest ∈ lT := ds_7 _ (nth_mem hdT_7.2.2.1)
theorem hdi_X_needChoice : headw n_X_needChoice ∈ lT := ds_7 _ (nth_mem hdT_7.2.2.2.1)
theorem hdi_X_countZeros : headw n_X_countZeros ∈ lT := ds_7 _ (nth_mem hdT_7.2.2.2.2.1)
theorem hdi_X_countUnits : headw n_X_countUnits ∈ lT := ds_7 _ (nth_mem hdT_7.2.2.2.2.2)
theorem hdT_8 : nth dw_8 24 = some (headw n_D_countOf) ∧ nth dw_8 15 = some (headw n_W_order) ∧ nth dw_8 18 = some (headw n_W_edge) ∧ nth dw_8 12 = some (headw n_X_ofNumber) ∧ nth dw_8 3 = some (headw n_X_isUnit) ∧ nth dw_8 8 = some (headw n_X_digestNumbers) ∧ nth dw_8 31 = some (headw n_O_new) := ⟨rfl, rfl, rfl, rfl, rfl, rfl, rfl⟩
theorem hdi_D_countOf : headw n_D_countOf ∈ lT := ds_8 _ (nth_mem hdT_8.1)
theorem hdi_W_order : headw n_W_order ∈ lT := ds_8 _ (nth_mem hdT_8.2.1)
theorem hdi_W_edge : headw n_W_edge ∈ lT := ds_8 _ (nth_mem hdT_8.2.2.1)
theorem hdi_X_ofNumber : headw n_X_ofNumber ∈ lT := ds_8 _ (nth_mem hdT_8.2.2.2.1)
theorem hdi_X_isUnit : headw n_X_isUnit ∈ lT := ds_8 _ (nth_mem hdT_8.2.2.2.2.1)
theorem hdi_X_digestNumbers : headw n_X_digestNumbers ∈ lT := ds_8 _ (nth_mem hdT_8.2.2.2.2.2.1)
theorem hdi_O_new : headw n_O_new ∈ lT := ds_8 _ (nth_mem hdT_8.2.2.2.2.2.2)
theorem hdT_9 : nth dw_9 7 = some (headw n_X_put) ∧ nth dw_9 19 = some (headw n_X_copy) ∧ nth dw_9 26 = some (headw n_X_widen) ∧ nth dw_9 33 = some (headw n_X_narrow) ∧ nth dw_9 38 = some (headw n_X_refuse) ∧ nth dw_9 12 = some (headw n_X_keep) ∧ nth dw_9 2 = some (headw n_K_put) ∧ nth dw_9 15 = some (headw n_K_copy) ∧ nth dw_9 22 = some (headw n_K_widen) ∧ nth dw_9 29 = some (headw n_K_narrow) := ⟨rfl, rfl, rfl, rfl, rfl, rfl, rfl, rfl, rfl, rfl⟩
theorem hdi_X_put : headw n_X_put ∈ lT := ds_9 _ (nth_mem hdT_9.1)
theorem hdi_X_copy : headw n_X_copy ∈ lT := ds_9 _ (nth_mem hdT_9.2.1)
theorem hdi_X_widen : headw n_X_widen ∈ lT := ds_9 _ (nth_mem hdT_9.2.2.1)
theorem hdi_X_narrow : headw n_X_narrow ∈ lT := ds_9 _ (nth_mem hdT_9.2.2.2.1)
theorem hdi_X_refuse : headw n_X_refuse ∈ lT := ds_9 _ (nth_mem hdT_9.2.2.2.2.1)
theorem hdi_X_keep : headw n_X_keep ∈ lT := ds_9 _ (nth_mem hdT_9.2.2.2.2.2.1)
theorem hdi_K_put : headw n_K_put ∈ lT := ds_9 _ (nth_mem hdT_9.2.2.2.2.2.2.1)
theorem hdi_K_copy : headw n_K_copy ∈ lT := ds_9 _ (nth_mem hdT_9.2.2.2.2.2.2.2.1)
theorem hdi_K_widen : headw n_K_widen ∈ lT := ds_9 _ (nth_mem hdT_9.2.2.2.2.2.2.2.2.1)
theorem hdi_K_narrow : headw n_K_narrow ∈ lT := ds_9 _ (nth_mem hdT_9.2.2.2.2.2.2.2.2.2)
theorem hdT_10 : nth dw_10 6 = some (headw n_X_exact) ∧ nth dw_10 19 = some (headw n_X_fits) ∧ nth dw_10 26 = some (headw n_X_alone) ∧ nth dw_10 33 = some (headw n_X_timesInt) ∧ nth dw_10 10 = some (headw n_X_keepExact) ∧ nth dw_10 1 = some (headw n_K_exact) ∧ nth dw_10 15 = some (headw n_K_fits) ∧ nth dw_10 22 = some (headw n_K_alone) ∧ nth dw_10 29 = some (headw n_K_timesInt) ∧ nth dw_10 36 = some (headw n_K_full) := ⟨rfl, rfl, rfl, rfl, rfl, rfl, rfl, rfl, rfl, rfl⟩
theorem hdi_X_exact : headw n_X_exact ∈ lT := ds_10 _ (nth_mem hdT_10.1)
theorem hdi_X_fits : headw n_X_fits ∈ lT := ds_10 _ (nth_mem hdT_10.2.1)
theorem hdi_X_alone : headw n_X_alone ∈ lT := ds_10 _ (nth_mem hdT_10.2.2.1)
theorem hdi_X_timesInt : headw n_X_timesInt ∈ lT := ds_10 _ (nth_mem hdT_10.2.2.2.1)
theorem hdi_X_keepExact : headw n_X_keepExact ∈ lT := ds_10 _ (nth_mem hdT_10.2.2.2.2.1)
theorem hdi_K_exact : headw n_K_exact ∈ lT := ds_10 _ (nth_mem hdT_10.2.2.2.2.2.1)
theorem hdi_K_fits : headw n_K_fits ∈ lT := ds_10 _ (nth_mem hdT_10.2.2.2.2.2.2.1)
theorem hdi_K_alone : headw n_K_alone ∈ lT := ds_10 _ (nth_mem hdT_10.2.2.2.2.2.2.2.1)
theorem hdi_K_timesInt : headw n_K_timesInt ∈ lT := ds_10 _ (nth_mem hdT_10.2.2.2.2.2.2.2.2.1)
theorem hdi_K_full : headw n_K_full ∈ lT := ds_10 _ (nth_mem hdT_10.2.2.2.2.2.2.2.2.2)
theorem hdT_11 : nth dw_11 0 = some (headw n_X_full) ∧ nth dw_11 7 = some (headw n_X_high) ∧ nth dw_11 15 = some (headw n_X_round) ∧ nth dw_11 27 = some (headw n_X_abs) ∧ nth dw_11 34 = some (headw n_X_extreme) ∧ nth dw_11 19 = some (headw n_X_keepRound) ∧ nth dw_11 3 = some (headw n_K_high) ∧ nth dw_11 11 = some (headw n_K_round) ∧ nth dw_11 23 = some (headw n_K_abs) ∧ nth dw_11 30 = some (headw n_K_extreme) ∧ nth dw_11 39 = some (headw n_K_floor) := ⟨rfl, rfl, rfl, rfl, rfl, rfl, rfl, rfl, rfl, rfl, rfl⟩
theorem hdi_X_full : headw n_X_full ∈ lT := ds_11 _ (nth_mem hdT_11.1)
theorem hdi_X_high : headw n_X_high ∈ lT := ds_11 _ (nth_mem hdT_11.2.1)
theorem hdi_X_round : headw n_X_round ∈ lT := ds_11 _ (nth_mem hdT_11.2.2.1)
theorem hdi_X_abs : headw n_X_abs ∈ lT := ds_11 _ (nth_mem hdT_11.2.2.2.1)
theorem hdi_X_extreme : headw n_X_extreme ∈ lT := ds_11 _ (nth_mem hdT_11.2.2.2.2.1)
theorem hdi_X_keepRound : headw n_X_keepRound ∈ lT := ds_11 _ (nth_mem hdT_11.2.2.2.2.2.1)
theorem hdi_K_high : headw n_K_high ∈ lT := ds_11 _ (nth_mem hdT_11.2.2.2.2.2.2.1)
theorem hdi_K_round : headw n_K_round ∈ lT := ds_11 _ (nth_mem hdT_11.2.2.2.2.2.2.2.1)
theorem hdi_K_abs : headw n_K_abs ∈ lT := ds_11 _ (nth_mem hdT_11.2.2.2.2.2.2.2.2.1)
theorem hdi_K_extreme : headw n_K_extreme ∈ lT := ds_11 _ (nth_mem hdT_11.2.2.2.2.2.2.2.2.2.1)
theorem hdi_K_floor : headw n_K_floor ∈ lT := ds_11 _ (nth_mem hdT_11.2.2.2.2.2.2.2.2.2.2)
theorem hdT_12 : nth dw_12 3 = some (headw n_X_floor) ∧ nth dw_12 16 = some (headw n_X_floorInt) ∧ nth dw_12 23 = some (headw n_X_towards) ∧ nth dw_12 32 = some (headw n_X_average) ∧ nth dw_12 7 = some (headw n_X_keepFloor) ∧ nth dw_12 12 = some (headw n_K_floorInt) ∧ nth dw_12 19 = some (headw n_K_towards) ∧ nth dw_12 28 = some (headw n_K_average) ∧ nth dw_12 36 = some (headw n_K_chain) := ⟨rfl, rfl, rfl, rfl, rfl, rfl, rfl, rfl, rfl⟩
theorem hdi_X_floor : headw n_X_floor ∈ lT := ds_12 _ (nth_mem hdT_12.1)
theorem hdi_X_floorInt : headw n_X_floorInt ∈ lT := ds_12 _ (nth_mem hdT_12.2.1)
theorem hdi_X_towards : headw n_X_towards ∈ lT := ds_12 _ (nth_mem hdT_12.2.2.1)
theorem hdi_X_average : headw n_X_average ∈ lT := ds_12 _ (nth_mem hdT_12.2.2.2.1)
theorem hdi_X_keepFloor : headw n_X_keepFloor ∈ lT := ds_12 _ (nth_mem hdT_12.2.2.2.2.1)
theorem hdi_K_floorInt : headw n_K_floorInt ∈ lT := ds_12 _ (nth_mem hdT_12.2.2.2.2.2.1)
theorem hdi_K_towards : headw n_K_towards ∈ lT := ds_12 _ (nth_mem hdT_12.2.2.2.2.2.2.1)
theorem hdi_K_average : headw n_K_average ∈ lT := ds_12 _ (nth_mem hdT_12.2.2.2.2.2.2.2.1)
theorem hdi_K_chain : headw n_K_chain ∈ lT := ds_12 _ (nth_mem hdT_12.2.2.2.2.2.2.2.2)
theorem hdT_13 : nth dw_13 22 = some (headw n_D_ofUnsigned) ∧ nth dw_13 0 = some (headw n_X_chain) ∧ nth dw_13 12 = some (headw n_X_atOnce) ∧ nth dw_13 19 = some (headw n_X_distance) ∧ nth dw_13 3 = some (headw n_X_needDivisors) ∧ nth dw_13 30 = some (headw n_ASB_new) ∧ nth dw_13 27 = some (headw n_SB_new) ∧ nth dw_13 8 = some (headw n_K_atOnce) ∧ nth dw_13 15 = some (headw n_K_distance) := ⟨rfl, rfl, rfl, rfl, rfl, rfl, rfl, rfl, rfl⟩
theorem hdi_D_ofUnsigned : headw n_D_ofUnsigned ∈ lT := ds_13 _ (nth_mem hdT_13.1)
theorem hdi_X_chain : headw n_X_chain ∈ lT := ds_13 _ (nth_mem hdT_13.2.1)
theorem hdi_X_atOnce : headw n_X_atOnce ∈ lT := ds_13 _ (nth_mem hdT_13.2.2.1)
theorem hdi_X_distance : headw n_X_distance ∈ lT := ds_13 _ (nth_mem hdT_13.2.2.2.1)
theorem hdi_X_needDivisors : headw n_X_needDivisors ∈ lT := ds_13 _ (nth_mem hdT_13.2.2.2.2.1)
theorem hdi_ASB_new : headw n_ASB_new ∈ lT := ds_13 _ (nth_mem hdT_13.2.2.2.2.2.1)
theorem hdi_SB_new : headw n_SB_new ∈ lT := ds_13 _ (nth_mem hdT_13.2.2.2.2.2.2.1)
theorem hdi_K_atOnce : headw n_K_atOnce ∈ lT := ds_13 _ (nth_mem hdT_13.2.2.2.2.2.2.2.1)
theorem hdi_K_distance : headw n_K_distance ∈ lT := ds_13 _ (nth_mem hdT_13.2.2.2.2.2.2.2.2)
theorem hdT_14 : nth dw_14 16 = some (headw n_D_appendBackwards) ∧ nth dw_14 28 = some (headw n_ASB_ensureCapacityInternal) ∧ nth dw_14 32 = some (headw n_ASB_newCapacity) ∧ nth dw_14 24 = some (headw n_ASB_append_C) ∧ nth dw_14 38 = some (headw n_MA_max_II) ∧ nth dw_14 21 = some (headw n_SB_append_C) ∧ nth dw_14 35 = some (headw n_AS_newLength) := ⟨rfl, rfl, rfl, rfl, rfl, rfl, rfl⟩
theorem hdi_D_appendBackwards : headw n_D_appendBackwards ∈ lT := ds_14 _ (nth_mem hdT_14.1)
theorem hdi_ASB_ensureCapacityInternal : headw n_ASB_ensureCapacityInternal ∈ lT := ds_14 _ (nth_mem hdT_14.2.1)
theorem hdi_ASB_newCapacity : headw n_ASB_newCapacity ∈ lT := ds_14 _ (nth_mem hdT_14.2.2.1)
theorem hdi_ASB_append_C : headw n_ASB_append_C ∈ lT := ds_14 _ (nth_mem hdT_14.2.2.2.1)
theorem hdi_MA_max_II : headw n_MA_max_II ∈ lT := ds_14 _ (nth_mem hdT_14.2.2.2.2.1)
theorem hdi_SB_append_C : headw n_SB_append_C ∈ lT := ds_14 _ (nth_mem hdT_14.2.2.2.2.2.1)
theorem hdi_AS_newLength : headw n_AS_newLength ∈ lT := ds_14 _ (nth_mem hdT_14.2.2.2.2.2.2)
theorem hdT_15 : nth dw_15 24 = some (headw n_ASB_isLatin1) ∧ nth dw_15 16 = some (headw n_MA_min_II) ∧ nth dw_15 27 = some (headw n_L1_canEncode) ∧ nth dw_15 6 = some (headw n_ARR_copyOf) := ⟨rfl, rfl, rfl, rfl⟩
theorem hdi_ASB_isLatin1 : headw n_ASB_isLatin1 ∈ lT := ds_15 _ (nth_mem hdT_15.1)
theorem hdi_MA_min_II : headw n_MA_min_II ∈ lT := ds_15 _ (nth_mem hdT_15.2.1)
theorem hdi_L1_canEncode : headw n_L1_canEncode ∈ lT := ds_15 _ (nth_mem hdT_15.2.2.1)
theorem hdi_ARR_copyOf : headw n_ARR_copyOf ∈ lT := ds_15 _ (nth_mem hdT_15.2.2.2)
theorem hdT_16 : nth dw_16 39 = some (headw n_ASB_reverse) ∧ nth dw_16 36 = some (headw n_SB_reverse) := ⟨rfl, rfl⟩
theorem hdi_ASB_reverse : headw n_ASB_reverse ∈ lT := ds_16 _ (nth_mem hdT_16.1)
theorem hdi_SB_reverse : headw n_SB_reverse ∈ lT := ds_16 _ (nth_mem hdT_16.2)
theorem hdT_17 : nth dw_17 38 = some (headw n_STR_new_Q) ∧ nth dw_17 33 = some (headw n_SB_toString) := ⟨rfl, rfl⟩
theorem hdi_STR_new_Q : headw n_STR_new_Q ∈ lT := ds_17 _ (nth_mem hdT_17.1)
theorem hdi_SB_toString : headw n_SB_toString ∈ lT := ds_17 _ (nth_mem hdT_17.2)
theorem hdT_18 : nth dw_18 15 = some (headw n_ASB_length) ∧ nth dw_18 35 = some (headw n_ASB_append_I) ∧ nth dw_18 7 = some (headw n_ASB_getValue) ∧ nth dw_18 38 = some (headw n_INT_stringSize) ∧ nth dw_18 1 = some (headw n_STR_new_QN) ∧ nth dw_18 32 = some (headw n_SB_append_I) ∧ nth dw_18 13 = some (headw n_SB_length) ∧ nth dw_18 25 = some (headw n_ARR_checkLength) ∧ nth dw_18 19 = some (headw n_ARR_copyOfRange) ∧ nth dw_18 22 = some (headw n_ARR_copyOfRangeByte) := ⟨rfl, rfl, rfl, rfl, rfl, rfl, rfl, rfl, rfl, rfl⟩
theorem hdi_ASB_length : headw n_ASB_length ∈ lT := ds_18 _ (nth_mem hdT_18.1)
theorem hdi_ASB_append_I : headw n_ASB_append_I ∈ lT := ds_18 _ (nth_mem hdT_18.2.1)
theorem hdi_ASB_getValue : headw n_ASB_getValue ∈ lT := ds_18 _ (nth_mem hdT_18.2.2.1)
theorem hdi_INT_stringSize : headw n_INT_stringSize ∈ lT := ds_18 _ (nth_mem hdT_18.2.2.2.1)
theorem hdi_STR_new_QN : headw n_STR_new_QN ∈ lT := ds_18 _ (nth_mem hdT_18.2.2.2.2.1)
theorem hdi_SB_append_I : headw n_SB_append_I ∈ lT := ds_18 _ (nth_mem hdT_18.2.2.2.2.2.1)
theorem hdi_SB_length : headw n_SB_length ∈ lT := ds_18 _ (nth_mem hdT_18.2.2.2.2.2.2.1)
theorem hdi_ARR_checkLength : headw n_ARR_checkLength ∈ lT := ds_18 _ (nth_mem hdT_18.2.2.2.2.2.2.2.1)
theorem hdi_ARR_copyOfRange : headw n_ARR_copyOfRange ∈ lT := ds_18 _ (nth_mem hdT_18.2.2.2.2.2.2.2.2.1)
theorem hdi_ARR_copyOfRangeByte : headw n_ARR_copyOfRangeByte ∈ lT := ds_18 _ (nth_mem hdT_18.2.2.2.2.2.2.2.2.2)
theorem hdT_19 : nth dw_19 27 = some (headw n_ASB_append_T) ∧ nth dw_19 1 = some (headw n_INT_getChars) ∧ nth dw_19 38 = some (headw n_STR_length) ∧ nth dw_19 24 = some (headw n_SB_append_T) := ⟨rfl, rfl, rfl, rfl⟩
theorem hdi_ASB_append_T : headw n_ASB_append_T ∈ lT := ds_19 _ (nth_mem hdT_19.1)
theorem hdi_INT_getChars : headw n_INT_getChars ∈ lT := ds_19 _ (nth_mem hdT_19.2.1)
theorem hdi_STR_length : headw n_STR_length ∈ lT := ds_19 _ (nth_mem hdT_19.2.2.1)
theorem hdi_SB_append_T : headw n_SB_append_T ∈ lT := ds_19 _ (nth_mem hdT_19.2.2.2)
theorem hdT_20 : nth dw_20 11 = some (headw n_ASB_inflateIfNeededFor) ∧ nth dw_20 7 = some (headw n_ASB_putStringAt) ∧ nth dw_20 16 = some (headw n_STR_getBytes) ∧ nth dw_20 2 = some (headw n_STR_coder) := ⟨rfl, rfl, rfl, rfl⟩
theorem hdi_ASB_inflateIfNeededFor : headw n_ASB_inflateIfNeededFor ∈ lT := ds_20 _ (nth_mem hdT_20.1)
theorem hdi_ASB_putStringAt : headw n_ASB_putStringAt ∈ lT := ds_20 _ (nth_mem hdT_20.2.1)
theorem hdi_STR_getBytes : headw n_STR_getBytes ∈ lT := ds_20 _ (nth_mem hdT_20.2.2.1)
theorem hdi_STR_coder : headw n_STR_coder ∈ lT := ds_20 _ (nth_mem hdT_20.2.2.2)
theorem hdT_21 : nth dw_21 18 = some (headw n_D_ofSigned) ∧ nth dw_21 8 = some (headw n_X_compare) ∧ nth dw_21 15 = some (headw n_X_text) ∧ nth dw_21 29 = some (headw n_X_rest) ∧ nth dw_21 32 = some (headw n_X_needNotZero) ∧ nth dw_21 4 = some (headw n_K_compare) ∧ nth dw_21 11 = some (headw n_K_text) ∧ nth dw_21 21 = some (headw n_K_ofNumber) ∧ nth dw_21 25 = some (headw n_K_rest) ∧ nth dw_21 36 = some (headw n_K_quotient) := ⟨rfl, rfl, rfl, rfl, rfl, rfl, rfl, rfl, rfl, rfl⟩
theorem hdi_D_ofSigned : headw n_D_ofSigned ∈ lT := ds_21 _ (nth_mem hdT_21.1)
theorem hdi_X_compare : headw n_X_compare ∈ lT := ds_21 _ (nth_mem hdT_21.2.1)
theorem hdi_X_text : headw n_X_text ∈ lT := ds_21 _ (nth_mem hdT_21.2.2.1)
theorem hdi_X_rest : headw n_X_rest ∈ lT := ds_21 _ (nth_mem hdT_21.2.2.2.1)
theorem hdi_X_needNotZero : headw n_X_needNotZero ∈ lT := ds_21 _ (nth_mem hdT_21.2.2.2.2.1)
theorem hdi_K_compare : headw n_K_compare ∈ lT := ds_21 _ (nth_mem hdT_21.2.2.2.2.2.1)
theorem hdi_K_text : headw n_K_text ∈ lT := ds_21 _ (nth_mem hdT_21.2.2.2.2.2.2.1)
theorem hdi_K_ofNumber : headw n_K_ofNumber ∈ lT := ds_21 _ (nth_mem hdT_21.2.2.2.2.2.2.2.1)
theorem hdi_K_rest : headw n_K_rest ∈ lT := ds_21 _ (nth_mem hdT_21.2.2.2.2.2.2.2.2.1)
theorem hdi_K_quotient : headw n_K_quotient ∈ lT := ds_21 _ (nth_mem hdT_21.2.2.2.2.2.2.2.2.2)
theorem hdT_22 : nth dw_22 0 = some (headw n_X_quotient) ∧ nth dw_22 7 = some (headw n_X_modulus) ∧ nth dw_22 19 = some (headw n_X_bring) ∧ nth dw_22 26 = some (headw n_X_lift) ∧ nth dw_22 33 = some (headw n_X_plus) ∧ nth dw_22 11 = some (headw n_X_keepResidue) ∧ nth dw_22 3 = some (headw n_K_modulus) ∧ nth dw_22 15 = some (headw n_K_bring) ∧ nth dw_22 22 = some (headw n_K_lift) ∧ nth dw_22 29 = some (headw n_K_plus) ∧ nth dw_22 36 = some (headw n_K_times) := ⟨rfl, rfl, rfl, rfl, rfl, rfl, rfl, rfl, rfl, rfl, rfl⟩
theorem hdi_X_quotient : headw n_X_quotient ∈ lT := ds_22 _ (nth_mem hdT_22.1)
theorem hdi_X_modulus : headw n_X_modulus ∈ lT := ds_22 _ (nth_mem hdT_22.2.1)
theorem hdi_X_bring : headw n_X_bring ∈ lT := ds_22 _ (nth_mem hdT_22.2.2.1)
theorem hdi_X_lift : headw n_X_lift ∈ lT := ds_22 _ (nth_mem hdT_22.2.2.2.1)
theorem hdi_X_plus : headw n_X_plus ∈ lT := ds_22 _ (nth_mem hdT_22.2.2.2.2.1)
theorem hdi_X_keepResidue : headw n_X_keepResidue ∈ lT := ds_22 _ (nth_mem hdT_22.2.2.2.2.2.1)
theorem hdi_K_modulus : headw n_K_modulus ∈ lT := ds_22 _ (nth_mem hdT_22.2.2.2.2.2.2.1)
theorem hdi_K_bring : headw n_K_bring ∈ lT := ds_22 _ (nth_mem hdT_22.2.2.2.2.2.2.2.1)
theorem hdi_K_lift : headw n_K_lift ∈ lT := ds_22 _ (nth_mem hdT_22.2.2.2.2.2.2.2.2.1)
theorem hdi_K_plus : headw n_K_plus ∈ lT := ds_22 _ (nth_mem hdT_22.2.2.2.2.2.2.2.2.2.1)
theorem hdi_K_times : headw n_K_times ∈ lT := ds_22 _ (nth_mem hdT_22.2.2.2.2.2.2.2.2.2.2)
theorem hdT_23 : nth dw_23 11 = some (headw n_R_raised) ∧ nth dw_23 0 = some (headw n_X_times) ∧ nth dw_23 7 = some (headw n_X_power) ∧ nth dw_23 18 = some (headw n_X_inverse) ∧ nth dw_23 30 = some (headw n_X_residue) ∧ nth dw_23 37 = some (headw n_X_ringText) ∧ nth dw_23 3 = some (headw n_K_power) ∧ nth dw_23 14 = some (headw n_K_inverse) ∧ nth dw_23 22 = some (headw n_K_isUnit) ∧ nth dw_23 26 = some (headw n_K_residue) ∧ nth dw_23 33 = some (headw n_K_ringText) := ⟨rfl, rfl, rfl, rfl, rfl, rfl, rfl, rfl, rfl, rfl, rfl⟩
theorem hdi_R_raised : headw n_R_raised ∈ lT := ds_23 _ (nth_mem hdT_23.1)
theorem hdi_X_times : headw n_X_times ∈ lT := ds_23 _ (nth_mem hdT_23.2.1)
theorem hdi_X_power : headw n_X_power ∈ lT := ds_23 _ (nth_mem hdT_23.2.2.1)
theorem hdi_X_inverse : headw n_X_inverse ∈ lT := ds_23 _ (nth_mem hdT_23.2.2.2.1)
theorem hdi_X_residue : headw n_X_residue ∈ lT := ds_23 _ (nth_mem hdT_23.2.2.2.2.1)
theorem hdi_X_ringText : headw n_X_ringText ∈ lT := ds_23 _ (nth_mem hdT_23.2.2.2.2.2.1)
theorem hdi_K_power : headw n_K_power ∈ lT := ds_23 _ (nth_mem hdT_23.2.2.2.2.2.2.1)
theorem hdi_K_inverse : headw n_K_inverse ∈ lT := ds_23 _ (nth_mem hdT_23.2.2.2.2.2.2.2.1)
theorem hdi_K_isUnit : headw n_K_isUnit ∈ lT := ds_23 _ (nth_mem hdT_23.2.2.2.2.2.2.2.2.1)
theorem hdi_K_residue : headw n_K_residue ∈ lT := ds_23 _ (nth_mem hdT_23.2.2.2.2.2.2.2.2.2.1)
theorem hdi_K_ringText : headw n_K_ringText ∈ lT := ds_23 _ (nth_mem hdT_23.2.2.2.2.2.2.2.2.2.2)
theorem hdT_24 : nth dw_24 9 = some (headw n_X_areAlike) ∧ nth dw_24 16 = some (headw n_X_together) ∧ nth dw_24 25 = some (headw n_X_common) ∧ nth dw_24 36 = some (headw n_M_new) ∧ nth dw_24 5 = some (headw n_K_areAlike) ∧ nth dw_24 12 = some (headw n_K_together) ∧ nth dw_24 21 = some (headw n_K_common) ∧ nth dw_24 30 = some (headw n_K_house) := ⟨rfl, rfl, rfl, rfl, rfl, rfl, rfl, rfl⟩
theorem hdi_X_areAlike : headw n_X_areAlike ∈ lT := ds_24 _ (nth_mem hdT_24.1)
theorem hdi_X_together : headw n_X_together ∈ lT := ds_24 _ (nth_mem hdT_24.2.1)
theorem hdi_X_common : headw n_X_common ∈ lT := ds_24 _ (nth_mem hdT_24.2.2.1)
theorem hdi_M_new : headw n_M_new ∈ lT := ds_24 _ (nth_mem hdT_24.2.2.2.1)
theorem hdi_K_areAlike : headw n_K_areAlike ∈ lT := ds_24 _ (nth_mem hdT_24.2.2.2.2.1)
theorem hdi_K_together : headw n_K_together ∈ lT := ds_24 _ (nth_mem hdT_24.2.2.2.2.2.1)
theorem hdi_K_common : headw n_K_common ∈ lT := ds_24 _ (nth_mem hdT_24.2.2.2.2.2.2.1)
theorem hdi_K_house : headw n_K_house ∈ lT := ds_24 _ (nth_mem hdT_24.2.2.2.2.2.2.2)
theorem hdT_25 : nth dw_25 36 = some (headw n_M_refuse) ∧ nth dw_25 32 = some (headw n_M_start) ∧ nth dw_25 28 = some (headw n_M_isNo) ∧ nth dw_25 25 = some (headw n_M_put) := ⟨rfl, rfl, rfl, rfl⟩
theorem hdi_M_refuse : headw n_M_refuse ∈ lT := ds_25 _ (nth_mem hdT_25.1)
theorem hdi_M_start : headw n_M_start ∈ lT := ds_25 _ (nth_mem hdT_25.2.1)
theorem hdi_M_isNo : headw n_M_isNo ∈ lT := ds_25 _ (nth_mem hdT_25.2.2.1)
theorem hdi_M_put : headw n_M_put ∈ lT := ds_25 _ (nth_mem hdT_25.2.2.2)
theorem hdT_26 : nth dw_26 24 = some (headw n_M_no) ∧ nth dw_26 8 = some (headw n_M_sign) ∧ nth dw_26 5 = some (headw n_M_now) ∧ nth dw_26 1 = some (headw n_M_become) ∧ nth dw_26 37 = some (headw n_M_above) ∧ nth dw_26 34 = some (headw n_M_both) ∧ nth dw_26 31 = some (headw n_M_isWithin) ∧ nth dw_26 12 = some (headw n_M_copy) ∧ nth dw_26 16 = some (headw n_M_widen) ∧ nth dw_26 20 = some (headw n_M_narrow) ∧ nth dw_26 28 = some (headw n_M_exact) := ⟨rfl, rfl, rfl, rfl, rfl, rfl, rfl, rfl, rfl, rfl, rfl⟩
theorem hdi_M_no : headw n_M_no ∈ lT := ds_26 _ (nth_mem hdT_26.1)
theorem hdi_M_sign : headw n_M_sign ∈ lT := ds_26 _ (nth_mem hdT_26.2.1)
theorem hdi_M_now : headw n_M_now ∈ lT := ds_26 _ (nth_mem hdT_26.2.2.1)
theorem hdi_M_become : headw n_M_become ∈ lT := ds_26 _ (nth_mem hdT_26.2.2.2.1)
theorem hdi_M_above : headw n_M_above ∈ lT := ds_26 _ (nth_mem hdT_26.2.2.2.2.1)
theorem hdi_M_both : headw n_M_both ∈ lT := ds_26 _ (nth_mem hdT_26.2.2.2.2.2.1)
theorem hdi_M_isWithin : headw n_M_isWithin ∈ lT := ds_26 _ (nth_mem hdT_26.2.2.2.2.2.2.1)
theorem hdi_M_copy : headw n_M_copy ∈ lT := ds_26 _ (nth_mem hdT_26.2.2.2.2.2.2.2.1)
theorem hdi_M_widen : headw n_M_widen ∈ lT := ds_26 _ (nth_mem hdT_26.2.2.2.2.2.2.2.2.1)
theorem hdi_M_narrow : headw n_M_narrow ∈ lT := ds_26 _ (nth_mem hdT_26.2.2.2.2.2.2.2.2.2.1)
theorem hdi_M_exact : headw n_M_exact ∈ lT := ds_26 _ (nth_mem hdT_26.2.2.2.2.2.2.2.2.2.2)
theorem hdT_27 : nth dw_27 37 = some (headw n_M_restOf) ∧ nth dw_27 2 = some (headw n_M_fits) ∧ nth dw_27 6 = some (headw n_M_alone) ∧ nth dw_27 10 = some (headw n_M_timesInt) ∧ nth dw_27 14 = some (headw n_M_full) ∧ nth dw_27 18 = some (headw n_M_high) ∧ nth dw_27 22 = some (headw n_M_round) ∧ nth dw_27 26 = some (headw n_M_abs) ∧ nth dw_27 30 = some (headw n_M_extreme) ∧ nth dw_27 34 = some (headw n_M_floor) := ⟨rfl, rfl, rfl, rfl, rfl, rfl, rfl, rfl, rfl, rfl⟩
theorem hdi_M_restOf : headw n_M_restOf ∈ lT := ds_27 _ (nth_mem hdT_27.1)
theorem hdi_M_fits : headw n_M_fits ∈ lT := ds_27 _ (nth_mem hdT_27.2.1)
theorem hdi_M_alone : headw n_M_alone ∈ lT := ds_27 _ (nth_mem hdT_27.2.2.1)
theorem hdi_M_timesInt : headw n_M_timesInt ∈ lT := ds_27 _ (nth_mem hdT_27.2.2.2.1)
theorem hdi_M_full : headw n_M_full ∈ lT := ds_27 _ (nth_mem hdT_27.2.2.2.2.1)
theorem hdi_M_high : headw n_M_high ∈ lT := ds_27 _ (nth_mem hdT_27.2.2.2.2.2.1)
theorem hdi_M_round : headw n_M_round ∈ lT := ds_27 _ (nth_mem hdT_27.2.2.2.2.2.2.1)
theorem hdi_M_abs : headw n_M_abs ∈ lT := ds_27 _ (nth_mem hdT_27.2.2.2.2.2.2.2.1)
theorem hdi_M_extreme : headw n_M_extreme ∈ lT := ds_27 _ (nth_mem hdT_27.2.2.2.2.2.2.2.2.1)
theorem hdi_M_floor : headw n_M_floor ∈ lT := ds_27 _ (nth_mem hdT_27.2.2.2.2.2.2.2.2.2)
theorem hdT_28 : nth dw_28 0 = some (headw n_M_floorOf) ∧ nth dw_28 4 = some (headw n_M_floorInt) ∧ nth dw_28 8 = some (headw n_M_towards) ∧ nth dw_28 12 = some (headw n_M_average) ∧ nth dw_28 19 = some (headw n_M_areWrong) ∧ nth dw_28 16 = some (headw n_M_chain) ∧ nth dw_28 23 = some (headw n_M_atOnce) ∧ nth dw_28 32 = some (headw n_M_plain) ∧ nth dw_28 28 = some (headw n_M_distance) ∧ nth dw_28 39 = some (headw n_SB_append_J) := ⟨rfl, rfl, rfl, rfl, rfl, rfl, rfl, rfl, rfl, rfl⟩
theorem hdi_M_floorOf : headw n_M_floorOf ∈ lT := ds_28 _ (nth_mem hdT_28.1)
theorem hdi_M_floorInt : headw n_M_floorInt ∈ lT := ds_28 _ (nth_mem hdT_28.2.1)
theorem hdi_M_towards : headw n_M_towards ∈ lT := ds_28 _ (nth_mem hdT_28.2.2.1)
theorem hdi_M_average : headw n_M_average ∈ lT := ds_28 _ (nth_mem hdT_28.2.2.2.1)
theorem hdi_M_areWrong : headw n_M_areWrong ∈ lT := ds_28 _ (nth_mem hdT_28.2.2.2.2.1)
theorem hdi_M_chain : headw n_M_chain ∈ lT := ds_28 _ (nth_mem hdT_28.2.2.2.2.2.1)
theorem hdi_M_atOnce : headw n_M_atOnce ∈ lT := ds_28 _ (nth_mem hdT_28.2.2.2.2.2.2.1)
theorem hdi_M_plain : headw n_M_plain ∈ lT := ds_28 _ (nth_mem hdT_28.2.2.2.2.2.2.2.1)
theorem hdi_M_distance : headw n_M_distance ∈ lT := ds_28 _ (nth_mem hdT_28.2.2.2.2.2.2.2.2.1)
theorem hdi_SB_append_J : headw n_SB_append_J ∈ lT := ds_28 _ (nth_mem hdT_28.2.2.2.2.2.2.2.2.2)
theorem hdT_29 : nth dw_29 29 = some (headw n_M_compare) ∧ nth dw_29 33 = some (headw n_M_text) ∧ nth dw_29 37 = some (headw n_M_ofNumber) ∧ nth dw_29 2 = some (headw n_ASB_append_J) ∧ nth dw_29 10 = some (headw n_LNG_getChars) ∧ nth dw_29 5 = some (headw n_LNG_stringSize) := ⟨rfl, rfl, rfl, rfl, rfl, rfl⟩
theorem hdi_M_compare : headw n_M_compare ∈ lT := ds_29 _ (nth_mem hdT_29.1)
theorem hdi_M_text : headw n_M_text ∈ lT := ds_29 _ (nth_mem hdT_29.2.1)
theorem hdi_M_ofNumber : headw n_M_ofNumber ∈ lT := ds_29 _ (nth_mem hdT_29.2.2.1)
theorem hdi_ASB_append_J : headw n_ASB_append_J ∈ lT := ds_29 _ (nth_mem hdT_29.2.2.2.1)
theorem hdi_LNG_getChars : headw n_LNG_getChars ∈ lT := ds_29 _ (nth_mem hdT_29.2.2.2.2.1)
theorem hdi_LNG_stringSize : headw n_LNG_stringSize ∈ lT := ds_29 _ (nth_mem hdT_29.2.2.2.2.2)
theorem hdT_30 : nth dw_30 20 = some (headw n_M_isNoRing) ∧ nth dw_30 1 = some (headw n_M_ofNow) ∧ nth dw_30 9 = some (headw n_M_rest) ∧ nth dw_30 13 = some (headw n_M_quotient) ∧ nth dw_30 24 = some (headw n_M_come) ∧ nth dw_30 17 = some (headw n_M_modulus) ∧ nth dw_30 28 = some (headw n_M_bring) ∧ nth dw_30 32 = some (headw n_M_lift) ∧ nth dw_30 36 = some (headw n_M_plus) := ⟨rfl, rfl, rfl, rfl, rfl, rfl, rfl, rfl, rfl⟩
theorem hdi_M_isNoRing : headw n_M_isNoRing ∈ lT := ds_30 _ (nth_mem hdT_30.1)
theorem hdi_M_ofNow : headw n_M_ofNow ∈ lT := ds_30 _ (nth_mem hdT_30.2.1)
theorem hdi_M_rest : headw n_M_rest ∈ lT := ds_30 _ (nth_mem hdT_30.2.2.1)
theorem hdi_M_quotient : headw n_M_quotient ∈ lT := ds_30 _ (nth_mem hdT_30.2.2.2.1)
theorem hdi_M_come : headw n_M_come ∈ lT := ds_30 _ (nth_mem hdT_30.2.2.2.2.1)
theorem hdi_M_modulus : headw n_M_modulus ∈ lT := ds_30 _ (nth_mem hdT_30.2.2.2.2.2.1)
theorem hdi_M_bring : headw n_M_bring ∈ lT := ds_30 _ (nth_mem hdT_30.2.2.2.2.2.2.1)
theorem hdi_M_lift : headw n_M_lift ∈ lT := ds_30 _ (nth_mem hdT_30.2.2.2.2.2.2.2.1)
theorem hdi_M_plus : headw n_M_plus ∈ lT := ds_30 _ (nth_mem hdT_30.2.2.2.2.2.2.2.2)
theorem hdT_31 : nth dw_31 15 = some (headw n_M_gcd) ∧ nth dw_31 19 = some (headw n_M_against) ∧ nth dw_31 0 = some (headw n_M_times) ∧ nth dw_31 4 = some (headw n_M_power) ∧ nth dw_31 12 = some (headw n_M_isUnitNow) ∧ nth dw_31 8 = some (headw n_M_inverse) ∧ nth dw_31 23 = some (headw n_M_isUnit) ∧ nth dw_31 27 = some (headw n_M_residue) ∧ nth dw_31 31 = some (headw n_M_ringText) ∧ nth dw_31 38 = some (headw n_M_areAlike) := ⟨rfl, rfl, rfl, rfl, rfl, rfl, rfl, rfl, rfl, rfl⟩
theorem hdi_M_gcd : headw n_M_gcd ∈ lT := ds_31 _ (nth_mem hdT_31.1)
theorem hdi_M_against : headw n_M_against ∈ lT := ds_31 _ (nth_mem hdT_31.2.1)
theorem hdi_M_times : headw n_M_times ∈ lT := ds_31 _ (nth_mem hdT_31.2.2.1)
theorem hdi_M_power : headw n_M_power ∈ lT := ds_31 _ (nth_mem hdT_31.2.2.2.1)
theorem hdi_M_isUnitNow : headw n_M_isUnitNow ∈ lT := ds_31 _ (nth_mem hdT_31.2.2.2.2.1)
theorem hdi_M_inverse : headw n_M_inverse ∈ lT := ds_31 _ (nth_mem hdT_31.2.2.2.2.2.1)
theorem hdi_M_isUnit : headw n_M_isUnit ∈ lT := ds_31 _ (nth_mem hdT_31.2.2.2.2.2.2.1)
theorem hdi_M_residue : headw n_M_residue ∈ lT := ds_31 _ (nth_mem hdT_31.2.2.2.2.2.2.2.1)
theorem hdi_M_ringText : headw n_M_ringText ∈ lT := ds_31 _ (nth_mem hdT_31.2.2.2.2.2.2.2.2.1)
theorem hdi_M_areAlike : headw n_M_areAlike ∈ lT := ds_31 _ (nth_mem hdT_31.2.2.2.2.2.2.2.2.2)
theorem hdT_32 : nth dw_32 2 = some (headw n_M_together) ∧ nth dw_32 6 = some (headw n_M_common) ∧ nth dw_32 14 = some (headw n_M_houseNow) ∧ nth dw_32 10 = some (headw n_M_house) ∧ nth dw_32 18 = some (headw n_M_knock) ∧ nth dw_32 22 = some (headw n_M_isSound) ∧ nth dw_32 26 = some (headw n_M_digest) := ⟨rfl, rfl, rfl, rfl, rfl, rfl, rfl⟩
theorem hdi_M_together : headw n_M_together ∈ lT := ds_32 _ (nth_mem hdT_32.1)
theorem hdi_M_common : headw n_M_common ∈ lT := ds_32 _ (nth_mem hdT_32.2.1)
theorem hdi_M_houseNow : headw n_M_houseNow ∈ lT := ds_32 _ (nth_mem hdT_32.2.2.1)
theorem hdi_M_house : headw n_M_house ∈ lT := ds_32 _ (nth_mem hdT_32.2.2.2.1)
theorem hdi_M_knock : headw n_M_knock ∈ lT := ds_32 _ (nth_mem hdT_32.2.2.2.2.1)
theorem hdi_M_isSound : headw n_M_isSound ∈ lT := ds_32 _ (nth_mem hdT_32.2.2.2.2.2.1)
theorem hdi_M_digest : headw n_M_digest ∈ lT := ds_32 _ (nth_mem hdT_32.2.2.2.2.2.2)
theorem hdg_0 : ∀ x ∈ [n_D_ofSigned, n_D_ofUnsigned, n_D_appendBackwards, n_D_countOf, n_A_holdForPair, n_A_holdForAverages, n_A_holdForFloor, n_A_holdForTowards, n_A_holdForProduct, n_A_holdForResidue, n_A_keepResidues, n_A_holdForMeeting, n_R_sizeOf, n_R_residueOf, n_R_raised, n_R_greatestDivisor, n_R_hasInverse, n_R_inverseOf, n_R_inverseBelow, n_R_meetingOf, n_W_order, n_W_isWithin, n_W_goneRound, n_W_edge, n_W_joined, n_W_isExact, n_W_isTrue, n_W_upperHalf, n_W_averageOf, n_W_floorOf, n_W_restOf, n_W_quotientTowards, n_W_restTowards, n_W_chained, n_X_new, n_X_put, n_X_copy, n_X_widen, n_X_narrow, n_X_exact], headw x ∈ lT := List.forall_mem_cons.mpr ⟨hdi_D_ofSigned, List.forall_mem_cons.mpr ⟨hdi_D_ofUnsigned, List.forall_mem_cons.mpr ⟨hdi_D_appendBackwards, List.forall_mem_cons.mpr ⟨hdi_D_countOf, List.forall_mem_cons.mpr ⟨hdi_A_holdForPair, List.forall_mem_cons.mpr ⟨hdi_A_holdForAverages, List.forall_mem_cons.mpr ⟨hdi_A_holdForFloor, List.forall_mem_cons.mpr ⟨hdi_A_holdForTowards, List.forall_mem_cons.mpr ⟨hdi_A_holdForProduct, List.forall_mem_cons.mpr ⟨hdi_A_holdForResidue, List.forall_mem_cons.mpr ⟨hdi_A_keepResidues, List.forall_mem_cons.mpr ⟨hdi_A_holdForMeeting, List.forall_mem_cons.mpr ⟨hdi_R_sizeOf, List.forall_mem_cons.mpr ⟨hdi_R_residueOf, List.forall_mem_cons.mpr ⟨hdi_R_raised, List.forall_mem_cons.mpr ⟨hdi_R_greatestDivisor, List.forall_mem_cons.mpr ⟨hdi_R_hasInverse, List.forall_mem_cons.mpr ⟨hdi_R_inverseOf, List.forall_mem_cons.mpr ⟨hdi_R_inverseBelow, List.forall_mem_cons.mpr ⟨hdi_R_meetingOf, List.forall_mem_cons.mpr ⟨hdi_W_order, List.forall_mem_cons.mpr ⟨hdi_W_isWithin, List.forall_mem_cons.mpr ⟨hdi_W_goneRound, List.forall_mem_cons.mpr ⟨hdi_W_edge, List.forall_mem_cons.mpr ⟨hdi_W_joined, List.forall_mem_cons.mpr ⟨hdi_W_isExact, List.forall_mem_cons.mpr ⟨hdi_W_isTrue, List.forall_mem_cons.mpr ⟨hdi_W_upperHalf, List.forall_mem_cons.mpr ⟨hdi_W_averageOf, List.forall_mem_cons.mpr ⟨hdi_W_floorOf, List.forall_mem_cons.mpr ⟨hdi_W_restOf, List.forall_mem_cons.mpr ⟨hdi_W_quotientTowards, List.forall_mem_cons.mpr ⟨hdi_W_restTowards, List.forall_mem_cons.mpr ⟨hdi_W_chained, List.forall_mem_cons.mpr ⟨hdi_X_new, List.forall_mem_cons.mpr ⟨hdi_X_put, List.forall_mem_cons.mpr ⟨hdi_X_copy, List.forall_mem_cons.mpr ⟨hdi_X_widen, List.forall_mem_cons.mpr ⟨hdi_X_narrow, List.forall_mem_cons.mpr ⟨hdi_X_exact, fun _ h => nomatch h⟩⟩⟩⟩⟩⟩⟩⟩⟩⟩⟩⟩⟩⟩⟩⟩⟩⟩⟩⟩⟩⟩⟩⟩⟩⟩⟩⟩⟩⟩⟩⟩⟩⟩⟩⟩⟩⟩⟩⟩
theorem hdg_1 : ∀ x ∈ [n_X_fits, n_X_alone, n_X_timesInt, n_X_full, n_X_high, n_X_round, n_X_abs, n_X_extreme, n_X_floor, n_X_floorInt, n_X_towards, n_X_average, n_X_chain, n_X_atOnce, n_X_distance, n_X_compare, n_X_text, n_X_ofNumber, n_X_rest, n_X_quotient, n_X_modulus, n_X_bring, n_X_lift, n_X_plus, n_X_times, n_X_power, n_X_inverse, n_X_isUnit, n_X_residue, n_X_ringText, n_X_areAlike, n_X_together, n_X_common, n_X_house, n_X_knock, n_X_isSound, n_X_digest, n_X_needIndex, n_X_needChoice, n_X_needNotZero], headw x ∈ lT := List.forall_mem_cons.mpr ⟨hdi_X_fits, List.forall_mem_cons.mpr ⟨hdi_X_alone, List.forall_mem_cons.mpr ⟨hdi_X_timesInt, List.forall_mem_cons.mpr ⟨hdi_X_full, List.forall_mem_cons.mpr ⟨hdi_X_high, List.forall_mem_cons.mpr ⟨hdi_X_round, List.forall_mem_cons.mpr ⟨hdi_X_abs, List.forall_mem_cons.mpr ⟨hdi_X_extreme, List.forall_mem_cons.mpr ⟨hdi_X_floor, List.forall_mem_cons.mpr ⟨hdi_X_floorInt, List.forall_mem_cons.mpr ⟨hdi_X_towards, List.forall_mem_cons.mpr ⟨hdi_X_average, List.forall_mem_cons.mpr ⟨hdi_X_chain, List.forall_mem_cons.mpr ⟨hdi_X_atOnce, List.forall_mem_cons.mpr ⟨hdi_X_distance, List.forall_mem_cons.mpr ⟨hdi_X_compare, List.forall_mem_cons.mpr ⟨hdi_X_text, List.forall_mem_cons.mpr ⟨hdi_X_ofNumber, List.forall_mem_cons.mpr ⟨hdi_X_rest, List.forall_mem_cons.mpr ⟨hdi_X_quotient, List.forall_mem_cons.mpr ⟨hdi_X_modulus, List.forall_mem_cons.mpr ⟨hdi_X_bring, List.forall_mem_cons.mpr ⟨hdi_X_lift, List.forall_mem_cons.mpr ⟨hdi_X_plus, List.forall_mem_cons.mpr ⟨hdi_X_times, List.forall_mem_cons.mpr ⟨hdi_X_power, List.forall_mem_cons.mpr ⟨hdi_X_inverse, List.forall_mem_cons.mpr ⟨hdi_X_isUnit, List.forall_mem_cons.mpr ⟨hdi_X_residue, List.forall_mem_cons.mpr ⟨hdi_X_ringText, List.forall_mem_cons.mpr ⟨hdi_X_areAlike, List.forall_mem_cons.mpr ⟨hdi_X_together, List.forall_mem_cons.mpr ⟨hdi_X_common, List.forall_mem_cons.mpr ⟨hdi_X_house, List.forall_mem_cons.mpr ⟨hdi_X_knock, List.forall_mem_cons.mpr ⟨hdi_X_isSound, List.forall_mem_cons.mpr ⟨hdi_X_digest, List.forall_mem_cons.mpr ⟨hdi_X_needIndex, List.forall_mem_cons.mpr ⟨hdi_X_needChoice, List.forall_mem_cons.mpr ⟨hdi_X_needNotZero, fun _ h => nomatch h⟩⟩⟩⟩⟩⟩⟩⟩⟩⟩⟩⟩⟩⟩⟩⟩⟩⟩⟩⟩⟩⟩⟩⟩⟩⟩⟩⟩⟩⟩⟩⟩⟩⟩⟩⟩⟩⟩⟩⟩
theorem hdg_2 : ∀ x ∈ [n_X_needDivisors, n_X_numberAt, n_X_modulusAt, n_X_residueAt, n_X_refuse, n_X_keep, n_X_keepRound, n_X_keepExact, n_X_keepFloor, n_X_keepResidue, n_X_countZeros, n_X_countUnits, n_X_digestNumbers, n_X_areNumbersSound, n_X_areRingsSound, n_X_areMeetingsSound, n_O_new, n_M_new, n_M_refuse, n_M_start, n_M_isNo, n_M_isNoRing, n_M_no, n_M_sign, n_M_now, n_M_become, n_M_above, n_M_both, n_M_isWithin, n_M_floorOf, n_M_restOf, n_M_gcd, n_M_against, n_M_put, n_M_copy, n_M_widen, n_M_narrow, n_M_exact, n_M_fits, n_M_alone], headw x ∈ lT := List.forall_mem_cons.mpr ⟨hdi_X_needDivisors, List.forall_mem_cons.mpr ⟨hdi_X_numberAt, List.forall_mem_cons.mpr ⟨hdi_X_modulusAt, List.forall_mem_cons.mpr ⟨hdi_X_residueAt, List.forall_mem_cons.mpr ⟨hdi_X_refuse, List.forall_mem_cons.mpr ⟨hdi_X_keep, List.forall_mem_cons.mpr ⟨hdi_X_keepRound, List.forall_mem_cons.mpr ⟨hdi_X_keepExact, List.forall_mem_cons.mpr ⟨hdi_X_keepFloor, List.forall_mem_cons.mpr ⟨hdi_X_keepResidue, List.forall_mem_cons.mpr ⟨hdi_X_countZeros, List.forall_mem_cons.mpr ⟨hdi_X_countUnits, List.forall_mem_cons.mpr ⟨hdi_X_digestNumbers, List.forall_mem_cons.mpr ⟨hdi_X_areNumbersSound, List.forall_mem_cons.mpr ⟨hdi_X_areRingsSound, List.forall_mem_cons.mpr ⟨hdi_X_areMeetingsSound, List.forall_mem_cons.mpr ⟨hdi_O_new, List.forall_mem_cons.mpr ⟨hdi_M_new, List.forall_mem_cons.mpr ⟨hdi_M_refuse, List.forall_mem_cons.mpr ⟨hdi_M_start, List.forall_mem_cons.mpr ⟨hdi_M_isNo, List.forall_mem_cons.mpr ⟨hdi_M_isNoRing, List.forall_mem_cons.mpr ⟨hdi_M_no, List.forall_mem_cons.mpr ⟨hdi_M_sign, List.forall_mem_cons.mpr ⟨hdi_M_now, List.forall_mem_cons.mpr ⟨hdi_M_become, List.forall_mem_cons.mpr ⟨hdi_M_above, List.forall_mem_cons.mpr ⟨hdi_M_both, List.forall_mem_cons.mpr ⟨hdi_M_isWithin, List.forall_mem_cons.mpr ⟨hdi_M_floorOf, List.forall_mem_cons.mpr ⟨hdi_M_restOf, List.forall_mem_cons.mpr ⟨hdi_M_gcd, List.forall_mem_cons.mpr ⟨hdi_M_against, List.forall_mem_cons.mpr ⟨hdi_M_put, List.forall_mem_cons.mpr ⟨hdi_M_copy, List.forall_mem_cons.mpr ⟨hdi_M_widen, List.forall_mem_cons.mpr ⟨hdi_M_narrow, List.forall_mem_cons.mpr ⟨hdi_M_exact, List.forall_mem_cons.mpr ⟨hdi_M_fits, List.forall_mem_cons.mpr ⟨hdi_M_alone, fun _ h => nomatch h⟩⟩⟩⟩⟩⟩⟩⟩⟩⟩⟩⟩⟩⟩⟩⟩⟩⟩⟩⟩⟩⟩⟩⟩⟩⟩⟩⟩⟩⟩⟩⟩⟩⟩⟩⟩⟩⟩⟩⟩
theorem hdg_3 : ∀ x ∈ [n_M_timesInt, n_M_full, n_M_high, n_M_round, n_M_abs, n_M_extreme, n_M_floor, n_M_floorInt, n_M_towards, n_M_average, n_M_areWrong, n_M_chain, n_M_atOnce, n_M_plain, n_M_distance, n_M_compare, n_M_text, n_M_ofNow, n_M_ofNumber, n_M_rest, n_M_quotient, n_M_come, n_M_modulus, n_M_bring, n_M_lift, n_M_plus, n_M_times, n_M_power, n_M_isUnitNow, n_M_inverse, n_M_isUnit, n_M_residue, n_M_ringText, n_M_areAlike, n_M_together, n_M_common, n_M_houseNow, n_M_house, n_M_knock, n_M_isSound], headw x ∈ lT := List.forall_mem_cons.mpr ⟨hdi_M_timesInt, List.forall_mem_cons.mpr ⟨hdi_M_full, List.forall_mem_cons.mpr ⟨hdi_M_high, List.forall_mem_cons.mpr ⟨hdi_M_round, List.forall_mem_cons.mpr ⟨hdi_M_abs, List.forall_mem_cons.mpr ⟨hdi_M_extreme, List.forall_mem_cons.mpr ⟨hdi_M_floor, List.forall_mem_cons.mpr ⟨hdi_M_floorInt, List.forall_mem_cons.mpr ⟨hdi_M_towards, List.forall_mem_cons.mpr ⟨hdi_M_average, List.forall_mem_cons.mpr ⟨hdi_M_areWrong, List.forall_mem_cons.mpr ⟨hdi_M_chain, List.forall_mem_cons.mpr ⟨hdi_M_atOnce, List.forall_mem_cons.mpr ⟨hdi_M_plain, List.forall_mem_cons.mpr ⟨hdi_M_distance, List.forall_mem_cons.mpr ⟨hdi_M_compare, List.forall_mem_cons.mpr ⟨hdi_M_text, List.forall_mem_cons.mpr ⟨hdi_M_ofNow, List.forall_mem_cons.mpr ⟨hdi_M_ofNumber, List.forall_mem_cons.mpr ⟨hdi_M_rest, List.forall_mem_cons.mpr ⟨hdi_M_quotient, List.forall_mem_cons.mpr ⟨hdi_M_come, List.forall_mem_cons.mpr ⟨hdi_M_modulus, List.forall_mem_cons.mpr ⟨hdi_M_bring, List.forall_mem_cons.mpr ⟨hdi_M_lift, List.forall_mem_cons.mpr ⟨hdi_M_plus, List.forall_mem_cons.mpr ⟨hdi_M_times, List.forall_mem_cons.mpr ⟨hdi_M_power, List.forall_mem_cons.mpr ⟨hdi_M_isUnitNow, List.forall_mem_cons.mpr ⟨hdi_M_inverse, List.forall_mem_cons.mpr ⟨hdi_M_isUnit, List.forall_mem_cons.mpr ⟨hdi_M_residue, List.forall_mem_cons.mpr ⟨hdi_M_ringText, List.forall_mem_cons.mpr ⟨hdi_M_areAlike, List.forall_mem_cons.mpr ⟨hdi_M_together, List.forall_mem_cons.mpr ⟨hdi_M_common, List.forall_mem_cons.mpr ⟨hdi_M_houseNow, List.forall_mem_cons.mpr ⟨hdi_M_house, List.forall_mem_cons.mpr ⟨hdi_M_knock, List.forall_mem_cons.mpr ⟨hdi_M_isSound, fun _ h => nomatch h⟩⟩⟩⟩⟩⟩⟩⟩⟩⟩⟩⟩⟩⟩⟩⟩⟩⟩⟩⟩⟩⟩⟩⟩⟩⟩⟩⟩⟩⟩⟩⟩⟩⟩⟩⟩⟩⟩⟩⟩
theorem hdg_4 : ∀ x ∈ [n_M_digest, n_ASB_new, n_ASB_length, n_ASB_ensureCapacityInternal, n_ASB_newCapacity, n_ASB_append_T, n_ASB_append_C, n_ASB_append_I, n_ASB_append_J, n_ASB_reverse, n_ASB_getValue, n_ASB_isLatin1, n_ASB_inflateIfNeededFor, n_ASB_putStringAt, n_INT_getChars, n_INT_stringSize, n_LNG_getChars, n_LNG_stringSize, n_MA_floorDiv, n_MA_abs, n_MA_max_II, n_MA_max_JJ, n_MA_min_II, n_MA_min_JJ, n_STR_new_Q, n_STR_length, n_STR_getBytes, n_STR_new_QN, n_STR_coder, n_SB_new, n_SB_append_T, n_SB_append_C, n_SB_append_I, n_SB_append_J, n_SB_reverse, n_SB_toString, n_SB_length, n_L1_canEncode, n_ARR_copyOf, n_ARR_checkLength], headw x ∈ lT := List.forall_mem_cons.mpr ⟨hdi_M_digest, List.forall_mem_cons.mpr ⟨hdi_ASB_new, List.forall_mem_cons.mpr ⟨hdi_ASB_length, List.forall_mem_cons.mpr ⟨hdi_ASB_ensureCapacityInternal, List.forall_mem_cons.mpr ⟨hdi_ASB_newCapacity, List.forall_mem_cons.mpr ⟨hdi_ASB_append_T, List.forall_mem_cons.mpr ⟨hdi_ASB_append_C, List.forall_mem_cons.mpr ⟨hdi_ASB_append_I, List.forall_mem_cons.mpr ⟨hdi_ASB_append_J, List.forall_mem_cons.mpr ⟨hdi_ASB_reverse, List.forall_mem_cons.mpr ⟨hdi_ASB_getValue, List.forall_mem_cons.mpr ⟨hdi_ASB_isLatin1, List.forall_mem_cons.mpr ⟨hdi_ASB_inflateIfNeededFor, List.forall_mem_cons.mpr ⟨hdi_ASB_putStringAt, List.forall_mem_cons.mpr ⟨hdi_INT_getChars, List.forall_mem_cons.mpr ⟨hdi_INT_stringSize, List.forall_mem_cons.mpr ⟨hdi_LNG_getChars, List.forall_mem_cons.mpr ⟨hdi_LNG_stringSize, List.forall_mem_cons.mpr ⟨hdi_MA_floorDiv, List.forall_mem_cons.mpr ⟨hdi_MA_abs, List.forall_mem_cons.mpr ⟨hdi_MA_max_II, List.forall_mem_cons.mpr ⟨hdi_MA_max_JJ, List.forall_mem_cons.mpr ⟨hdi_MA_min_II, List.forall_mem_cons.mpr ⟨hdi_MA_min_JJ, List.forall_mem_cons.mpr ⟨hdi_STR_new_Q, List.forall_mem_cons.mpr ⟨hdi_STR_length, List.forall_mem_cons.mpr ⟨hdi_STR_getBytes, List.forall_mem_cons.mpr ⟨hdi_STR_new_QN, List.forall_mem_cons.mpr ⟨hdi_STR_coder, List.forall_mem_cons.mpr ⟨hdi_SB_new, List.forall_mem_cons.mpr ⟨hdi_SB_append_T, List.forall_mem_cons.mpr ⟨hdi_SB_append_C, List.forall_mem_cons.mpr ⟨hdi_SB_append_I, List.forall_mem_cons.mpr ⟨hdi_SB_append_J, List.forall_mem_cons.mpr ⟨hdi_SB_reverse, List.forall_mem_cons.mpr ⟨hdi_SB_toString, List.forall_mem_cons.mpr ⟨hdi_SB_length, List.forall_mem_cons.mpr ⟨hdi_L1_canEncode, List.forall_mem_cons.mpr ⟨hdi_ARR_copyOf, List.forall_mem_cons.mpr ⟨hdi_ARR_checkLength, fun _ h => nomatch h⟩⟩⟩⟩⟩⟩⟩⟩⟩⟩⟩⟩⟩⟩⟩⟩⟩⟩⟩⟩⟩⟩⟩⟩⟩⟩⟩⟩⟩⟩⟩⟩⟩⟩⟩⟩⟩⟩⟩⟩
theorem hdg_5 : ∀ x ∈ [n_ARR_copyOfRange, n_ARR_copyOfRangeByte, n_AS_newLength, n_K_put, n_K_copy, n_K_widen, n_K_narrow, n_K_exact, n_K_fits, n_K_alone, n_K_timesInt, n_K_full, n_K_high, n_K_round, n_K_abs, n_K_extreme, n_K_floor, n_K_floorInt, n_K_towards, n_K_average, n_K_chain, n_K_atOnce, n_K_distance, n_K_compare, n_K_text, n_K_ofNumber, n_K_rest, n_K_quotient, n_K_modulus, n_K_bring, n_K_lift, n_K_plus, n_K_times, n_K_power, n_K_inverse, n_K_isUnit, n_K_residue, n_K_ringText, n_K_areAlike, n_K_together], headw x ∈ lT := List.forall_mem_cons.mpr ⟨hdi_ARR_copyOfRange, List.forall_mem_cons.mpr ⟨hdi_ARR_copyOfRangeByte, List.forall_mem_cons.mpr ⟨hdi_AS_newLength, List.forall_mem_cons.mpr ⟨hdi_K_put, List.forall_mem_cons.mpr ⟨hdi_K_copy, List.forall_mem_cons.mpr ⟨hdi_K_widen, List.forall_mem_cons.mpr ⟨hdi_K_narrow, List.forall_mem_cons.mpr ⟨hdi_K_exact, List.forall_mem_cons.mpr ⟨hdi_K_fits, List.forall_mem_cons.mpr ⟨hdi_K_alone, List.forall_mem_cons.mpr ⟨hdi_K_timesInt, List.forall_mem_cons.mpr ⟨hdi_K_full, List.forall_mem_cons.mpr ⟨hdi_K_high, List.forall_mem_cons.mpr ⟨hdi_K_round, List.forall_mem_cons.mpr ⟨hdi_K_abs, List.forall_mem_cons.mpr ⟨hdi_K_extreme, List.forall_mem_cons.mpr ⟨hdi_K_floor, List.forall_mem_cons.mpr ⟨hdi_K_floorInt, List.forall_mem_cons.mpr ⟨hdi_K_towards, List.forall_mem_cons.mpr ⟨hdi_K_average, List.forall_mem_cons.mpr ⟨hdi_K_chain, List.forall_mem_cons.mpr ⟨hdi_K_atOnce, List.forall_mem_cons.mpr ⟨hdi_K_distance, List.forall_mem_cons.mpr ⟨hdi_K_compare, List.forall_mem_cons.mpr ⟨hdi_K_text, List.forall_mem_cons.mpr ⟨hdi_K_ofNumber, List.forall_mem_cons.mpr ⟨hdi_K_rest, List.forall_mem_cons.mpr ⟨hdi_K_quotient, List.forall_mem_cons.mpr ⟨hdi_K_modulus, List.forall_mem_cons.mpr ⟨hdi_K_bring, List.forall_mem_cons.mpr ⟨hdi_K_lift, List.forall_mem_cons.mpr ⟨hdi_K_plus, List.forall_mem_cons.mpr ⟨hdi_K_times, List.forall_mem_cons.mpr ⟨hdi_K_power, List.forall_mem_cons.mpr ⟨hdi_K_inverse, List.forall_mem_cons.mpr ⟨hdi_K_isUnit, List.forall_mem_cons.mpr ⟨hdi_K_residue, List.forall_mem_cons.mpr ⟨hdi_K_ringText, List.forall_mem_cons.mpr ⟨hdi_K_areAlike, List.forall_mem_cons.mpr ⟨hdi_K_together, fun _ h => nomatch h⟩⟩⟩⟩⟩⟩⟩⟩⟩⟩⟩⟩⟩⟩⟩⟩⟩⟩⟩⟩⟩⟩⟩⟩⟩⟩⟩⟩⟩⟩⟩⟩⟩⟩⟩⟩⟩⟩⟩⟩
theorem hdg_6 : ∀ x ∈ [n_K_common, n_K_house], headw x ∈ lT := List.forall_mem_cons.mpr ⟨hdi_K_common, List.forall_mem_cons.mpr ⟨hdi_K_house, fun _ h => nomatch h⟩⟩
def hdN : Nat := 242
theorem hd_sp : ∀ x, x < hdN → x ∈ [n_D_ofSigned, n_D_ofUnsigned, n_D_appendBackwards, n_D_countOf, n_A_holdForPair, n_A_holdForAverages, n_A_holdForFloor, n_A_holdForTowards, n_A_holdForProduct, n_A_holdForResidue, n_A_keepResidues, n_A_holdForMeeting, n_R_sizeOf, n_R_residueOf, n_R_raised, n_R_greatestDivisor, n_R_hasInverse, n_R_inverseOf, n_R_inverseBelow, n_R_meetingOf, n_W_order, n_W_isWithin, n_W_goneRound, n_W_edge, n_W_joined, n_W_isExact, n_W_isTrue, n_W_upperHalf, n_W_averageOf, n_W_floorOf, n_W_restOf, n_W_quotientTowards, n_W_restTowards, n_W_chained, n_X_new, n_X_put, n_X_copy, n_X_widen, n_X_narrow, n_X_exact] ∨ x ∈ [n_X_fits, n_X_alone, n_X_timesInt, n_X_full, n_X_high, n_X_round, n_X_abs, n_X_extreme, n_X_floor, n_X_floorInt, n_X_towards, n_X_average, n_X_chain, n_X_atOnce, n_X_distance, n_X_compare, n_X_text, n_X_ofNumber, n_X_rest, n_X_quotient, n_X_modulus, n_X_bring, n_X_lift, n_X_plus, n_X_times, n_X_power, n_X_inverse, n_X_isUnit, n_X_residue, n_X_ringText, n_X_areAlike, n_X_together, n_X_common, n_X_house, n_X_knock, n_X_isSound, n_X_digest, n_X_needIndex, n_X_needChoice, n_X_needNotZero] ∨ x ∈ [n_X_needDivisors, n_X_numberAt, n_X_modulusAt, n_X_residueAt, n_X_refuse, n_X_keep, n_X_keepRound, n_X_keepExact, n_X_keepFloor, n_X_keepResidue, n_X_countZeros, n_X_countUnits, n_X_digestNumbers, n_X_areNumbersSound, n_X_areRingsSound, n_X_areMeetingsSound, n_O_new, n_M_new, n_M_refuse, n_M_start, n_M_isNo, n_M_isNoRing, n_M_no, n_M_sign, n_M_now, n_M_become, n_M_above, n_M_both, n_M_isWithin, n_M_floorOf, n_M_restOf, n_M_gcd, n_M_against, n_M_put, n_M_copy, n_M_widen, n_M_narrow, n_M_exact, n_M_fits, n_M_alone] ∨ x ∈ [n_M_timesInt, n_M_full, n_M_high, n_M_round, n_M_abs, n_M_extreme, n_M_floor, n_M_floorInt, n_M_towards, n_M_average, n_M_areWrong, n_M_chain, n_M_atOnce, n_M_plain, n_M_distance, n_M_compare, n_M_text, n_M_ofNow, n_M_ofNumber, n_M_rest, n_M_quotient, n_M_come, n_M_modulus, n_M_bring, n_M_lift, n_M_plus, n_M_times, n_M_power, n_M_isUnitNow, n_M_inverse, n_M_isUnit, n_M_residue, n_M_ringText, n_M_areAlike, n_M_together, n_M_common, n_M_houseNow, n_M_house, n_M_knock, n_M_isSound] ∨ x ∈ [n_M_digest, n_ASB_new, n_ASB_length, n_ASB_ensureCapacityInternal, n_ASB_newCapacity, n_ASB_append_T, n_ASB_append_C, n_ASB_append_I, n_ASB_append_J, n_ASB_reverse, n_ASB_getValue, n_ASB_isLatin1, n_ASB_inflateIfNeededFor, n_ASB_putStringAt, n_INT_getChars, n_INT_stringSize, n_LNG_getChars, n_LNG_stringSize, n_MA_floorDiv, n_MA_abs, n_MA_max_II, n_MA_max_JJ, n_MA_min_II, n_MA_min_JJ, n_STR_new_Q, n_STR_length, n_STR_getBytes, n_STR_new_QN, n_STR_coder, n_SB_new, n_SB_append_T, n_SB_append_C, n_SB_append_I, n_SB_append_J, n_SB_reverse, n_SB_toString, n_SB_length, n_L1_canEncode, n_ARR_copyOf, n_ARR_checkLength] ∨ x ∈ [n_ARR_copyOfRange, n_ARR_copyOfRangeByte, n_AS_newLength, n_K_put, n_K_copy, n_K_widen, n_K_narrow, n_K_exact, n_K_fits, n_K_alone, n_K_timesInt, n_K_full, n_K_high, n_K_round, n_K_abs, n_K_extreme, n_K_floor, n_K_floorInt, n_K_towards, n_K_average, n_K_chain, n_K_atOnce, n_K_distance, n_K_compare, n_K_text, n_K_ofNumber, n_K_rest, n_K_quotient, n_K_modulus, n_K_bring, n_K_lift, n_K_plus, n_K_times, n_K_power, n_K_inverse, n_K_isUnit, n_K_residue, n_K_ringText, n_K_areAlike, n_K_together] ∨ x ∈ [n_K_common, n_K_house] := by decide +kernel
theorem hd_gd : (List.range hdN).all (fun x => okK 0 (headw x)) = true := by decide +kernel
theorem hd_all {x : Nat} (h : x < hdN) : headw x ∈ lT ∧ okK 0 (headw x) = true := by
  refine ⟨?_, List.all_eq_true.mp hd_gd x (List.mem_range.mpr h)⟩
  rcases hd_sp x h with h | h | h | h | h | h | h
  · exact hdg_0 x h
  · exact hdg_1 x h
  · exact hdg_2 x h
  · exact hdg_3 x h
  · exact hdg_4 x h
  · exact hdg_5 x h
  · exact hdg_6 x h
theorem hd_oi : Jvm.Cond.code Lib.objectInit ⟨#[0xb1]⟩ 1 none ∈ lT ∧ okK 0 (Jvm.Cond.code Lib.objectInit ⟨#[0xb1]⟩ 1 none) = true := by decide +kernel
def hdF (w : Jvm.Cond) : Bool := match w with | .code _ _ _ _ => true | .codeWith _ _ _ _ _ => true | _ => false
theorem hd_in (a : Nat) (i : Instr) (x y z : Nat) : ∀ q ∈ lnW a i x y z, hdF q.2 = true → q = (0, headw x) ∨ q = (0, headw n_ASB_length) ∨ q = (0, .code Lib.objectInit ⟨#[0xb1]⟩ 1 none) := by
  intro q hq hd
  unfold lnW at hq
  repeat' split at hq
  all_goals simp only [List.mem_cons, List.not_mem_nil, or_false] at hq
  all_goals repeat' refine Or.elim hq (fun hq => ?_) (fun hq => ?_)
  all_goals subst hq
  all_goals first | exact Or.inl rfl | exact Or.inr (Or.inl rfl) | exact Or.inr (Or.inr rfl) | exact Bool.noConfusion (show false = true from hd)
def wlF (a : Nat) (es : List Ent) : List (Nat × Jvm.Cond) := (es.flatMap (wlE a)).filter (fun q => !hdF q.2)
def hdC (a : Nat) (es : List Ent) : Bool := es.all (fun e => (wlE a e).all (fun q => !hdF q.2 || Nat.blt e.2.2.2.1 hdN))
def wd (a : Nat) (es : List Ent) (ps : List (Nat × Nat)) : Bool := hdC a es && (decide ((wlF a es).map (fun q => some q.2) = ps.map get2) && (wlF a es).all (fun q => okK q.1 q.2))
theorem wd_ok {a : Nat} {es : List Ent} {ps : List (Nat × Nat)} (h : wd a es ps = true) : ∀ e ∈ es, ∀ q ∈ wlE a e, q.2 ∈ lT ∧ okK q.1 q.2 = true := by
  unfold wd at h
  simp only [Bool.and_eq_true, decide_eq_true_eq] at h
  obtain ⟨h1, h2, h3⟩ := h
  intro e he q hq
  by_cases hd : hdF q.2 = true
  · have hx := List.all_eq_true.mp (List.all_eq_true.mp h1 e he) q hq
    rw [hd] at hx
    have hx : Nat.blt e.2.2.2.1 hdN = true := hx
    have hx : e.2.2.2.1 < hdN := Nat.le_of_ble_eq_true hx
    rcases hd_in a _ _ _ _ q hq hd with e1 | e1 | e1
    · rw [e1]
      exact hd_all hx
    · rw [e1]
      exact hd_all (x := n_ASB_length) (by decide)
    · rw [e1]
      exact hd_oi
  · have hq2 : q ∈ wlF a es := List.mem_filter.mpr ⟨List.mem_flatMap.mpr ⟨e, he, hq⟩, by
      cases hb : hdF q.2 with
      | true => exact absurd hb hd
      | false => rfl⟩
    refine ⟨?_, List.all_eq_true.mp h3 q hq2⟩
    have h4 : some q.2 ∈ (wlF a es).map (fun q => some q.2) := List.mem_map.mpr ⟨q, hq2, rfl⟩
    rw [h2] at h4
    obtain ⟨p, -, hp⟩ := List.mem_map.mp h4
    exact get2_in hp
def dsL : List (String × Nat) := [("(J)Ljava/lang/String;", 1), ("(Ljava/lang/StringBuilder;J)V", 2), ("(J)I", 1), ("(ZJJ)Z", 3), ("(JJ)Z", 2), ("(II)Z", 2), ("(JJI)Z", 3), ("(IIII)Z", 4), ("(I)J", 1), ("(JI)I", 2), ("(III)I", 3), ("(JJ)J", 2), ("(II)I", 2), ("(IIII)J", 4), ("(JJ)I", 2), ("(ZJ)Z", 2), ("(ZJ)J", 2), ("(ZJ)I", 2), ("(JJI)J", 3), ("(ZJJI)Z", 4), ("(JJIJ)Z", 4), ("(ZJJ)J", 3), ("(JJZ)J", 3), ("(JIII)J", 4), ("()V", 0), ("(ZIII)I", 4), ("(ZII)I", 3), ("(ZIII)Z", 4), ("(ZI)I", 2), ("(ZIIZ)I", 4), ("(IIZ)I", 3), ("(IIII)I", 4), ("(ZII)Ljava/lang/String;", 3), ("(ZI)Ljava/lang/String;", 2), ("(IIZI)I", 4), ("(IIIZ)I", 4), ("(I)Ljava/lang/String;", 1), ("(IZII)Z", 4), ("(IIIII)I", 5), ("(IIZ)Ljava/lang/String;", 3), ("(I)I", 1), ("()I", 0), ("()Z", 0), ("()J", 0), ("(II)V", 2), ("(I)V", 1), ("(III)V", 3), ("(ZI)J", 2), ("(ZIJ)I", 3), ("(ZIJJI)I", 5), ("(ZIJZ)I", 4), ("(IIJ)I", 3), ("([J)I", 1), ("(JZ)J", 2), ("(Z)Z", 1), ("(ZI)Z", 2), ("(I)Z", 1), ("(III)Z", 3), ("(Ljava/lang/String;)Ljava/lang/AbstractStringBuilder;", 1), ("(C)Ljava/lang/AbstractStringBuilder;", 1), ("(I)Ljava/lang/AbstractStringBuilder;", 1), ("(J)Ljava/lang/AbstractStringBuilder;", 1), ("()Ljava/lang/AbstractStringBuilder;", 0), ("()[B", 0), ("(Ljava/lang/String;)V", 1), ("(ILjava/lang/String;)V", 2), ("(II[B)I", 3), ("(JI[B)I", 3), ("(J)J", 1), ("(Ljava/lang/StringBuilder;)V", 1), ("([BIB)V", 3), ("(Ljava/lang/AbstractStringBuilder;Ljava/lang/Void;)V", 2), ("()B", 0), ("(Ljava/lang/String;)Ljava/lang/StringBuilder;", 1), ("(C)Ljava/lang/StringBuilder;", 1), ("(I)Ljava/lang/StringBuilder;", 1), ("(J)Ljava/lang/StringBuilder;", 1), ("()Ljava/lang/StringBuilder;", 0), ("()Ljava/lang/String;", 0), ("(C)Z", 1), ("([BI)[B", 2), ("([BII)[B", 3), ("(LModrings;ZIIILModringsLaw$Out;)I", 6), ("(LModrings;ZIILModringsLaw$Out;)I", 5), ("(LModrings;IILModringsLaw$Out;)I", 4), ("(LModrings;IIILModringsLaw$Out;)I", 5), ("(LModrings;ZILModringsLaw$Out;)I", 4), ("(LModrings;ZIIZLModringsLaw$Out;)I", 6), ("(LModrings;IIZLModringsLaw$Out;)I", 5), ("(LModrings;IIIILModringsLaw$Out;)I", 6), ("(LModrings;IIZILModringsLaw$Out;)I", 6), ("(LModrings;IIIZLModringsLaw$Out;)I", 6), ("(LModrings;ILModringsLaw$Out;)I", 3), ("(LModrings;IZIILModringsLaw$Out;)I", 6), ("(LModrings;IIIIILModringsLaw$Out;)I", 7)]
def dsI : List Nat := [0, 0, 1, 2, 3, 4, 3, 3, 3, 5, 6, 7, 8, 9, 10, 11, 5, 12, 11, 13, 14, 15, 16, 17, 18, 19, 20, 21, 22, 11, 11, 11, 11, 23, 24, 25, 26, 12, 12, 25, 27, 26, 12, 10, 10, 25, 28, 29, 29, 30, 29, 29, 31, 31, 32, 26, 33, 26, 26, 32, 12, 34, 34, 35, 10, 10, 12, 5, 12, 36, 37, 38, 39, 40, 41, 42, 43, 44, 44, 45, 46, 47, 40, 12, 41, 48, 48, 49, 50, 51, 52, 41, 53, 54, 42, 42, 24, 24, 55, 55, 56, 56, 41, 2, 47, 48, 11, 18, 19, 11, 11, 11, 11, 25, 26, 12, 12, 25, 27, 26, 12, 10, 10, 25, 28, 29, 29, 30, 29, 29, 57, 31, 31, 0, 32, 26, 33, 26, 26, 26, 32, 51, 12, 34, 34, 35, 10, 10, 5, 12, 5, 12, 36, 37, 38, 39, 40, 40, 41, 42, 43, 45, 41, 45, 40, 58, 59, 60, 61, 62, 63, 42, 64, 65, 66, 40, 67, 2, 11, 68, 12, 11, 12, 11, 69, 41, 70, 71, 72, 24, 73, 74, 75, 76, 77, 78, 41, 79, 80, 44, 81, 81, 10, 82, 83, 84, 84, 82, 82, 83, 84, 85, 85, 82, 86, 87, 87, 88, 87, 87, 89, 89, 83, 83, 86, 83, 83, 83, 84, 90, 90, 91, 85, 85, 84, 84, 84, 92, 93, 94, 88, 92]
def npT : Nat := 1742935501205605955690734420055989974804354796709951431110557457814772310160211280926238597144492134903285475842056306282415486202287808459853647774529269724777293121085783857861758647018062428412629691525600825501772089894878842797556485265217161658180747891139768741609858026233144562384289974778860441028126608993344174423352649487970758061824435470189043157025
theorem ds_ok : dsL.all (fun q => decide ((parseMethodDescriptor q.1).map (fun d => d.parameters.length) = some q.2)) = true := by decide +kernel
def lnQ (x y : Nat) : Bool := Nat.blt x hdN && Nat.beq ((npT >>> (5 * x)) % 32) y
theorem ds_m : (List.range hdN).all (fun x => match nth dsI x with | some j => (match nth dsL j with | some q => decide (q.1 = (mY x).desc) && Nat.beq ((npT >>> (5 * x)) % 32) q.2 | none => false) | none => false) = true := by decide +kernel
theorem ds_c : (List.range hdN).all (fun x => decide ((mY x).cls ≠ "java/lang/invoke/MethodHandle" ∧ (mY x).cls ≠ "java/lang/invoke/VarHandle") && Nat.ble (mMax x) 81) = true := by decide +kernel
theorem lnQ_ok {x y : Nat} (h : lnQ x y = true) : lnS x y = true := by
  unfold lnQ at h
  rw [Bool.and_eq_true] at h
  have hx : x < hdN := Nat.le_of_ble_eq_true h.1
  have hy := Nat.eq_of_beq_eq_true h.2
  have h1 := List.all_eq_true.mp ds_m x (List.mem_range.mpr hx)
  have h2 := List.all_eq_true.mp ds_c x (List.mem_range.mpr hx)
  rw [Bool.and_eq_true, decide_eq_true_eq] at h2
  unfold lnS
  rw [Bool.and_eq_true, decide_eq_true_eq]
  refine ⟨⟨h2.1.1, h2.1.2, ?_⟩, h2.2⟩
  split at h1
  · split at h1
    · rename_i q hq
      rw [Bool.and_eq_true, decide_eq_true_eq] at h1
      have h3 := List.all_eq_true.mp ds_ok q (nth_mem hq)
      rw [decide_eq_true_eq] at h3
      rw [← h1.1, h3, ← hy, Nat.eq_of_beq_eq_true h1.2]
    · cases h1
  · cases h1
def lnkQ (a pc : Nat) (i : Instr) (n x y z : Nat) : Bool := match i with
  | .invokestatic ix => bif Nat.beq z 0 then Nat.beq n 3 && (lnQ x y && decide (mEx x = [])) else bif Nat.beq z 8 then Nat.beq n 3 && (lnQ x y && decide (mEx x ≠ [])) else lnk a pc (.invokestatic ix) n x y z
  | .invokevirtual ix => bif Nat.beq (z / 16) 1 then Nat.beq n 3 && (((lnQ x y && decide (mEx x = [])) && decide ((mY x).cls = mCn (z % 16))) && Nat.blt (z % 16) 5) else bif Nat.beq (z / 16) 2 then Nat.beq n 3 && ((lnQ x y && decide (mEx x = [])) && Nat.blt (z % 16) 5) else lnk a pc (.invokevirtual ix) n x y z
  | .invokespecial ix => bif Nat.beq z 4 then Nat.beq n 3 && ((lnQ x y && decide (mEx x = [])) && decide ((mY x).name ≠ "<init>")) else bif Nat.beq z 5 then Nat.beq n 3 && (((lnQ x y && decide (mEx x = [])) && decide ((mY x).name = "<init>")) && decide (mRet x = none)) else bif Nat.beq z 6 then Nat.beq n 3 && (((lnQ x y && decide (mEx x = [])) && decide ((mY x).name = "<init>")) && decide (mRet x = none)) else lnk a pc (.invokespecial ix) n x y z
  | i => lnk a pc i n x y z
theorem bif_p {P : Bool → Prop} {c a b : Bool} (h1 : c = true → P a) (h2 : P b) : P (bif c then a else b) := by
  cases c with
  | true => exact h1 rfl
  | false => exact h2
theorem lnkQ_ok {a pc n x y z : Nat} {i : Instr} : lnkQ a pc i n x y z = true → lnk a pc i n x y z = true := by
  unfold lnkQ
  split
  · rename_i ix
    refine bif_p (P := fun b => b = true → lnk a pc (.invokestatic ix) n x y z = true) (fun e h => ?_) (bif_p (P := fun b => b = true → lnk a pc (.invokestatic ix) n x y z = true) (fun e h => ?_) (fun h => h))
    · have e := Nat.eq_of_beq_eq_true e
      subst e
      rw [Bool.and_eq_true, Bool.and_eq_true] at h
      show (Nat.beq n 3 && (lnS x y && decide (mEx x = []))) = true
      rw [h.1, lnQ_ok h.2.1, h.2.2]
      rfl
    · have e := Nat.eq_of_beq_eq_true e
      subst e
      rw [Bool.and_eq_true, Bool.and_eq_true] at h
      show (Nat.beq n 3 && (lnS x y && decide (mEx x ≠ []))) = true
      rw [h.1, lnQ_ok h.2.1, h.2.2]
      rfl
  · rename_i ix
    refine bif_p (P := fun b => b = true → lnk a pc (.invokevirtual ix) n x y z = true) (fun e h => ?_) (bif_p (P := fun b => b = true → lnk a pc (.invokevirtual ix) n x y z = true) (fun e h => ?_) (fun h => h))
    · have e := Nat.eq_of_beq_eq_true e
      simp only [Bool.and_eq_true] at h
      obtain ⟨h0, ⟨⟨h1, h2⟩, h3⟩, h4⟩ := h
      unfold lnk
      dsimp only
      rw [e]
      show (Nat.beq n 3 && (lnS x y && decide (mEx x = []) && decide ((mY x).cls = mCn (z % 16)) && Nat.blt (z % 16) 5)) = true
      rw [h0, lnQ_ok h1, h2, h3, h4]
      rfl
    · have e := Nat.eq_of_beq_eq_true e
      simp only [Bool.and_eq_true] at h
      obtain ⟨h0, ⟨h1, h2⟩, h4⟩ := h
      unfold lnk
      dsimp only
      rw [e]
      show (Nat.beq n 3 && (lnS x y && decide (mEx x = []) && Nat.blt (z % 16) 5)) = true
      rw [h0, lnQ_ok h1, h2, h4]
      rfl
  · rename_i ix
    refine bif_p (P := fun b => b = true → lnk a pc (.invokespecial ix) n x y z = true) (fun e h => ?_) (bif_p (P := fun b => b = true → lnk a pc (.invokespecial ix) n x y z = true) (fun e h => ?_) (bif_p (P := fun b => b = true → lnk a pc (.invokespecial ix) n x y z = true) (fun e h => ?_) (fun h => h)))
    · have e := Nat.eq_of_beq_eq_true e
      subst e
      simp only [Bool.and_eq_true] at h
      obtain ⟨h0, ⟨h1, h2⟩, h3⟩ := h
      show (Nat.beq n 3 && (lnS x y && decide (mEx x = []) && decide ((mY x).name ≠ "<init>"))) = true
      rw [h0, lnQ_ok h1, h2, h3]
      rfl
    · have e := Nat.eq_of_beq_eq_true e
      subst e
      simp only [Bool.and_eq_true] at h
      obtain ⟨h0, ⟨⟨h1, h2⟩, h3⟩, h4⟩ := h
      show (Nat.beq n 3 && (lnS x y && decide (mEx x = []) && decide ((mY x).name = "<init>") && decide (mRet x = none))) = true
      rw [h0, lnQ_ok h1, h2, h3, h4]
      rfl
    · have e := Nat.eq_of_beq_eq_true e
      subst e
      simp only [Bool.and_eq_true] at h
      obtain ⟨h0, ⟨⟨h1, h2⟩, h3⟩, h4⟩ := h
      show (Nat.beq n 3 && (lnS x y && decide (mEx x = []) && decide ((mY x).name = "<init>") && decide (mRet x = none))) = true
      rw [h0, lnQ_ok h1, h2, h3, h4]
      rfl
  · exact fun h => h
end
section
/-! an instruction against its bytes, by its constructor -/
theorem fd_bd {α β : Type} {r : Jvm.Free.DS.Rd α} {f : α → Jvm.Free.DS.Rd β} {A : ByteArray} {p s : Nat} {a : α} (h : r A p = .ok (a, s)) : (r >>= f) A p = f a A s := by
  show (do let (a, s) ← r A p; f a A s : Except DecodeError (β × Nat)) = _
  rw [h]
  rfl
theorem fd_u1 {A : ByteArray} {p : Nat} {b : UInt8} (h : A.data.toList[p]? = some b) : (Reader.u1 : Jvm.Free.DS.Rd Nat) A p = .ok (b.toNat, p + 1) := by
  have e : (Reader.u1 : Jvm.Free.DS.Rd Nat) A p = (if h : p < A.size then .ok (A[p].toNat, p + 1) else .error (HasTruncated.truncated p)) := by
    show (do if h : p < A.size then do set (p + 1); Pure.pure A[p].toNat else MonadExcept.throw (HasTruncated.truncated p) : Jvm.Free.DS.Rd Nat) A p = _
    by_cases hi : p < A.size
    · rw [dif_pos hi, dif_pos hi]; rfl
    · rw [dif_neg hi, dif_neg hi]; rfl
  have hp : p < A.size := Jvm.Free.DS.bt_lt h
  have hb : A[p] = b := Option.some.inj ((Jvm.Free.DS.bt_some hp).symm.trans h)
  rw [e, dif_pos hp, hb]
theorem fd_u2 {A : ByteArray} {p : Nat} {b c : UInt8} (h : A.data.toList[p]? = some b) (h2 : A.data.toList[p + 1]? = some c) : (Reader.u2 : Jvm.Free.DS.Rd Nat) A p = .ok (b.toNat * 256 + c.toNat, p + 2) := by
  show ((Reader.u1 : Jvm.Free.DS.Rd Nat) >>= fun hi => Reader.u1 >>= fun lo => Pure.pure (hi * 256 + lo)) A p = _
  rw [fd_bd (fd_u1 h), fd_bd (fd_u1 h2)]
  rfl
theorem fd_map {α β : Type} {r : Jvm.Free.DS.Rd α} {g : α → β} {A : ByteArray} {p s : Nat} {a : α} (h : r A p = .ok (a, s)) : (g <$> r) A p = .ok (g a, s) := by
  show (do let (a, s) ← r A p; .ok (g a, s) : Except DecodeError (β × Nat)) = _
  rw [h]
  rfl
theorem fd_s1 {A : ByteArray} {p : Nat} {b : UInt8} (h : A.data.toList[p]? = some b) : (Reader.s1 : Jvm.Free.DS.Rd Int) A p = .ok (Reader.signed 8 b.toNat, p + 1) := fd_map (fd_u1 h)
theorem fd_s2 {A : ByteArray} {p : Nat} {b c : UInt8} (h : A.data.toList[p]? = some b) (h2 : A.data.toList[p + 1]? = some c) : (Reader.s2 : Jvm.Free.DS.Rd Int) A p = .ok (Reader.signed 16 (b.toNat * 256 + c.toNat), p + 2) := fd_map (fd_u2 h h2)
theorem fd_dc {code : ByteArray} {pc n : Nat} {i : Instr} (h : Decoder.instr pc code pc = .ok (i, pc + n)) : decode code pc = .ok (i, n) := by
  show (do let (x, s) ← Decoder.instr pc code pc; Pure.pure (x, s - pc) : Except DecodeError (Instr × Nat)) = _
  rw [h]
  show Except.ok (i, pc + n - pc) = _
  rw [Nat.add_sub_cancel_left]
def ck0 (op n : Nat) (l : List UInt8) : Bool := match l with | b :: _ => Nat.beq n 1 && Nat.beq b.toNat op | [] => false
def ckU (op k n : Nat) (l : List UInt8) : Bool := match l with | b :: c :: _ => Nat.beq n 2 && (Nat.beq b.toNat op && Nat.beq c.toNat k) | _ => false
def ckW (op k n : Nat) (l : List UInt8) : Bool := match l with | b :: c :: d :: _ => Nat.beq n 3 && (Nat.beq b.toNat op && Nat.beq (c.toNat * 256 + d.toNat) k) | _ => false
def ckB (op : Nat) (v : Int) (n : Nat) (l : List UInt8) : Bool := match l with | b :: c :: _ => Nat.beq n 2 && (Nat.beq b.toNat op && decide (Reader.signed 8 c.toNat = v)) | _ => false
def ckS (op : Nat) (v : Int) (n : Nat) (l : List UInt8) : Bool := match l with | b :: c :: d :: _ => Nat.beq n 3 && (Nat.beq b.toNat op && decide (Reader.signed 16 (c.toNat * 256 + d.toNat) = v)) | _ => false
def ckN (op k : Nat) (v : Int) (n : Nat) (l : List UInt8) : Bool := match l with | b :: c :: d :: _ => Nat.beq n 3 && (Nat.beq b.toNat op && (Nat.beq c.toNat k && decide (Reader.signed 8 d.toNat = v))) | _ => false
section FD
variable {code : ByteArray} {pc : Nat} {l : List UInt8} {f : Nat → Jvm.Free.DS.Rd Instr}
theorem fd_ins {b : UInt8} {op : Nat} (hf : Decoder.instr pc = (Reader.u1 >>= f)) (h0 : code.data.toList[pc]? = some b) (ho : b.toNat = op) : Decoder.instr pc code pc = f op code (pc + 1) := by
  rw [hf, fd_bd (fd_u1 h0), ho]
theorem fd_0 {op n : Nat} {i : Instr} (hl : ∀ j, l[j]? = code.data.toList[pc + j]?) (hE : ∃ f : Nat → Jvm.Free.DS.Rd Instr, Decoder.instr pc = (Reader.u1 >>= f) ∧ f op = Pure.pure i) (h : ck0 op n l = true) : decode code pc = .ok (i, n) := by
  obtain ⟨f, hf, hop⟩ := hE
  match l, hl, h with
  | b :: _, hl, h =>
    have h : (Nat.beq n 1 && Nat.beq b.toNat op) = true := h
    rw [Bool.and_eq_true] at h
    have hn := Nat.eq_of_beq_eq_true h.1
    subst hn
    refine fd_dc ((fd_ins hf ((hl 0).symm.trans rfl) (Nat.eq_of_beq_eq_true h.2)).trans ?_)
    rw [hop]
    rfl
theorem fd_U {op k n : Nat} {g : Nat → Instr} (hl : ∀ j, l[j]? = code.data.toList[pc + j]?) (hE : ∃ f : Nat → Jvm.Free.DS.Rd Instr, Decoder.instr pc = (Reader.u1 >>= f) ∧ f op = (Reader.u1 >>= fun v => Pure.pure (g v))) (h : ckU op k n l = true) : decode code pc = .ok (g k, n) := by
  obtain ⟨f, hf, hop⟩ := hE
  match l, hl, h with
  | b :: c :: _, hl, h =>
    have h : (Nat.beq n 2 && (Nat.beq b.toNat op && Nat.beq c.toNat k)) = true := h
    simp only [Bool.and_eq_true] at h
    have hn := Nat.eq_of_beq_eq_true h.1
    subst hn
    refine fd_dc ((fd_ins hf ((hl 0).symm.trans rfl) (Nat.eq_of_beq_eq_true h.2.1)).trans ?_)
    rw [hop, fd_bd (fd_u1 ((hl 1).symm.trans rfl)), Nat.eq_of_beq_eq_true h.2.2]
    rfl
theorem fd_W {op k n : Nat} {g : Nat → Instr} (hl : ∀ j, l[j]? = code.data.toList[pc + j]?) (hE : ∃ f : Nat → Jvm.Free.DS.Rd Instr, Decoder.instr pc = (Reader.u1 >>= f) ∧ f op = (Reader.u2 >>= fun v => Pure.pure (g v))) (h : ckW op k n l = true) : decode code pc = .ok (g k, n) := by
  obtain ⟨f, hf, hop⟩ := hE
  match l, hl, h with
  | b :: c :: d :: _, hl, h =>
    have h : (Nat.beq n 3 && (Nat.beq b.toNat op && Nat.beq (c.toNat * 256 + d.toNat) k)) = true := h
    simp only [Bool.and_eq_true] at h
    have hn := Nat.eq_of_beq_eq_true h.1
    subst hn
    refine fd_dc ((fd_ins hf ((hl 0).symm.trans rfl) (Nat.eq_of_beq_eq_true h.2.1)).trans ?_)
    rw [hop, fd_bd (fd_u2 (b := c) (c := d) ((hl 1).symm.trans rfl) ((hl 2).symm.trans rfl)), Nat.eq_of_beq_eq_true h.2.2]
    rfl
theorem fd_B {op n : Nat} {v : Int} {g : Int → Instr} (hl : ∀ j, l[j]? = code.data.toList[pc + j]?) (hE : ∃ f : Nat → Jvm.Free.DS.Rd Instr, Decoder.instr pc = (Reader.u1 >>= f) ∧ f op = (Reader.s1 >>= fun v => Pure.pure (g v))) (h : ckB op v n l = true) : decode code pc = .ok (g v, n) := by
  obtain ⟨f, hf, hop⟩ := hE
  match l, hl, h with
  | b :: c :: _, hl, h =>
    have h : (Nat.beq n 2 && (Nat.beq b.toNat op && decide (Reader.signed 8 c.toNat = v))) = true := h
    simp only [Bool.and_eq_true, decide_eq_true_eq] at h
    have hn := Nat.eq_of_beq_eq_true h.1
    subst hn
    refine fd_dc ((fd_ins hf ((hl 0).symm.trans rfl) (Nat.eq_of_beq_eq_true h.2.1)).trans ?_)
    rw [hop, fd_bd (fd_s1 (b := c) ((hl 1).symm.trans rfl)), h.2.2]
    rfl
theorem fd_S {op n : Nat} {v : Int} {g : Int → Instr} (hl : ∀ j, l[j]? = code.data.toList[pc + j]?) (hE : ∃ f : Nat → Jvm.Free.DS.Rd Instr, Decoder.instr pc = (Reader.u1 >>= f) ∧ f op = (Reader.s2 >>= fun v => Pure.pure (g v))) (h : ckS op v n l = true) : decode code pc = .ok (g v, n) := by
  obtain ⟨f, hf, hop⟩ := hE
  match l, hl, h with
  | b :: c :: d :: _, hl, h =>
    have h : (Nat.beq n 3 && (Nat.beq b.toNat op && decide (Reader.signed 16 (c.toNat * 256 + d.toNat) = v))) = true := h
    simp only [Bool.and_eq_true, decide_eq_true_eq] at h
    have hn := Nat.eq_of_beq_eq_true h.1
    subst hn
    refine fd_dc ((fd_ins hf ((hl 0).symm.trans rfl) (Nat.eq_of_beq_eq_true h.2.1)).trans ?_)
    rw [hop, fd_bd (fd_s2 (b := c) (c := d) ((hl 1).symm.trans rfl) ((hl 2).symm.trans rfl)), h.2.2]
    rfl
theorem fd_N {op k n : Nat} {v : Int} {g : Nat → Int → Instr} (hl : ∀ j, l[j]? = code.data.toList[pc + j]?) (hE : ∃ f : Nat → Jvm.Free.DS.Rd Instr, Decoder.instr pc = (Reader.u1 >>= f) ∧ f op = (Reader.u1 >>= fun a => Reader.s1 >>= fun v => Pure.pure (g a v))) (h : ckN op k v n l = true) : decode code pc = .ok (g k v, n) := by
  obtain ⟨f, hf, hop⟩ := hE
  match l, hl, h with
  | b :: c :: d :: _, hl, h =>
    have h : (Nat.beq n 3 && (Nat.beq b.toNat op && (Nat.beq c.toNat k && decide (Reader.signed 8 d.toNat = v)))) = true := h
    simp only [Bool.and_eq_true, decide_eq_true_eq] at h
    have hn := Nat.eq_of_beq_eq_true h.1
    subst hn
    refine fd_dc ((fd_ins hf ((hl 0).symm.trans rfl) (Nat.eq_of_beq_eq_true h.2.1)).trans ?_)
    rw [hop, fd_bd (fd_u1 (b := c) ((hl 1).symm.trans rfl)), fd_bd (fd_s1 (b := d) ((hl 2).symm.trans rfl)), Nat.eq_of_beq_eq_true h.2.2.1, h.2.2.2]
    rfl
end FD
def ckI (i : Instr) (n : Nat) (l : List UInt8) : Bool := match i with
  | .iconst v => match v with
    | .negSucc 0 => ck0 2 n l
    | .ofNat 0 => ck0 3 n l
    | .ofNat 1 => ck0 4 n l
    | .ofNat 2 => ck0 5 n l
    | .ofNat 3 => ck0 6 n l
    | .ofNat 4 => ck0 7 n l
    | .ofNat 5 => ck0 8 n l
    | _ => false
  | .aload_n j => ck0 (42 + j.val) n l
  | .iload_n j => ck0 (26 + j.val) n l
  | .iload v => ckU 21 v n l
  | .invokevirtual v => ckW 182 v n l
  | .ifCond c v => match c with
    | .eq => ckS 153 v n l
    | .ne => ckS 154 v n l
    | .lt => ckS 155 v n l
    | .ge => ckS 156 v n l
    | .gt => ckS 157 v n l
    | .le => ckS 158 v n l
  | .goto v => ckS 167 v n l
  | .invokestatic v => ckW 184 v n l
  | .ireturn => ck0 172 n l
  | .iaload => ck0 46 n l
  | .iadd => ck0 96 n l
  | .lload v => ckU 22 v n l
  | .lload_n j => ck0 (30 + j.val) n l
  | .lstore v => ckU 55 v n l
  | .i2l => ck0 133 n l
  | .istore v => ckU 54 v n l
  | .getfield v => ckW 180 v n l
  | .lcmp => ck0 148 n l
  | .lconst j => ck0 (9 + j.val) n l
  | .if_icmp c v => match c with
    | .eq => ckS 159 v n l
    | .ne => ckS 160 v n l
    | .lt => ckS 161 v n l
    | .ge => ckS 162 v n l
    | .gt => ckS 163 v n l
    | .le => ckS 164 v n l
  | .putfield v => ckW 181 v n l
  | .lmul => ck0 105 n l
  | .astore v => ckU 58 v n l
  | .bipush v => ckB 16 v n l
  | .istore_n j => ck0 (59 + j.val) n l
  | .iinc k v => ckN 132 k v n l
  | .ldc2_w v => ckW 20 v n l
  | .ladd => ck0 97 n l
  | .areturn => ck0 176 n l
  | .dup => ck0 89 n l
  | .invokespecial v => ckW 183 v n l
  | .lreturn => ck0 173 n l
  | .aload v => ckU 25 v n l
  | .laload => ck0 47 n l
  | .lstore_n j => ck0 (63 + j.val) n l
  | .pop => ck0 87 n l
  | .ldc v => ckU 18 v n l
  | .new v => ckW 187 v n l
  | .lsub => ck0 101 n l
  | .return_ => ck0 177 n l
  | .ldiv => ck0 109 n l
  | .l2i => ck0 136 n l
  | .lshr => ck0 123 n l
  | .aaload => ck0 50 n l
  | .getstatic v => ckW 178 v n l
  | .bastore => ck0 84 n l
  | .land => ck0 127 n l
  | .astore_n j => ck0 (75 + j.val) n l
  | .baload => ck0 51 n l
  | .arraylength => ck0 190 n l
  | .iastore => ck0 79 n l
  | .isub => ck0 100 n l
  | .lneg => ck0 117 n l
  | .lxor => ck0 131 n l
  | .lrem => ck0 113 n l
  | .athrow => ck0 191 n l
  | .ineg => ck0 116 n l
  | .ishr => ck0 122 n l
  | .imul => ck0 104 n l
  | .ishl => ck0 120 n l
  | .lushr => ck0 125 n l
  | .lastore => ck0 80 n l
  | .sipush v => ckS 17 v n l
  | .irem => ck0 112 n l
  | .idiv => ck0 108 n l
  | .dup_x1 => ck0 90 n l
  | .iand => ck0 126 n l
  | .lor => ck0 129 n l
  | .checkcast v => ckW 192 v n l
  | .pop2 => ck0 88 n l
  | .i2c => ck0 146 n l
  | .lshl => ck0 121 n l
  | .ifnonnull v => ckS 199 v n l
  | .ifnull v => ckS 198 v n l
  | .i2b => ck0 145 n l
  | .aconst_null => ck0 1 n l
  | .ldc_w v => ckW 19 v n l
  | .ixor => ck0 130 n l
  | .ior => ck0 128 n l
  | .i2s => ck0 147 n l
  | .iushr => ck0 124 n l
  | .dup2 => ck0 92 n l
  | .dup_x2 => ck0 91 n l
  | .swap => ck0 95 n l
  | .castore => ck0 85 n l
  | .caload => ck0 52 n l
  | .instanceof v => ckW 193 v n l
  | _ => false
theorem ckI_ok {code : ByteArray} {pc n : Nat} {l : List UInt8} (hl : ∀ j, l[j]? = code.data.toList[pc + j]?) (i : Instr) (h : ckI i n l = true) : decode code pc = .ok (i, n) := by
  cases i
  case iconst =>
    rename_i v
    match v, h with
    | .negSucc 0, h => exact fd_0 (op := 2) hl ⟨_, rfl, rfl⟩ h
    | .ofNat 0, h => exact fd_0 (op := 3) hl ⟨_, rfl, rfl⟩ h
    | .ofNat 1, h => exact fd_0 (op := 4) hl ⟨_, rfl, rfl⟩ h
    | .ofNat 2, h => exact fd_0 (op := 5) hl ⟨_, rfl, rfl⟩ h
    | .ofNat 3, h => exact fd_0 (op := 6) hl ⟨_, rfl, rfl⟩ h
    | .ofNat 4, h => exact fd_0 (op := 7) hl ⟨_, rfl, rfl⟩ h
    | .ofNat 5, h => exact fd_0 (op := 8) hl ⟨_, rfl, rfl⟩ h
    | .ofNat (_ + 6), h => exact Bool.noConfusion (show false = true from h)
    | .negSucc (_ + 1), h => exact Bool.noConfusion (show false = true from h)
  case aload_n =>
    rename_i j
    match j, h with
    | ⟨0, _⟩, h => exact fd_0 (op := 42) hl ⟨_, rfl, rfl⟩ h
    | ⟨1, _⟩, h => exact fd_0 (op := 43) hl ⟨_, rfl, rfl⟩ h
    | ⟨2, _⟩, h => exact fd_0 (op := 44) hl ⟨_, rfl, rfl⟩ h
    | ⟨3, _⟩, h => exact fd_0 (op := 45) hl ⟨_, rfl, rfl⟩ h
  case iload_n =>
    rename_i j
    match j, h with
    | ⟨0, _⟩, h => exact fd_0 (op := 26) hl ⟨_, rfl, rfl⟩ h
    | ⟨1, _⟩, h => exact fd_0 (op := 27) hl ⟨_, rfl, rfl⟩ h
    | ⟨2, _⟩, h => exact fd_0 (op := 28) hl ⟨_, rfl, rfl⟩ h
    | ⟨3, _⟩, h => exact fd_0 (op := 29) hl ⟨_, rfl, rfl⟩ h
  case iload => exact fd_U (op := 21) (g := fun v => .iload v) hl ⟨_, rfl, rfl⟩ h
  case invokevirtual => exact fd_W (op := 182) (g := fun v => .invokevirtual v) hl ⟨_, rfl, rfl⟩ h
  case ifCond =>
    rename_i c v
    match c, h with
    | .eq, h => exact fd_S (op := 153) (g := fun v => .ifCond .eq v) hl ⟨_, rfl, rfl⟩ h
    | .ne, h => exact fd_S (op := 154) (g := fun v => .ifCond .ne v) hl ⟨_, rfl, rfl⟩ h
    | .lt, h => exact fd_S (op := 155) (g := fun v => .ifCond .lt v) hl ⟨_, rfl, rfl⟩ h
    | .ge, h => exact fd_S (op := 156) (g := fun v => .ifCond .ge v) hl ⟨_, rfl, rfl⟩ h
    | .gt, h => exact fd_S (op := 157) (g := fun v => .ifCond .gt v) hl ⟨_, rfl, rfl⟩ h
    | .le, h => exact fd_S (op := 158) (g := fun v => .ifCond .le v) hl ⟨_, rfl, rfl⟩ h
  case goto => exact fd_S (op := 167) (g := fun v => .goto v) hl ⟨_, rfl, rfl⟩ h
  case invokestatic => exact fd_W (op := 184) (g := fun v => .invokestatic v) hl ⟨_, rfl, rfl⟩ h
  case ireturn => exact fd_0 (op := 172) hl ⟨_, rfl, rfl⟩ h
  case iaload => exact fd_0 (op := 46) hl ⟨_, rfl, rfl⟩ h
  case iadd => exact fd_0 (op := 96) hl ⟨_, rfl, rfl⟩ h
  case lload => exact fd_U (op := 22) (g := fun v => .lload v) hl ⟨_, rfl, rfl⟩ h
  case lload_n =>
    rename_i j
    match j, h with
    | ⟨0, _⟩, h => exact fd_0 (op := 30) hl ⟨_, rfl, rfl⟩ h
    | ⟨1, _⟩, h => exact fd_0 (op := 31) hl ⟨_, rfl, rfl⟩ h
    | ⟨2, _⟩, h => exact fd_0 (op := 32) hl ⟨_, rfl, rfl⟩ h
    | ⟨3, _⟩, h => exact fd_0 (op := 33) hl ⟨_, rfl, rfl⟩ h
  case lstore => exact fd_U (op := 55) (g := fun v => .lstore v) hl ⟨_, rfl, rfl⟩ h
  case i2l => exact fd_0 (op := 133) hl ⟨_, rfl, rfl⟩ h
  case istore => exact fd_U (op := 54) (g := fun v => .istore v) hl ⟨_, rfl, rfl⟩ h
  case getfield => exact fd_W (op := 180) (g := fun v => .getfield v) hl ⟨_, rfl, rfl⟩ h
  case lcmp => exact fd_0 (op := 148) hl ⟨_, rfl, rfl⟩ h
  case lconst =>
    rename_i j
    match j, h with
    | ⟨0, _⟩, h => exact fd_0 (op := 9) hl ⟨_, rfl, rfl⟩ h
    | ⟨1, _⟩, h => exact fd_0 (op := 10) hl ⟨_, rfl, rfl⟩ h
  case if_icmp =>
    rename_i c v
    match c, h with
    | .eq, h => exact fd_S (op := 159) (g := fun v => .if_icmp .eq v) hl ⟨_, rfl, rfl⟩ h
    | .ne, h => exact fd_S (op := 160) (g := fun v => .if_icmp .ne v) hl ⟨_, rfl, rfl⟩ h
    | .lt, h => exact fd_S (op := 161) (g := fun v => .if_icmp .lt v) hl ⟨_, rfl, rfl⟩ h
    | .ge, h => exact fd_S (op := 162) (g := fun v => .if_icmp .ge v) hl ⟨_, rfl, rfl⟩ h
    | .gt, h => exact fd_S (op := 163) (g := fun v => .if_icmp .gt v) hl ⟨_, rfl, rfl⟩ h
    | .le, h => exact fd_S (op := 164) (g := fun v => .if_icmp .le v) hl ⟨_, rfl, rfl⟩ h
  case putfield => exact fd_W (op := 181) (g := fun v => .putfield v) hl ⟨_, rfl, rfl⟩ h
  case lmul => exact fd_0 (op := 105) hl ⟨_, rfl, rfl⟩ h
  case astore => exact fd_U (op := 58) (g := fun v => .astore v) hl ⟨_, rfl, rfl⟩ h
  case bipush => exact fd_B (op := 16) (g := fun v => .bipush v) hl ⟨_, rfl, rfl⟩ h
  case istore_n =>
    rename_i j
    match j, h with
    | ⟨0, _⟩, h => exact fd_0 (op := 59) hl ⟨_, rfl, rfl⟩ h
    | ⟨1, _⟩, h => exact fd_0 (op := 60) hl ⟨_, rfl, rfl⟩ h
    | ⟨2, _⟩, h => exact fd_0 (op := 61) hl ⟨_, rfl, rfl⟩ h
    | ⟨3, _⟩, h => exact fd_0 (op := 62) hl ⟨_, rfl, rfl⟩ h
  case iinc => exact fd_N (op := 132) (g := fun a v => .iinc a v) hl ⟨_, rfl, rfl⟩ h
  case ldc2_w => exact fd_W (op := 20) (g := fun v => .ldc2_w v) hl ⟨_, rfl, rfl⟩ h
  case ladd => exact fd_0 (op := 97) hl ⟨_, rfl, rfl⟩ h
  case areturn => exact fd_0 (op := 176) hl ⟨_, rfl, rfl⟩ h
  case dup => exact fd_0 (op := 89) hl ⟨_, rfl, rfl⟩ h
  case invokespecial => exact fd_W (op := 183) (g := fun v => .invokespecial v) hl ⟨_, rfl, rfl⟩ h
  case lreturn => exact fd_0 (op := 173) hl ⟨_, rfl, rfl⟩ h
  case aload => exact fd_U (op := 25) (g := fun v => .aload v) hl ⟨_, rfl, rfl⟩ h
  case laload => exact fd_0 (op := 47) hl ⟨_, rfl, rfl⟩ h
  case lstore_n =>
    rename_i j
    match j, h with
    | ⟨0, _⟩, h => exact fd_0 (op := 63) hl ⟨_, rfl, rfl⟩ h
    | ⟨1, _⟩, h => exact fd_0 (op := 64) hl ⟨_, rfl, rfl⟩ h
    | ⟨2, _⟩, h => exact fd_0 (op := 65) hl ⟨_, rfl, rfl⟩ h
    | ⟨3, _⟩, h => exact fd_0 (op := 66) hl ⟨_, rfl, rfl⟩ h
  case pop => exact fd_0 (op := 87) hl ⟨_, rfl, rfl⟩ h
  case ldc => exact fd_U (op := 18) (g := fun v => .ldc v) hl ⟨_, rfl, rfl⟩ h
  case new => exact fd_W (op := 187) (g := fun v => .new v) hl ⟨_, rfl, rfl⟩ h
  case lsub => exact fd_0 (op := 101) hl ⟨_, rfl, rfl⟩ h
  case return_ => exact fd_0 (op := 177) hl ⟨_, rfl, rfl⟩ h
  case ldiv => exact fd_0 (op := 109) hl ⟨_, rfl, rfl⟩ h
  case l2i => exact fd_0 (op := 136) hl ⟨_, rfl, rfl⟩ h
  case lshr => exact fd_0 (op := 123) hl ⟨_, rfl, rfl⟩ h
  case aaload => exact fd_0 (op := 50) hl ⟨_, rfl, rfl⟩ h
  case getstatic => exact fd_W (op := 178) (g := fun v => .getstatic v) hl ⟨_, rfl, rfl⟩ h
  case bastore => exact fd_0 (op := 84) hl ⟨_, rfl, rfl⟩ h
  case land => exact fd_0 (op := 127) hl ⟨_, rfl, rfl⟩ h
  case astore_n =>
    rename_i j
    match j, h with
    | ⟨0, _⟩, h => exact fd_0 (op := 75) hl ⟨_, rfl, rfl⟩ h
    | ⟨1, _⟩, h => exact fd_0 (op := 76) hl ⟨_, rfl, rfl⟩ h
    | ⟨2, _⟩, h => exact fd_0 (op := 77) hl ⟨_, rfl, rfl⟩ h
    | ⟨3, _⟩, h => exact fd_0 (op := 78) hl ⟨_, rfl, rfl⟩ h
  case baload => exact fd_0 (op := 51) hl ⟨_, rfl, rfl⟩ h
  case arraylength => exact fd_0 (op := 190) hl ⟨_, rfl, rfl⟩ h
  case iastore => exact fd_0 (op := 79) hl ⟨_, rfl, rfl⟩ h
  case isub => exact fd_0 (op := 100) hl ⟨_, rfl, rfl⟩ h
  case lneg => exact fd_0 (op := 117) hl ⟨_, rfl, rfl⟩ h
  case lxor => exact fd_0 (op := 131) hl ⟨_, rfl, rfl⟩ h
  case lrem => exact fd_0 (op := 113) hl ⟨_, rfl, rfl⟩ h
  case athrow => exact fd_0 (op := 191) hl ⟨_, rfl, rfl⟩ h
  case ineg => exact fd_0 (op := 116) hl ⟨_, rfl, rfl⟩ h
  case ishr => exact fd_0 (op := 122) hl ⟨_, rfl, rfl⟩ h
  case imul => exact fd_0 (op := 104) hl ⟨_, rfl, rfl⟩ h
  case ishl => exact fd_0 (op := 120) hl ⟨_, rfl, rfl⟩ h
  case lushr => exact fd_0 (op := 125) hl ⟨_, rfl, rfl⟩ h
  case lastore => exact fd_0 (op := 80) hl ⟨_, rfl, rfl⟩ h
  case sipush => exact fd_S (op := 17) (g := fun v => .sipush v) hl ⟨_, rfl, rfl⟩ h
  case irem => exact fd_0 (op := 112) hl ⟨_, rfl, rfl⟩ h
  case idiv => exact fd_0 (op := 108) hl ⟨_, rfl, rfl⟩ h
  case dup_x1 => exact fd_0 (op := 90) hl ⟨_, rfl, rfl⟩ h
  case iand => exact fd_0 (op := 126) hl ⟨_, rfl, rfl⟩ h
  case lor => exact fd_0 (op := 129) hl ⟨_, rfl, rfl⟩ h
  case checkcast => exact fd_W (op := 192) (g := fun v => .checkcast v) hl ⟨_, rfl, rfl⟩ h
  case pop2 => exact fd_0 (op := 88) hl ⟨_, rfl, rfl⟩ h
  case i2c => exact fd_0 (op := 146) hl ⟨_, rfl, rfl⟩ h
  case lshl => exact fd_0 (op := 121) hl ⟨_, rfl, rfl⟩ h
  case ifnonnull => exact fd_S (op := 199) (g := fun v => .ifnonnull v) hl ⟨_, rfl, rfl⟩ h
  case ifnull => exact fd_S (op := 198) (g := fun v => .ifnull v) hl ⟨_, rfl, rfl⟩ h
  case i2b => exact fd_0 (op := 145) hl ⟨_, rfl, rfl⟩ h
  case aconst_null => exact fd_0 (op := 1) hl ⟨_, rfl, rfl⟩ h
  case ldc_w => exact fd_W (op := 19) (g := fun v => .ldc_w v) hl ⟨_, rfl, rfl⟩ h
  case ixor => exact fd_0 (op := 130) hl ⟨_, rfl, rfl⟩ h
  case ior => exact fd_0 (op := 128) hl ⟨_, rfl, rfl⟩ h
  case i2s => exact fd_0 (op := 147) hl ⟨_, rfl, rfl⟩ h
  case iushr => exact fd_0 (op := 124) hl ⟨_, rfl, rfl⟩ h
  case dup2 => exact fd_0 (op := 92) hl ⟨_, rfl, rfl⟩ h
  case dup_x2 => exact fd_0 (op := 91) hl ⟨_, rfl, rfl⟩ h
  case swap => exact fd_0 (op := 95) hl ⟨_, rfl, rfl⟩ h
  case castore => exact fd_0 (op := 85) hl ⟨_, rfl, rfl⟩ h
  case caload => exact fd_0 (op := 52) hl ⟨_, rfl, rfl⟩ h
  case instanceof => exact fd_W (op := 193) (g := fun v => .instanceof v) hl ⟨_, rfl, rfl⟩ h
  all_goals exact Bool.noConfusion (show false = true from h)
def ckL : List UInt8 → Nat → List (Instr × Nat) → Bool
  | _, _, [] => true
  | l, pc, (i, n) :: t => (ckI i n l || Jvm.Free.DS.chk l pc [(i, n)]) && ckL (l.drop n) (pc + n) t
theorem ckL_sound {code : ByteArray} : ∀ (t : List (Instr × Nat)) (l : List UInt8) (pc : Nat), ckL l pc t = true → (∀ j, l[j]? = code.data.toList[pc + j]?) → (∀ k, k < t.length → ((t.take k).map (·.2)).sum + pc ≤ code.size) → Jvm.Free.DS.Facts code pc t
  | [], _, _, _, _, _ => trivial
  | (i, n) :: t, l, pc, h, hl, hs => by
    have h' : ((ckI i n l || Jvm.Free.DS.chk l pc [(i, n)]) && ckL (l.drop n) (pc + n) t) = true := h
    rw [Bool.and_eq_true, Bool.or_eq_true] at h'
    obtain ⟨h1, h2⟩ := h'
    refine ⟨?_, ckL_sound t _ _ h2 (fun j => ?_) (fun k hk => ?_)⟩
    · rcases h1 with h1 | h1
      · exact ckI_ok hl i h1
      · exact (Jvm.Free.DS.chk_sound [(i, n)] l pc h1 hl (fun k hk => by
          have hk : k < 1 := hk
          have : k = 0 := by omega
          subst this
          have := hs 0 (by simp)
          simpa using this)).1
    · rw [List.getElem?_drop, hl, Nat.add_assoc]
    · have := hs (k + 1) (by simpa using hk)
      simp only [List.take_succ_cons, List.map_cons, List.sum_cons] at this
      omega
theorem ckL_facts {code : ByteArray} (a : Nat) (t : List (Instr × Nat)) (h : ckL (code.data.toList.drop a) a t = true) (hs : a + (t.map (·.2)).sum ≤ code.size) : Jvm.Free.DS.Facts code a t := by
  refine ckL_sound t _ a h (fun j => by rw [List.getElem?_drop]) (fun k hk => ?_)
  have e : ((t.take k).map (·.2)).sum + ((t.drop k).map (·.2)).sum = (t.map (·.2)).sum := by
    rw [← List.sum_append, ← List.map_append, List.take_append_drop]
  omega
end
section
/-! a stretch of instructions is checked in one pass -/
def tI (es : List Ent) : List (Instr × Nat) := es.map (fun e => (e.2.1, e.2.2.1))
def contig : List Ent → Nat → Bool
  | [], _ => true
  | e :: es, pc => Nat.beq e.1 pc && contig es (pc + e.2.2.1)
def lnkE (a : Nat) (e : Ent) : Bool := lnkQ a e.1 e.2.1 e.2.2.1 e.2.2.2.1 e.2.2.2.2.1 e.2.2.2.2.2.1
theorem lin_of {cc : ByteArray} : ∀ (es : List Ent) (pc : Nat), Jvm.Free.DS.Facts cc pc (tI es) → contig es pc = true → ∀ e ∈ es, decode cc e.1 = .ok (e.2.1, e.2.2.1)
  | [], _, _, _ => fun _ h => absurd h List.not_mem_nil
  | e :: es, pc, hF, hc => by
    unfold contig at hc
    simp only [Bool.and_eq_true] at hc
    have h1 : decode cc pc = .ok (e.2.1, e.2.2.1) ∧ Jvm.Free.DS.Facts cc (pc + e.2.2.1) (tI es) := hF
    intro e2 h2
    rcases List.mem_cons.mp h2 with rfl | h3
    · rw [Nat.eq_of_beq_eq_true hc.1]
      exact h1.1
    · exact lin_of es _ h1.2 hc.2 e2 h3
def chL (a pc0 : Nat) (es : List Ent) : Bool := ckL ((mCode a).data.toList.drop pc0) pc0 (tI es) && (Nat.ble (pc0 + ((tI es).map (fun q => q.2)).sum) (mCode a).data.size && (contig es pc0 && es.all (lnkE a)))
theorem chL_of {a pc0 : Nat} {es : List Ent} (h : chL a pc0 es = true) : ∀ e ∈ es, chkE a e = true := by
  unfold chL at h
  simp only [Bool.and_eq_true] at h
  obtain ⟨h1, h2, h3, h4⟩ := h
  intro e he
  have hF := ckL_facts pc0 (tI es) h1 (Nat.le_of_ble_eq_true h2)
  unfold chkE
  rw [Bool.and_eq_true, decide_eq_true_eq]
  exact ⟨lin_of es pc0 hF h3 e he, lnkQ_ok (List.all_eq_true.mp h4 e he)⟩
theorem okChM {a : Nat} {es : List Ent} (pc0 : Nat) (ps : List (Nat × Nat)) (h : (chL a pc0 es && wd a es ps) = true) : ∀ e ∈ es, OkE a e := by
  rw [Bool.and_eq_true] at h
  exact fun e he => ⟨chL_of h.1 e he, wd_ok h.2 e he⟩
def esA (a : Nat) : List Ent := (mChk a).flatMap (fun ch => ch.2.2)
def allBM (a : Nat) (ps : List (Nat × Nat)) : Bool := exOkB a && ((mChk a).all (fun ch => chL a ch.1 ch.2.2) && wd a (esA a) ps)
theorem allOkM {a : Nat} (ps : List (Nat × Nat)) (h : allBM a ps = true) : AllOk a := by
  unfold allBM at h
  rw [Bool.and_eq_true, Bool.and_eq_true] at h
  refine ⟨fun ch hc e he => ⟨chL_of (List.all_eq_true.mp h.2.1 ch hc) e he, wd_ok h.2.2 e (List.mem_flatMap.mpr ⟨ch, hc, he⟩)⟩, h.1⟩
end
