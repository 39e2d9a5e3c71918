/-! the tables' words by shelves of forty; each method's head word stands there -/
def dw_0 : List Jvm.Cond := lT
def dw_1 : List Jvm.Cond := dw_0.drop 40
def dw_2 : List Jvm.Cond := dw_1.drop 40
def dw_3 : List Jvm.Cond := dw_2.drop 40
def dw_4 : List Jvm.Cond := dw_3.drop 40
def dw_5 : List Jvm.Cond := dw_4.drop 40
def dw_6 : List Jvm.Cond := dw_5.drop 40
def dw_7 : List Jvm.Cond := dw_6.drop 40
def dw_8 : List Jvm.Cond := dw_7.drop 40
def dw_9 : List Jvm.Cond := dw_8.drop 40
def dw_10 : List Jvm.Cond := dw_9.drop 40
def dw_11 : List Jvm.Cond := dw_10.drop 40
def dw_12 : List Jvm.Cond := dw_11.drop 40
def dw_13 : List Jvm.Cond := dw_12.drop 40
def dw_14 : List Jvm.Cond := dw_13.drop 40
def dw_15 : List Jvm.Cond := dw_14.drop 40
def dw_16 : List Jvm.Cond := dw_15.drop 40
def dw_17 : List Jvm.Cond := dw_16.drop 40
def dw_18 : List Jvm.Cond := dw_17.drop 40
def dw_19 : List Jvm.Cond := dw_18.drop 40
def dw_20 : List Jvm.Cond := dw_19.drop 40
def dw_21 : List Jvm.Cond := dw_20.drop 40
def dw_22 : List Jvm.Cond := dw_21.drop 40
def dw_23 : List Jvm.Cond := dw_22.drop 40
def dw_24 : List Jvm.Cond := dw_23.drop 40
def dw_25 : List Jvm.Cond := dw_24.drop 40
def dw_26 : List Jvm.Cond := dw_25.drop 40
def dw_27 : List Jvm.Cond := dw_26.drop 40
def dw_28 : List Jvm.Cond := dw_27.drop 40
def dw_29 : List Jvm.Cond := dw_28.drop 40
def dw_30 : List Jvm.Cond := dw_29.drop 40
def dw_31 : List Jvm.Cond := dw_30.drop 40
def dw_32 : List Jvm.Cond := dw_31.drop 40
def dw_33 : List Jvm.Cond := dw_32.drop 40
theorem ds_0 : ∀ w ∈ dw_0, w ∈ lT := fun _ h => h
theorem ds_1 : ∀ w ∈ dw_1, w ∈ lT := fun w h => ds_0 w (List.mem_of_mem_drop h)
theorem ds_2 : ∀ w ∈ dw_2, w ∈ lT := fun w h => ds_1 w (List.mem_of_mem_drop h)
theorem ds_3 : ∀ w ∈ dw_3, w ∈ lT := fun w h => ds_2 w (List.mem_of_mem_drop h)
theorem ds_4 : ∀ w ∈ dw_4, w ∈ lT := fun w h => ds_3 w (List.mem_of_mem_drop h)
theorem ds_5 : ∀ w ∈ dw_5, w ∈ lT := fun w h => ds_4 w (List.mem_of_mem_drop h)
theorem ds_6 : ∀ w ∈ dw_6, w ∈ lT := fun w h => ds_5 w (List.mem_of_mem_drop h)
theorem ds_7 : ∀ w ∈ dw_7, w ∈ lT := fun w h => ds_6 w (List.mem_of_mem_drop h)
theorem ds_8 : ∀ w ∈ dw_8, w ∈ lT := fun w h => ds_7 w (List.mem_of_mem_drop h)
theorem ds_9 : ∀ w ∈ dw_9, w ∈ lT := fun w h => ds_8 w (List.mem_of_mem_drop h)
theorem ds_10 : ∀ w ∈ dw_10, w ∈ lT := fun w h => ds_9 w (List.mem_of_mem_drop h)
theorem ds_11 : ∀ w ∈ dw_11, w ∈ lT := fun w h => ds_10 w (List.mem_of_mem_drop h)
theorem ds_12 : ∀ w ∈ dw_12, w ∈ lT := fun w h => ds_11 w (List.mem_of_mem_drop h)
theorem ds_13 : ∀ w ∈ dw_13, w ∈ lT := fun w h => ds_12 w (List.mem_of_mem_drop h)
theorem ds_14 : ∀ w ∈ dw_14, w ∈ lT := fun w h => ds_13 w (List.mem_of_mem_drop h)
theorem ds_15 : ∀ w ∈ dw_15, w ∈ lT := fun w h => ds_14 w (List.mem_of_mem_drop h)
theorem ds_16 : ∀ w ∈ dw_16, w ∈ lT := fun w h => ds_15 w (List.mem_of_mem_drop h)
theorem ds_17 : ∀ w ∈ dw_17, w ∈ lT := fun w h => ds_16 w (List.mem_of_mem_drop h)
theorem ds_18 : ∀ w ∈ dw_18, w ∈ lT := fun w h => ds_17 w (List.mem_of_mem_drop h)
theorem ds_19 : ∀ w ∈ dw_19, w ∈ lT := fun w h => ds_18 w (List.mem_of_mem_drop h)
theorem ds_20 : ∀ w ∈ dw_20, w ∈ lT := fun w h => ds_19 w (List.mem_of_mem_drop h)
theorem ds_21 : ∀ w ∈ dw_21, w ∈ lT := fun w h => ds_20 w (List.mem_of_mem_drop h)
theorem ds_22 : ∀ w ∈ dw_22, w ∈ lT := fun w h => ds_21 w (List.mem_of_mem_drop h)
theorem ds_23 : ∀ w ∈ dw_23, w ∈ lT := fun w h => ds_22 w (List.mem_of_mem_drop h)
theorem ds_24 : ∀ w ∈ dw_24, w ∈ lT := fun w h => ds_23 w (List.mem_of_mem_drop h)
theorem ds_25 : ∀ w ∈ dw_25, w ∈ lT := fun w h => ds_24 w (List.mem_of_mem_drop h)
theorem ds_26 : ∀ w ∈ dw_26, w ∈ lT := fun w h => ds_25 w (List.mem_of_mem_drop h)
theorem ds_27 : ∀ w ∈ dw_27, w ∈ lT := fun w h => ds_26 w (List.mem_of_mem_drop h)
theorem ds_28 : ∀ w ∈ dw_28, w ∈ lT := fun w h => ds_27 w (List.mem_of_mem_drop h)
theorem ds_29 : ∀ w ∈ dw_29, w ∈ lT := fun w h => ds_28 w (List.mem_of_mem_drop h)
theorem ds_30 : ∀ w ∈ dw_30, w ∈ lT := fun w h => ds_29 w (List.mem_of_mem_drop h)
theorem ds_31 : ∀ w ∈ dw_31, w ∈ lT := fun w h => ds_30 w (List.mem_of_mem_drop h)
theorem ds_32 : ∀ w ∈ dw_32, w ∈ lT := fun w h => ds_31 w (List.mem_of_mem_drop h)
theorem ds_33 : ∀ w ∈ dw_33, w ∈ lT := fun w h => ds_32 w (List.mem_of_mem_drop h)
def dwL : List (List Jvm.Cond) := [dw_0, dw_1, dw_2, dw_3, dw_4, dw_5, dw_6, dw_7, dw_8, dw_9, dw_10, dw_11, dw_12, dw_13, dw_14, dw_15, dw_16, dw_17, dw_18, dw_19, dw_20, dw_21, dw_22, dw_23, dw_24, dw_25, dw_26, dw_27, dw_28, dw_29, dw_30, dw_31, dw_32, dw_33]
theorem dwL_in : ∀ l ∈ dwL, ∀ w ∈ l, w ∈ lT := List.forall_mem_cons.mpr ⟨ds_0, List.forall_mem_cons.mpr ⟨ds_1, List.forall_mem_cons.mpr ⟨ds_2, List.forall_mem_cons.mpr ⟨ds_3, List.forall_mem_cons.mpr ⟨ds_4, List.forall_mem_cons.mpr ⟨ds_5, List.forall_mem_cons.mpr ⟨ds_6, List.forall_mem_cons.mpr ⟨ds_7, List.forall_mem_cons.mpr ⟨ds_8, List.forall_mem_cons.mpr ⟨ds_9, List.forall_mem_cons.mpr ⟨ds_10, List.forall_mem_cons.mpr ⟨ds_11, List.forall_mem_cons.mpr ⟨ds_12, List.forall_mem_cons.mpr ⟨ds_13, List.forall_mem_cons.mpr ⟨ds_14, List.forall_mem_cons.mpr ⟨ds_15, List.forall_mem_cons.mpr ⟨ds_16, List.forall_mem_cons.mpr ⟨ds_17, List.forall_mem_cons.mpr ⟨ds_18, List.forall_mem_cons.mpr ⟨ds_19, List.forall_mem_cons.mpr ⟨ds_20, List.forall_mem_cons.mpr ⟨ds_21, List.forall_mem_cons.mpr ⟨ds_22, List.forall_mem_cons.mpr ⟨ds_23, List.forall_mem_cons.mpr ⟨ds_24, List.forall_mem_cons.mpr ⟨ds_25, List.forall_mem_cons.mpr ⟨ds_26, List.forall_mem_cons.mpr ⟨ds_27, List.forall_mem_cons.mpr ⟨ds_28, List.forall_mem_cons.mpr ⟨ds_29, List.forall_mem_cons.mpr ⟨ds_30, List.forall_mem_cons.mpr ⟨ds_31, List.forall_mem_cons.mpr ⟨ds_32, List.forall_mem_cons.mpr ⟨ds_33, fun _ h => nomatch h⟩⟩⟩⟩⟩⟩⟩⟩⟩⟩⟩⟩⟩⟩⟩⟩⟩⟩⟩⟩⟩⟩⟩⟩⟩⟩⟩⟩⟩⟩⟩⟩⟩⟩
def get2 (p : Nat × Nat) : Option Jvm.Cond := match nth dwL p.1 with | some l => nth l p.2 | none => none
theorem get2_in {p : Nat × Nat} {w : Jvm.Cond} (h : get2 p = some w) : w ∈ lT := by
  unfold get2 at h
  split at h
  · rename_i l hl
    exact dwL_in l (nth_mem hl) w (nth_mem h)
  · cases h
theorem hdT_1 : nth dw_1 14 = some (headw n_X_new) := rfl
theorem hdi_X_new : headw n_X_new ∈ lT := ds_1 _ (nth_mem hdT_1)
theorem hdT_2 : nth dw_2 2 = some (headw n_X_knock) ∧ nth dw_2 6 = some (headw n_X_isSound) ∧ nth dw_2 17 = some (headw n_X_needIndex) ∧ nth dw_2 14 = some (headw n_X_numberAt) ∧ nth dw_2 10 = some (headw n_X_areNumbersSound) := ⟨rfl, rfl, rfl, rfl, rfl⟩
theorem hdi_X_knock : headw n_X_knock ∈ lT := ds_2 _ (nth_mem hdT_2.1)
theorem hdi_X_isSound : headw n_X_isSound ∈ lT := ds_2 _ (nth_mem hdT_2.2.1)
theorem hdi_X_needIndex : headw n_X_needIndex ∈ lT := ds_2 _ (nth_mem hdT_2.2.2.1)
theorem hdi_X_numberAt : headw n_X_numberAt ∈ lT := ds_2 _ (nth_mem hdT_2.2.2.2.1)
theorem hdi_X_areNumbersSound : headw n_X_areNumbersSound ∈ lT := ds_2 _ (nth_mem hdT_2.2.2.2.2)
theorem hdT_4 : nth dw_4 7 = some (headw n_A_holdForPair) ∧ nth dw_4 10 = some (headw n_A_holdForAverages) ∧ nth dw_4 22 = some (headw n_A_holdForFloor) ∧ nth dw_4 37 = some (headw n_A_holdForTowards) ∧ nth dw_4 31 = some (headw n_W_goneRound) ∧ nth dw_4 13 = some (headw n_W_averageOf) ∧ nth dw_4 25 = some (headw n_W_floorOf) ∧ nth dw_4 34 = some (headw n_W_restOf) ∧ nth dw_4 28 = some (headw n_MA_floorDiv) ∧ nth dw_4 19 = some (headw n_MA_max_JJ) ∧ nth dw_4 16 = some (headw n_MA_min_JJ) := ⟨rfl, rfl, rfl, rfl, rfl, rfl, rfl, rfl, rfl, rfl, rfl⟩
theorem hdi_A_holdForPair : headw n_A_holdForPair ∈ lT := ds_4 _ (nth_mem hdT_4.1)
theorem hdi_A_holdForAverages : headw n_A_holdForAverages ∈ lT := ds_4 _ (nth_mem hdT_4.2.1)
theorem hdi_A_holdForFloor : headw n_A_holdForFloor ∈ lT := ds_4 _ (nth_mem hdT_4.2.2.1)
theorem hdi_A_holdForTowards : headw n_A_holdForTowards ∈ lT := ds_4 _ (nth_mem hdT_4.2.2.2.1)
theorem hdi_W_goneRound : headw n_W_goneRound ∈ lT := ds_4 _ (nth_mem hdT_4.2.2.2.2.1)
theorem hdi_W_averageOf : headw n_W_averageOf ∈ lT := ds_4 _ (nth_mem hdT_4.2.2.2.2.2.1)
theorem hdi_W_floorOf : headw n_W_floorOf ∈ lT := ds_4 _ (nth_mem hdT_4.2.2.2.2.2.2.1)
theorem hdi_W_restOf : headw n_W_restOf ∈ lT := ds_4 _ (nth_mem hdT_4.2.2.2.2.2.2.2.1)
theorem hdi_MA_floorDiv : headw n_MA_floorDiv ∈ lT := ds_4 _ (nth_mem hdT_4.2.2.2.2.2.2.2.2.1)
theorem hdi_MA_max_JJ : headw n_MA_max_JJ ∈ lT := ds_4 _ (nth_mem hdT_4.2.2.2.2.2.2.2.2.2.1)
theorem hdi_MA_min_JJ : headw n_MA_min_JJ ∈ lT := ds_4 _ (nth_mem hdT_4.2.2.2.2.2.2.2.2.2.2)
theorem hdT_5 : nth dw_5 6 = some (headw n_A_holdForProduct) ∧ nth dw_5 25 = some (headw n_W_isWithin) ∧ nth dw_5 17 = some (headw n_W_joined) ∧ nth dw_5 14 = some (headw n_W_isExact) ∧ nth dw_5 20 = some (headw n_W_isTrue) ∧ nth dw_5 10 = some (headw n_W_upperHalf) ∧ nth dw_5 0 = some (headw n_W_quotientTowards) ∧ nth dw_5 3 = some (headw n_W_restTowards) ∧ nth dw_5 28 = some (headw n_W_chained) ∧ nth dw_5 38 = some (headw n_X_modulusAt) ∧ nth dw_5 34 = some (headw n_X_areRingsSound) := ⟨rfl, rfl, rfl, rfl, rfl, rfl, rfl, rfl, rfl, rfl, rfl⟩
theorem hdi_A_holdForProduct : headw n_A_holdForProduct ∈ lT := ds_5 _ (nth_mem hdT_5.1)
theorem hdi_W_isWithin : headw n_W_isWithin ∈ lT := ds_5 _ (nth_mem hdT_5.2.1)
theorem hdi_W_joined : headw n_W_joined ∈ lT := ds_5 _ (nth_mem hdT_5.2.2.1)
theorem hdi_W_isExact : headw n_W_isExact ∈ lT := ds_5 _ (nth_mem hdT_5.2.2.2.1)
theorem hdi_W_isTrue : headw n_W_isTrue ∈ lT := ds_5 _ (nth_mem hdT_5.2.2.2.2.1)
theorem hdi_W_upperHalf : headw n_W_upperHalf ∈ lT := ds_5 _ (nth_mem hdT_5.2.2.2.2.2.1)
theorem hdi_W_quotientTowards : headw n_W_quotientTowards ∈ lT := ds_5 _ (nth_mem hdT_5.2.2.2.2.2.2.1)
theorem hdi_W_restTowards : headw n_W_restTowards ∈ lT := ds_5 _ (nth_mem hdT_5.2.2.2.2.2.2.2.1)
theorem hdi_W_chained : headw n_W_chained ∈ lT := ds_5 _ (nth_mem hdT_5.2.2.2.2.2.2.2.2.1)
theorem hdi_X_modulusAt : headw n_X_modulusAt ∈ lT := ds_5 _ (nth_mem hdT_5.2.2.2.2.2.2.2.2.2.1)
theorem hdi_X_areRingsSound : headw n_X_areRingsSound ∈ lT := ds_5 _ (nth_mem hdT_5.2.2.2.2.2.2.2.2.2.2)
theorem hdT_6 : nth dw_6 5 = some (headw n_A_holdForResidue) ∧ nth dw_6 29 = some (headw n_A_keepResidues) ∧ nth dw_6 36 = some (headw n_A_holdForMeeting) ∧ nth dw_6 15 = some (headw n_R_sizeOf) ∧ nth dw_6 8 = some (headw n_R_residueOf) ∧ nth dw_6 12 = some (headw n_R_hasInverse) ∧ nth dw_6 25 = some (headw n_R_inverseOf) ∧ nth dw_6 21 = some (headw n_R_inverseBelow) ∧ nth dw_6 39 = some (headw n_R_meetingOf) ∧ nth dw_6 2 = some (headw n_X_residueAt) ∧ nth dw_6 33 = some (headw n_X_areMeetingsSound) ∧ nth dw_6 18 = some (headw n_MA_abs) := ⟨rfl, rfl, rfl, rfl, rfl, rfl, rfl, rfl, rfl, rfl, rfl, rfl⟩
theorem hdi_A_holdForResidue : headw n_A_holdForResidue ∈ lT := ds_6 _ (nth_mem hdT_6.1)
theorem hdi_A_keepResidues : headw n_A_keepResidues ∈ lT := ds_6 _ (nth_mem hdT_6.2.1)
theorem hdi_A_holdForMeeting : headw n_A_holdForMeeting ∈ lT := ds_6 _ (nth_mem hdT_6.2.2.1)
theorem hdi_R_sizeOf : headw n_R_sizeOf ∈ lT := ds_6 _ (nth_mem hdT_6.2.2.2.1)
theorem hdi_R_residueOf : headw n_R_residueOf ∈ lT := ds_6 _ (nth_mem hdT_6.2.2.2.2.1)
theorem hdi_R_hasInverse : headw n_R_hasInverse ∈ lT := ds_6 _ (nth_mem hdT_6.2.2.2.2.2.1)
theorem hdi_R_inverseOf : headw n_R_inverseOf ∈ lT := ds_6 _ (nth_mem hdT_6.2.2.2.2.2.2.1)
theorem hdi_R_inverseBelow : headw n_R_inverseBelow ∈ lT := ds_6 _ (nth_mem hdT_6.2.2.2.2.2.2.2.1)
theorem hdi_R_meetingOf : headw n_R_meetingOf ∈ lT := ds_6 _ (nth_mem hdT_6.2.2.2.2.2.2.2.2.1)
theorem hdi_X_residueAt : headw n_X_residueAt ∈ lT := ds_6 _ (nth_mem hdT_6.2.2.2.2.2.2.2.2.2.1)
theorem hdi_X_areMeetingsSound : headw n_X_areMeetingsSound ∈ lT := ds_6 _ (nth_mem hdT_6.2.2.2.2.2.2.2.2.2.2.1)
theorem hdi_MA_abs : headw n_MA_abs ∈ lT := ds_6 _ (nth_mem hdT_6.2.2.2.2.2.2.2.2.2.2.2)
theorem hdT_7 : nth dw_7 2 = some (headw n_R_greatestDivisor) ∧ nth dw_7 13 = some (headw n_X_house) ∧ nth dw_7 7 = some (headw n_X_digest) ∧ nth dw_7 16 = some (headw n_X_needChoice) ∧ nth dw_7 35 = some (headw n_X_countZeros) ∧ nth dw_7 39 = some (headw n_X_countUnits) := ⟨rfl, rfl, rfl, rfl, rfl, rfl⟩
theorem hdi_R_greatestDivisor : headw n_R_greatestDivisor ∈ lT := ds_7 _ (nth_mem hdT_7.1)
theorem hdi_X_house : headw n_X_house ∈ lT := ds_7 _ (nth_mem hdT_7.2.1)
theorem hdi_X_digest : headw n_X_digest ∈ lT := ds_7 _ (nth_mem hdT_7.2.2.1)
theorem hdi_X_needChoice : headw n_X_needChoice ∈ lT := ds_7 _ (nth_mem hdT_7.2.2.2.1)
theorem hdi_X_countZeros : headw n_X_countZeros ∈ lT := ds_7 _ (nth_mem hdT_7.2.2.2.2.1)
theorem hdi_X_countUnits : headw n_X_countUnits ∈ lT := ds_7 _ (nth_mem hdT_7.2.2.2.2.2)
theorem hdT_8 : nth dw_8 24 = some (headw n_D_countOf) ∧ nth dw_8 15 = some (headw n_W_order) ∧ nth dw_8 18 = some (headw n_W_edge) ∧ nth dw_8 12 = some (headw n_X_ofNumber) ∧ nth dw_8 3 = some (headw n_X_isUnit) ∧ nth dw_8 8 = some (headw n_X_digestNumbers) ∧ nth dw_8 31 = some (headw n_O_new) := ⟨rfl, rfl, rfl, rfl, rfl, rfl, rfl⟩
theorem hdi_D_countOf : headw n_D_countOf ∈ lT := ds_8 _ (nth_mem hdT_8.1)
theorem hdi_W_order : headw n_W_order ∈ lT := ds_8 _ (nth_mem hdT_8.2.1)
theorem hdi_W_edge : headw n_W_edge ∈ lT := ds_8 _ (nth_mem hdT_8.2.2.1)
theorem hdi_X_ofNumber : headw n_X_ofNumber ∈ lT := ds_8 _ (nth_mem hdT_8.2.2.2.1)
theorem hdi_X_isUnit : headw n_X_isUnit ∈ lT := ds_8 _ (nth_mem hdT_8.2.2.2.2.1)
theorem hdi_X_digestNumbers : headw n_X_digestNumbers ∈ lT := ds_8 _ (nth_mem hdT_8.2.2.2.2.2.1)
theorem hdi_O_new : headw n_O_new ∈ lT := ds_8 _ (nth_mem hdT_8.2.2.2.2.2.2)
theorem hdT_9 : nth dw_9 7 = some (headw n_X_put) ∧ nth dw_9 19 = some (headw n_X_copy) ∧ nth dw_9 26 = some (headw n_X_widen) ∧ nth dw_9 33 = some (headw n_X_narrow) ∧ nth dw_9 38 = some (headw n_X_refuse) ∧ nth dw_9 12 = some (headw n_X_keep) ∧ nth dw_9 2 = some (headw n_K_put) ∧ nth dw_9 15 = some (headw n_K_copy) ∧ nth dw_9 22 = some (headw n_K_widen) ∧ nth dw_9 29 = some (headw n_K_narrow) := ⟨rfl, rfl, rfl, rfl, rfl, rfl, rfl, rfl, rfl, rfl⟩
theorem hdi_X_put : headw n_X_put ∈ lT := ds_9 _ (nth_mem hdT_9.1)
theorem hdi_X_copy : headw n_X_copy ∈ lT := ds_9 _ (nth_mem hdT_9.2.1)
theorem hdi_X_widen : headw n_X_widen ∈ lT := ds_9 _ (nth_mem hdT_9.2.2.1)
theorem hdi_X_narrow : headw n_X_narrow ∈ lT := ds_9 _ (nth_mem hdT_9.2.2.2.1)
theorem hdi_X_refuse : headw n_X_refuse ∈ lT := ds_9 _ (nth_mem hdT_9.2.2.2.2.1)
theorem hdi_X_keep : headw n_X_keep ∈ lT := ds_9 _ (nth_mem hdT_9.2.2.2.2.2.1)
theorem hdi_K_put : headw n_K_put ∈ lT := ds_9 _ (nth_mem hdT_9.2.2.2.2.2.2.1)
theorem hdi_K_copy : headw n_K_copy ∈ lT := ds_9 _ (nth_mem hdT_9.2.2.2.2.2.2.2.1)
theorem hdi_K_widen : headw n_K_widen ∈ lT := ds_9 _ (nth_mem hdT_9.2.2.2.2.2.2.2.2.1)
theorem hdi_K_narrow : headw n_K_narrow ∈ lT := ds_9 _ (nth_mem hdT_9.2.2.2.2.2.2.2.2.2)
theorem hdT_10 : nth dw_10 6 = some (headw n_X_exact) ∧ nth dw_10 19 = some (headw n_X_fits) ∧ nth dw_10 26 = some (headw n_X_alone) ∧ nth dw_10 33 = some (headw n_X_timesInt) ∧ nth dw_10 10 = some (headw n_X_keepExact) ∧ nth dw_10 1 = some (headw n_K_exact) ∧ nth dw_10 15 = some (headw n_K_fits) ∧ nth dw_10 22 = some (headw n_K_alone) ∧ nth dw_10 29 = some (headw n_K_timesInt) ∧ nth dw_10 36 = some (headw n_K_full) := ⟨rfl, rfl, rfl, rfl, rfl, rfl, rfl, rfl, rfl, rfl⟩
theorem hdi_X_exact : headw n_X_exact ∈ lT := ds_10 _ (nth_mem hdT_10.1)
theorem hdi_X_fits : headw n_X_fits ∈ lT := ds_10 _ (nth_mem hdT_10.2.1)
theorem hdi_X_alone : headw n_X_alone ∈ lT := ds_10 _ (nth_mem hdT_10.2.2.1)
theorem hdi_X_timesInt : headw n_X_timesInt ∈ lT := ds_10 _ (nth_mem hdT_10.2.2.2.1)
theorem hdi_X_keepExact : headw n_X_keepExact ∈ lT := ds_10 _ (nth_mem hdT_10.2.2.2.2.1)
theorem hdi_K_exact : headw n_K_exact ∈ lT := ds_10 _ (nth_mem hdT_10.2.2.2.2.2.1)
theorem hdi_K_fits : headw n_K_fits ∈ lT := ds_10 _ (nth_mem hdT_10.2.2.2.2.2.2.1)
theorem hdi_K_alone : headw n_K_alone ∈ lT := ds_10 _ (nth_mem hdT_10.2.2.2.2.2.2.2.1)
theorem hdi_K_timesInt : headw n_K_timesInt ∈ lT := ds_10 _ (nth_mem hdT_10.2.2.2.2.2.2.2.2.1)
theorem hdi_K_full : headw n_K_full ∈ lT := ds_10 _ (nth_mem hdT_10.2.2.2.2.2.2.2.2.2)
theorem hdT_11 : nth dw_11 0 = some (headw n_X_full) ∧ nth dw_11 7 = some (headw n_X_high) ∧ nth dw_11 15 = some (headw n_X_round) ∧ nth dw_11 27 = some (headw n_X_abs) ∧ nth dw_11 34 = some (headw n_X_extreme) ∧ nth dw_11 19 = some (headw n_X_keepRound) ∧ nth dw_11 3 = some (headw n_K_high) ∧ nth dw_11 11 = some (headw n_K_round) ∧ nth dw_11 23 = some (headw n_K_abs) ∧ nth dw_11 30 = some (headw n_K_extreme) ∧ nth dw_11 39 = some (headw n_K_floor) := ⟨rfl, rfl, rfl, rfl, rfl, rfl, rfl, rfl, rfl, rfl, rfl⟩
theorem hdi_X_full : headw n_X_full ∈ lT := ds_11 _ (nth_mem hdT_11.1)
theorem hdi_X_high : headw n_X_high ∈ lT := ds_11 _ (nth_mem hdT_11.2.1)
theorem hdi_X_round : headw n_X_round ∈ lT := ds_11 _ (nth_mem hdT_11.2.2.1)
theorem hdi_X_abs : headw n_X_abs ∈ lT := ds_11 _ (nth_mem hdT_11.2.2.2.1)
theorem hdi_X_extreme : headw n_X_extreme ∈ lT := ds_11 _ (nth_mem hdT_11.2.2.2.2.1)
theorem hdi_X_keepRound : headw n_X_keepRound ∈ lT := ds_11 _ (nth_mem hdT_11.2.2.2.2.2.1)
theorem hdi_K_high : headw n_K_high ∈ lT := ds_11 _ (nth_mem hdT_11.2.2.2.2.2.2.1)
theorem hdi_K_round : headw n_K_round ∈ lT := ds_11 _ (nth_mem hdT_11.2.2.2.2.2.2.2.1)
theorem hdi_K_abs : headw n_K_abs ∈ lT := ds_11 _ (nth_mem hdT_11.2.2.2.2.2.2.2.2.1)
theorem hdi_K_extreme : headw n_K_extreme ∈ lT := ds_11 _ (nth_mem hdT_11.2.2.2.2.2.2.2.2.2.1)
theorem hdi_K_floor : headw n_K_floor ∈ lT := ds_11 _ (nth_mem hdT_11.2.2.2.2.2.2.2.2.2.2)
theorem hdT_12 : nth dw_12 3 = some (headw n_X_floor) ∧ nth dw_12 16 = some (headw n_X_floorInt) ∧ nth dw_12 23 = some (headw n_X_towards) ∧ nth dw_12 32 = some (headw n_X_average) ∧ nth dw_12 7 = some (headw n_X_keepFloor) ∧ nth dw_12 12 = some (headw n_K_floorInt) ∧ nth dw_12 19 = some (headw n_K_towards) ∧ nth dw_12 28 = some (headw n_K_average) ∧ nth dw_12 36 = some (headw n_K_chain) := ⟨rfl, rfl, rfl, rfl, rfl, rfl, rfl, rfl, rfl⟩
theorem hdi_X_floor : headw n_X_floor ∈ lT := ds_12 _ (nth_mem hdT_12.1)
theorem hdi_X_floorInt : headw n_X_floorInt ∈ lT := ds_12 _ (nth_mem hdT_12.2.1)
theorem hdi_X_towards : headw n_X_towards ∈ lT := ds_12 _ (nth_mem hdT_12.2.2.1)
theorem hdi_X_average : headw n_X_average ∈ lT := ds_12 _ (nth_mem hdT_12.2.2.2.1)
theorem hdi_X_keepFloor : headw n_X_keepFloor ∈ lT := ds_12 _ (nth_mem hdT_12.2.2.2.2.1)
theorem hdi_K_floorInt : headw n_K_floorInt ∈ lT := ds_12 _ (nth_mem hdT_12.2.2.2.2.2.1)
theorem hdi_K_towards : headw n_K_towards ∈ lT := ds_12 _ (nth_mem hdT_12.2.2.2.2.2.2.1)
theorem hdi_K_average : headw n_K_average ∈ lT := ds_12 _ (nth_mem hdT_12.2.2.2.2.2.2.2.1)
theorem hdi_K_chain : headw n_K_chain ∈ lT := ds_12 _ (nth_mem hdT_12.2.2.2.2.2.2.2.2)
theorem hdT_13 : nth dw_13 22 = some (headw n_D_ofUnsigned) ∧ nth dw_13 0 = some (headw n_X_chain) ∧ nth dw_13 12 = some (headw n_X_atOnce) ∧ nth dw_13 19 = some (headw n_X_distance) ∧ nth dw_13 3 = some (headw n_X_needDivisors) ∧ nth dw_13 30 = some (headw n_ASB_new) ∧ nth dw_13 27 = some (headw n_SB_new) ∧ nth dw_13 8 = some (headw n_K_atOnce) ∧ nth dw_13 15 = some (headw n_K_distance) := ⟨rfl, rfl, rfl, rfl, rfl, rfl, rfl, rfl, rfl⟩
theorem hdi_D_ofUnsigned : headw n_D_ofUnsigned ∈ lT := ds_13 _ (nth_mem hdT_13.1)
theorem hdi_X_chain : headw n_X_chain ∈ lT := ds_13 _ (nth_mem hdT_13.2.1)
theorem hdi_X_atOnce : headw n_X_atOnce ∈ lT := ds_13 _ (nth_mem hdT_13.2.2.1)
theorem hdi_X_distance : headw n_X_distance ∈ lT := ds_13 _ (nth_mem hdT_13.2.2.2.1)
theorem hdi_X_needDivisors : headw n_X_needDivisors ∈ lT := ds_13 _ (nth_mem hdT_13.2.2.2.2.1)
theorem hdi_ASB_new : headw n_ASB_new ∈ lT := ds_13 _ (nth_mem hdT_13.2.2.2.2.2.1)
theorem hdi_SB_new : headw n_SB_new ∈ lT := ds_13 _ (nth_mem hdT_13.2.2.2.2.2.2.1)
theorem hdi_K_atOnce : headw n_K_atOnce ∈ lT := ds_13 _ (nth_mem hdT_13.2.2.2.2.2.2.2.1)
theorem hdi_K_distance : headw n_K_distance ∈ lT := ds_13 _ (nth_mem hdT_13.2.2.2.2.2.2.2.2)
theorem hdT_14 : nth dw_14 16 = some (headw n_D_appendBackwards) ∧ nth dw_14 28 = some (headw n_ASB_ensureCapacityInternal) ∧ nth dw_14 32 = some (headw n_ASB_newCapacity) ∧ nth dw_14 24 = some (headw n_ASB_append_C) ∧ nth dw_14 38 = some (headw n_MA_max_II) ∧ nth dw_14 21 = some (headw n_SB_append_C) ∧ nth dw_14 35 = some (headw n_AS_newLength) := ⟨rfl, rfl, rfl, rfl, rfl, rfl, rfl⟩
theorem hdi_D_appendBackwards : headw n_D_appendBackwards ∈ lT := ds_14 _ (nth_mem hdT_14.1)
theorem hdi_ASB_ensureCapacityInternal : headw n_ASB_ensureCapacityInternal ∈ lT := ds_14 _ (nth_mem hdT_14.2.1)
theorem hdi_ASB_newCapacity : headw n_ASB_newCapacity ∈ lT := ds_14 _ (nth_mem hdT_14.2.2.1)
theorem hdi_ASB_append_C : headw n_ASB_append_C ∈ lT := ds_14 _ (nth_mem hdT_14.2.2.2.1)
theorem hdi_MA_max_II : headw n_MA_max_II ∈ lT := ds_14 _ (nth_mem hdT_14.2.2.2.2.1)
theorem hdi_SB_append_C : headw n_SB_append_C ∈ lT := ds_14 _ (nth_mem hdT_14.2.2.2.2.2.1)
theorem hdi_AS_newLength : headw n_AS_newLength ∈ lT := ds_14 _ (nth_mem hdT_14.2.2.2.2.2.2)
theorem hdT_15 : nth dw_15 24 = some (headw n_ASB_isLatin1) ∧ nth dw_15 16 = some (headw n_MA_min_II) ∧ nth dw_15 27 = some (headw n_L1_canEncode) ∧ nth dw_15 6 = some (headw n_ARR_copyOf) := ⟨rfl, rfl, rfl, rfl⟩
theorem hdi_ASB_isLatin1 : headw n_ASB_isLatin1 ∈ lT := ds_15 _ (nth_mem hdT_15.1)
theorem hdi_MA_min_II : headw n_MA_min_II ∈ lT := ds_15 _ (nth_mem hdT_15.2.1)
theorem hdi_L1_canEncode : headw n_L1_canEncode ∈ lT := ds_15 _ (nth_mem hdT_15.2.2.1)
theorem hdi_ARR_copyOf : headw n_ARR_copyOf ∈ lT := ds_15 _ (nth_mem hdT_15.2.2.2)
theorem hdT_16 : nth dw_16 39 = some (headw n_ASB_reverse) ∧ nth dw_16 36 = some (headw n_SB_reverse) := ⟨rfl, rfl⟩
theorem hdi_ASB_reverse : headw n_ASB_reverse ∈ lT := ds_16 _ (nth_mem hdT_16.1)
theorem hdi_SB_reverse : headw n_SB_reverse ∈ lT := ds_16 _ (nth_mem hdT_16.2)
theorem hdT_17 : nth dw_17 38 = some (headw n_STR_new_Q) ∧ nth dw_17 33 = some (headw n_SB_toString) := ⟨rfl, rfl⟩
theorem hdi_STR_new_Q : headw n_STR_new_Q ∈ lT := ds_17 _ (nth_mem hdT_17.1)
theorem hdi_SB_toString : headw n_SB_toString ∈ lT := ds_17 _ (nth_mem hdT_17.2)
theorem hdT_18 : nth dw_18 15 = some (headw n_ASB_length) ∧ nth dw_18 35 = some (headw n_ASB_append_I) ∧ nth dw_18 7 = some (headw n_ASB_getValue) ∧ nth dw_18 38 = some (headw n_INT_stringSize) ∧ nth dw_18 1 = some (headw n_STR_new_QN) ∧ nth dw_18 32 = some (headw n_SB_append_I) ∧ nth dw_18 13 = some (headw n_SB_length) ∧ nth dw_18 25 = some (headw n_ARR_checkLength) ∧ nth dw_18 19 = some (headw n_ARR_copyOfRange) ∧ nth dw_18 22 = some (headw n_ARR_copyOfRangeByte) := ⟨rfl, rfl, rfl, rfl, rfl, rfl, rfl, rfl, rfl, rfl⟩
theorem hdi_ASB_length : headw n_ASB_length ∈ lT := ds_18 _ (nth_mem hdT_18.1)
theorem hdi_ASB_append_I : headw n_ASB_append_I ∈ lT := ds_18 _ (nth_mem hdT_18.2.1)
theorem hdi_ASB_getValue : headw n_ASB_getValue ∈ lT := ds_18 _ (nth_mem hdT_18.2.2.1)
theorem hdi_INT_stringSize : headw n_INT_stringSize ∈ lT := ds_18 _ (nth_mem hdT_18.2.2.2.1)
theorem hdi_STR_new_QN : headw n_STR_new_QN ∈ lT := ds_18 _ (nth_mem hdT_18.2.2.2.2.1)
theorem hdi_SB_append_I : headw n_SB_append_I ∈ lT := ds_18 _ (nth_mem hdT_18.2.2.2.2.2.1)
theorem hdi_SB_length : headw n_SB_length ∈ lT := ds_18 _ (nth_mem hdT_18.2.2.2.2.2.2.1)
theorem hdi_ARR_checkLength : headw n_ARR_checkLength ∈ lT := ds_18 _ (nth_mem hdT_18.2.2.2.2.2.2.2.1)
theorem hdi_ARR_copyOfRange : headw n_ARR_copyOfRange ∈ lT := ds_18 _ (nth_mem hdT_18.2.2.2.2.2.2.2.2.1)
theorem hdi_ARR_copyOfRangeByte : headw n_ARR_copyOfRangeByte ∈ lT := ds_18 _ (nth_mem hdT_18.2.2.2.2.2.2.2.2.2)
theorem hdT_19 : nth dw_19 27 = some (headw n_ASB_append_T) ∧ nth dw_19 1 = some (headw n_INT_getChars) ∧ nth dw_19 38 = some (headw n_STR_length) ∧ nth dw_19 24 = some (headw n_SB_append_T) := ⟨rfl, rfl, rfl, rfl⟩
theorem hdi_ASB_append_T : headw n_ASB_append_T ∈ lT := ds_19 _ (nth_mem hdT_19.1)
theorem hdi_INT_getChars : headw n_INT_getChars ∈ lT := ds_19 _ (nth_mem hdT_19.2.1)
theorem hdi_STR_length : headw n_STR_length ∈ lT := ds_19 _ (nth_mem hdT_19.2.2.1)
theorem hdi_SB_append_T : headw n_SB_append_T ∈ lT := ds_19 _ (nth_mem hdT_19.2.2.2)
theorem hdT_20 : nth dw_20 11 = some (headw n_ASB_inflateIfNeededFor) ∧ nth dw_20 7 = some (headw n_ASB_putStringAt) ∧ nth dw_20 16 = some (headw n_STR_getBytes) ∧ nth dw_20 2 = some (headw n_STR_coder) := ⟨rfl, rfl, rfl, rfl⟩
theorem hdi_ASB_inflateIfNeededFor : headw n_ASB_inflateIfNeededFor ∈ lT := ds_20 _ (nth_mem hdT_20.1)
theorem hdi_ASB_putStringAt : headw n_ASB_putStringAt ∈ lT := ds_20 _ (nth_mem hdT_20.2.1)
theorem hdi_STR_getBytes : headw n_STR_getBytes ∈ lT := ds_20 _ (nth_mem hdT_20.2.2.1)
theorem hdi_STR_coder : headw n_STR_coder ∈ lT := ds_20 _ (nth_mem hdT_20.2.2.2)
theorem hdT_21 : nth dw_21 18 = some (headw n_D_ofSigned) ∧ nth dw_21 8 = some (headw n_X_compare) ∧ nth dw_21 15 = some (headw n_X_text) ∧ nth dw_21 29 = some (headw n_X_rest) ∧ nth dw_21 32 = some (headw n_X_needNotZero) ∧ nth dw_21 4 = some (headw n_K_compare) ∧ nth dw_21 11 = some (headw n_K_text) ∧ nth dw_21 21 = some (headw n_K_ofNumber) ∧ nth dw_21 25 = some (headw n_K_rest) ∧ nth dw_21 36 = some (headw n_K_quotient) := ⟨rfl, rfl, rfl, rfl, rfl, rfl, rfl, rfl, rfl, rfl⟩
theorem hdi_D_ofSigned : headw n_D_ofSigned ∈ lT := ds_21 _ (nth_mem hdT_21.1)
theorem hdi_X_compare : headw n_X_compare ∈ lT := ds_21 _ (nth_mem hdT_21.2.1)
theorem hdi_X_text : headw n_X_text ∈ lT := ds_21 _ (nth_mem hdT_21.2.2.1)
theorem hdi_X_rest : headw n_X_rest ∈ lT := ds_21 _ (nth_mem hdT_21.2.2.2.1)
theorem hdi_X_needNotZero : headw n_X_needNotZero ∈ lT := ds_21 _ (nth_mem hdT_21.2.2.2.2.1)
theorem hdi_K_compare : headw n_K_compare ∈ lT := ds_21 _ (nth_mem hdT_21.2.2.2.2.2.1)
theorem hdi_K_text : headw n_K_text ∈ lT := ds_21 _ (nth_mem hdT_21.2.2.2.2.2.2.1)
theorem hdi_K_ofNumber : headw n_K_ofNumber ∈ lT := ds_21 _ (nth_mem hdT_21.2.2.2.2.2.2.2.1)
theorem hdi_K_rest : headw n_K_rest ∈ lT := ds_21 _ (nth_mem hdT_21.2.2.2.2.2.2.2.2.1)
theorem hdi_K_quotient : headw n_K_quotient ∈ lT := ds_21 _ (nth_mem hdT_21.2.2.2.2.2.2.2.2.2)
theorem hdT_22 : nth dw_22 0 = some (headw n_X_quotient) ∧ nth dw_22 7 = some (headw n_X_modulus) ∧ nth dw_22 19 = some (headw n_X_bring) ∧ nth dw_22 26 = some (headw n_X_lift) ∧ nth dw_22 33 = some (headw n_X_plus) ∧ nth dw_22 11 = some (headw n_X_keepResidue) ∧ nth dw_22 3 = some (headw n_K_modulus) ∧ nth dw_22 15 = some (headw n_K_bring) ∧ nth dw_22 22 = some (headw n_K_lift) ∧ nth dw_22 29 = some (headw n_K_plus) ∧ nth dw_22 36 = some (headw n_K_times) := ⟨rfl, rfl, rfl, rfl, rfl, rfl, rfl, rfl, rfl, rfl, rfl⟩
theorem hdi_X_quotient : headw n_X_quotient ∈ lT := ds_22 _ (nth_mem hdT_22.1)
theorem hdi_X_modulus : headw n_X_modulus ∈ lT := ds_22 _ (nth_mem hdT_22.2.1)
theorem hdi_X_bring : headw n_X_bring ∈ lT := ds_22 _ (nth_mem hdT_22.2.2.1)
theorem hdi_X_lift : headw n_X_lift ∈ lT := ds_22 _ (nth_mem hdT_22.2.2.2.1)
theorem hdi_X_plus : headw n_X_plus ∈ lT := ds_22 _ (nth_mem hdT_22.2.2.2.2.1)
theorem hdi_X_keepResidue : headw n_X_keepResidue ∈ lT := ds_22 _ (nth_mem hdT_22.2.2.2.2.2.1)
theorem hdi_K_modulus : headw n_K_modulus ∈ lT := ds_22 _ (nth_mem hdT_22.2.2.2.2.2.2.1)
theorem hdi_K_bring : headw n_K_bring ∈ lT := ds_22 _ (nth_mem hdT_22.2.2.2.2.2.2.2.1)
theorem hdi_K_lift : headw n_K_lift ∈ lT := ds_22 _ (nth_mem hdT_22.2.2.2.2.2.2.2.2.1)
theorem hdi_K_plus : headw n_K_plus ∈ lT := ds_22 _ (nth_mem hdT_22.2.2.2.2.2.2.2.2.2.1)
theorem hdi_K_times : headw n_K_times ∈ lT := ds_22 _ (nth_mem hdT_22.2.2.2.2.2.2.2.2.2.2)
theorem hdT_23 : nth dw_23 11 = some (headw n_R_raised) ∧ nth dw_23 0 = some (headw n_X_times) ∧ nth dw_23 7 = some (headw n_X_power) ∧ nth dw_23 18 = some (headw n_X_inverse) ∧ nth dw_23 30 = some (headw n_X_residue) ∧ nth dw_23 37 = some (headw n_X_ringText) ∧ nth dw_23 3 = some (headw n_K_power) ∧ nth dw_23 14 = some (headw n_K_inverse) ∧ nth dw_23 22 = some (headw n_K_isUnit) ∧ nth dw_23 26 = some (headw n_K_residue) ∧ nth dw_23 33 = some (headw n_K_ringText) := ⟨rfl, rfl, rfl, rfl, rfl, rfl, rfl, rfl, rfl, rfl, rfl⟩
theorem hdi_R_raised : headw n_R_raised ∈ lT := ds_23 _ (nth_mem hdT_23.1)
theorem hdi_X_times : headw n_X_times ∈ lT := ds_23 _ (nth_mem hdT_23.2.1)
theorem hdi_X_power : headw n_X_power ∈ lT := ds_23 _ (nth_mem hdT_23.2.2.1)
theorem hdi_X_inverse : headw n_X_inverse ∈ lT := ds_23 _ (nth_mem hdT_23.2.2.2.1)
theorem hdi_X_residue : headw n_X_residue ∈ lT := ds_23 _ (nth_mem hdT_23.2.2.2.2.1)
theorem hdi_X_ringText : headw n_X_ringText ∈ lT := ds_23 _ (nth_mem hdT_23.2.2.2.2.2.1)
theorem hdi_K_power : headw n_K_power ∈ lT := ds_23 _ (nth_mem hdT_23.2.2.2.2.2.2.1)
theorem hdi_K_inverse : headw n_K_inverse ∈ lT := ds_23 _ (nth_mem hdT_23.2.2.2.2.2.2.2.1)
theorem hdi_K_isUnit : headw n_K_isUnit ∈ lT := ds_23 _ (nth_mem hdT_23.2.2.2.2.2.2.2.2.1)
theorem hdi_K_residue : headw n_K_residue ∈ lT := ds_23 _ (nth_mem hdT_23.2.2.2.2.2.2.2.2.2.1)
theorem hdi_K_ringText : headw n_K_ringText ∈ lT := ds_23 _ (nth_mem hdT_23.2.2.2.2.2.2.2.2.2.2)
theorem hdT_24 : nth dw_24 9 = some (headw n_X_areAlike) ∧ nth dw_24 16 = some (headw n_X_together) ∧ nth dw_24 25 = some (headw n_X_common) ∧ nth dw_24 36 = some (headw n_M_new) ∧ nth dw_24 5 = some (headw n_K_areAlike) ∧ nth dw_24 12 = some (headw n_K_together) ∧ nth dw_24 21 = some (headw n_K_common) ∧ nth dw_24 30 = some (headw n_K_house) := ⟨rfl, rfl, rfl, rfl, rfl, rfl, rfl, rfl⟩
theorem hdi_X_areAlike : headw n_X_areAlike ∈ lT := ds_24 _ (nth_mem hdT_24.1)
theorem hdi_X_together : headw n_X_together ∈ lT := ds_24 _ (nth_mem hdT_24.2.1)
theorem hdi_X_common : headw n_X_common ∈ lT := ds_24 _ (nth_mem hdT_24.2.2.1)
theorem hdi_M_new : headw n_M_new ∈ lT := ds_24 _ (nth_mem hdT_24.2.2.2.1)
theorem hdi_K_areAlike : headw n_K_areAlike ∈ lT := ds_24 _ (nth_mem hdT_24.2.2.2.2.1)
theorem hdi_K_together : headw n_K_together ∈ lT := ds_24 _ (nth_mem hdT_24.2.2.2.2.2.1)
theorem hdi_K_common : headw n_K_common ∈ lT := ds_24 _ (nth_mem hdT_24.2.2.2.2.2.2.1)
theorem hdi_K_house : headw n_K_house ∈ lT := ds_24 _ (nth_mem hdT_24.2.2.2.2.2.2.2)
theorem hdT_25 : nth dw_25 25 = some (headw n_M_thrown) ∧ nth dw_25 36 = some (headw n_M_start) ∧ nth dw_25 32 = some (headw n_M_isNo) ∧ nth dw_25 29 = some (headw n_M_put) := ⟨rfl, rfl, rfl, rfl⟩
theorem hdi_M_thrown : headw n_M_thrown ∈ lT := ds_25 _ (nth_mem hdT_25.1)
theorem hdi_M_start : headw n_M_start ∈ lT := ds_25 _ (nth_mem hdT_25.2.1)
theorem hdi_M_isNo : headw n_M_isNo ∈ lT := ds_25 _ (nth_mem hdT_25.2.2.1)
theorem hdi_M_put : headw n_M_put ∈ lT := ds_25 _ (nth_mem hdT_25.2.2.2)
theorem hdT_26 : nth dw_26 0 = some (headw n_M_refuse) ∧ nth dw_26 28 = some (headw n_M_no) ∧ nth dw_26 12 = some (headw n_M_sign) ∧ nth dw_26 9 = some (headw n_M_now) ∧ nth dw_26 5 = some (headw n_M_become) ∧ nth dw_26 38 = some (headw n_M_both) ∧ nth dw_26 35 = some (headw n_M_isWithin) ∧ nth dw_26 16 = some (headw n_M_copy) ∧ nth dw_26 20 = some (headw n_M_widen) ∧ nth dw_26 24 = some (headw n_M_narrow) ∧ nth dw_26 32 = some (headw n_M_exact) := ⟨rfl, rfl, rfl, rfl, rfl, rfl, rfl, rfl, rfl, rfl, rfl⟩
theorem hdi_M_refuse : headw n_M_refuse ∈ lT := ds_26 _ (nth_mem hdT_26.1)
theorem hdi_M_no : headw n_M_no ∈ lT := ds_26 _ (nth_mem hdT_26.2.1)
theorem hdi_M_sign : headw n_M_sign ∈ lT := ds_26 _ (nth_mem hdT_26.2.2.1)
theorem hdi_M_now : headw n_M_now ∈ lT := ds_26 _ (nth_mem hdT_26.2.2.2.1)
theorem hdi_M_become : headw n_M_become ∈ lT := ds_26 _ (nth_mem hdT_26.2.2.2.2.1)
theorem hdi_M_both : headw n_M_both ∈ lT := ds_26 _ (nth_mem hdT_26.2.2.2.2.2.1)
theorem hdi_M_isWithin : headw n_M_isWithin ∈ lT := ds_26 _ (nth_mem hdT_26.2.2.2.2.2.2.1)
theorem hdi_M_copy : headw n_M_copy ∈ lT := ds_26 _ (nth_mem hdT_26.2.2.2.2.2.2.2.1)
theorem hdi_M_widen : headw n_M_widen ∈ lT := ds_26 _ (nth_mem hdT_26.2.2.2.2.2.2.2.2.1)
theorem hdi_M_narrow : headw n_M_narrow ∈ lT := ds_26 _ (nth_mem hdT_26.2.2.2.2.2.2.2.2.2.1)
theorem hdi_M_exact : headw n_M_exact ∈ lT := ds_26 _ (nth_mem hdT_26.2.2.2.2.2.2.2.2.2.2)
theorem hdT_27 : nth dw_27 1 = some (headw n_M_above) ∧ nth dw_27 6 = some (headw n_M_fits) ∧ nth dw_27 10 = some (headw n_M_alone) ∧ nth dw_27 14 = some (headw n_M_timesInt) ∧ nth dw_27 18 = some (headw n_M_full) ∧ nth dw_27 22 = some (headw n_M_high) ∧ nth dw_27 26 = some (headw n_M_round) ∧ nth dw_27 30 = some (headw n_M_abs) ∧ nth dw_27 34 = some (headw n_M_extreme) ∧ nth dw_27 38 = some (headw n_M_floor) := ⟨rfl, rfl, rfl, rfl, rfl, rfl, rfl, rfl, rfl, rfl⟩
theorem hdi_M_above : headw n_M_above ∈ lT := ds_27 _ (nth_mem hdT_27.1)
theorem hdi_M_fits : headw n_M_fits ∈ lT := ds_27 _ (nth_mem hdT_27.2.1)
theorem hdi_M_alone : headw n_M_alone ∈ lT := ds_27 _ (nth_mem hdT_27.2.2.1)
theorem hdi_M_timesInt : headw n_M_timesInt ∈ lT := ds_27 _ (nth_mem hdT_27.2.2.2.1)
theorem hdi_M_full : headw n_M_full ∈ lT := ds_27 _ (nth_mem hdT_27.2.2.2.2.1)
theorem hdi_M_high : headw n_M_high ∈ lT := ds_27 _ (nth_mem hdT_27.2.2.2.2.2.1)
theorem hdi_M_round : headw n_M_round ∈ lT := ds_27 _ (nth_mem hdT_27.2.2.2.2.2.2.1)
theorem hdi_M_abs : headw n_M_abs ∈ lT := ds_27 _ (nth_mem hdT_27.2.2.2.2.2.2.2.1)
theorem hdi_M_extreme : headw n_M_extreme ∈ lT := ds_27 _ (nth_mem hdT_27.2.2.2.2.2.2.2.2.1)
theorem hdi_M_floor : headw n_M_floor ∈ lT := ds_27 _ (nth_mem hdT_27.2.2.2.2.2.2.2.2.2)
theorem hdT_28 : nth dw_28 4 = some (headw n_M_floorOf) ∧ nth dw_28 1 = some (headw n_M_restOf) ∧ nth dw_28 8 = some (headw n_M_floorInt) ∧ nth dw_28 12 = some (headw n_M_towards) ∧ nth dw_28 16 = some (headw n_M_average) ∧ nth dw_28 23 = some (headw n_M_areWrong) ∧ nth dw_28 20 = some (headw n_M_chain) ∧ nth dw_28 27 = some (headw n_M_atOnce) ∧ nth dw_28 36 = some (headw n_M_plain) ∧ nth dw_28 32 = some (headw n_M_distance) := ⟨rfl, rfl, rfl, rfl, rfl, rfl, rfl, rfl, rfl, rfl⟩
theorem hdi_M_floorOf : headw n_M_floorOf ∈ lT := ds_28 _ (nth_mem hdT_28.1)
theorem hdi_M_restOf : headw n_M_restOf ∈ lT := ds_28 _ (nth_mem hdT_28.2.1)
theorem hdi_M_floorInt : headw n_M_floorInt ∈ lT := ds_28 _ (nth_mem hdT_28.2.2.1)
theorem hdi_M_towards : headw n_M_towards ∈ lT := ds_28 _ (nth_mem hdT_28.2.2.2.1)
theorem hdi_M_average : headw n_M_average ∈ lT := ds_28 _ (nth_mem hdT_28.2.2.2.2.1)
theorem hdi_M_areWrong : headw n_M_areWrong ∈ lT := ds_28 _ (nth_mem hdT_28.2.2.2.2.2.1)
theorem hdi_M_chain : headw n_M_chain ∈ lT := ds_28 _ (nth_mem hdT_28.2.2.2.2.2.2.1)
theorem hdi_M_atOnce : headw n_M_atOnce ∈ lT := ds_28 _ (nth_mem hdT_28.2.2.2.2.2.2.2.1)
theorem hdi_M_plain : headw n_M_plain ∈ lT := ds_28 _ (nth_mem hdT_28.2.2.2.2.2.2.2.2.1)
theorem hdi_M_distance : headw n_M_distance ∈ lT := ds_28 _ (nth_mem hdT_28.2.2.2.2.2.2.2.2.2)
theorem hdT_29 : nth dw_29 33 = some (headw n_M_compare) ∧ nth dw_29 37 = some (headw n_M_text) ∧ nth dw_29 6 = some (headw n_ASB_append_J) ∧ nth dw_29 14 = some (headw n_LNG_getChars) ∧ nth dw_29 9 = some (headw n_LNG_stringSize) ∧ nth dw_29 3 = some (headw n_SB_append_J) := ⟨rfl, rfl, rfl, rfl, rfl, rfl⟩
theorem hdi_M_compare : headw n_M_compare ∈ lT := ds_29 _ (nth_mem hdT_29.1)
theorem hdi_M_text : headw n_M_text ∈ lT := ds_29 _ (nth_mem hdT_29.2.1)
theorem hdi_ASB_append_J : headw n_ASB_append_J ∈ lT := ds_29 _ (nth_mem hdT_29.2.2.1)
theorem hdi_LNG_getChars : headw n_LNG_getChars ∈ lT := ds_29 _ (nth_mem hdT_29.2.2.2.1)
theorem hdi_LNG_stringSize : headw n_LNG_stringSize ∈ lT := ds_29 _ (nth_mem hdT_29.2.2.2.2.1)
theorem hdi_SB_append_J : headw n_SB_append_J ∈ lT := ds_29 _ (nth_mem hdT_29.2.2.2.2.2)
theorem hdT_30 : nth dw_30 24 = some (headw n_M_isNoRing) ∧ nth dw_30 5 = some (headw n_M_ofNow) ∧ nth dw_30 1 = some (headw n_M_ofNumber) ∧ nth dw_30 13 = some (headw n_M_rest) ∧ nth dw_30 17 = some (headw n_M_quotient) ∧ nth dw_30 28 = some (headw n_M_come) ∧ nth dw_30 21 = some (headw n_M_modulus) ∧ nth dw_30 32 = some (headw n_M_bring) ∧ nth dw_30 36 = some (headw n_M_lift) := ⟨rfl, rfl, rfl, rfl, rfl, rfl, rfl, rfl, rfl⟩
theorem hdi_M_isNoRing : headw n_M_isNoRing ∈ lT := ds_30 _ (nth_mem hdT_30.1)
theorem hdi_M_ofNow : headw n_M_ofNow ∈ lT := ds_30 _ (nth_mem hdT_30.2.1)
theorem hdi_M_ofNumber : headw n_M_ofNumber ∈ lT := ds_30 _ (nth_mem hdT_30.2.2.1)
theorem hdi_M_rest : headw n_M_rest ∈ lT := ds_30 _ (nth_mem hdT_30.2.2.2.1)
theorem hdi_M_quotient : headw n_M_quotient ∈ lT := ds_30 _ (nth_mem hdT_30.2.2.2.2.1)
theorem hdi_M_come : headw n_M_come ∈ lT := ds_30 _ (nth_mem hdT_30.2.2.2.2.2.1)
theorem hdi_M_modulus : headw n_M_modulus ∈ lT := ds_30 _ (nth_mem hdT_30.2.2.2.2.2.2.1)
theorem hdi_M_bring : headw n_M_bring ∈ lT := ds_30 _ (nth_mem hdT_30.2.2.2.2.2.2.2.1)
theorem hdi_M_lift : headw n_M_lift ∈ lT := ds_30 _ (nth_mem hdT_30.2.2.2.2.2.2.2.2)
theorem hdT_31 : nth dw_31 19 = some (headw n_M_gcd) ∧ nth dw_31 23 = some (headw n_M_against) ∧ nth dw_31 0 = some (headw n_M_plus) ∧ nth dw_31 4 = some (headw n_M_times) ∧ nth dw_31 8 = some (headw n_M_power) ∧ nth dw_31 16 = some (headw n_M_isUnitNow) ∧ nth dw_31 12 = some (headw n_M_inverse) ∧ nth dw_31 27 = some (headw n_M_isUnit) ∧ nth dw_31 31 = some (headw n_M_residue) ∧ nth dw_31 35 = some (headw n_M_ringText) := ⟨rfl, rfl, rfl, rfl, rfl, rfl, rfl, rfl, rfl, rfl⟩
theorem hdi_M_gcd : headw n_M_gcd ∈ lT := ds_31 _ (nth_mem hdT_31.1)
theorem hdi_M_against : headw n_M_against ∈ lT := ds_31 _ (nth_mem hdT_31.2.1)
theorem hdi_M_plus : headw n_M_plus ∈ lT := ds_31 _ (nth_mem hdT_31.2.2.1)
theorem hdi_M_times : headw n_M_times ∈ lT := ds_31 _ (nth_mem hdT_31.2.2.2.1)
theorem hdi_M_power : headw n_M_power ∈ lT := ds_31 _ (nth_mem hdT_31.2.2.2.2.1)
theorem hdi_M_isUnitNow : headw n_M_isUnitNow ∈ lT := ds_31 _ (nth_mem hdT_31.2.2.2.2.2.1)
theorem hdi_M_inverse : headw n_M_inverse ∈ lT := ds_31 _ (nth_mem hdT_31.2.2.2.2.2.2.1)
theorem hdi_M_isUnit : headw n_M_isUnit ∈ lT := ds_31 _ (nth_mem hdT_31.2.2.2.2.2.2.2.1)
theorem hdi_M_residue : headw n_M_residue ∈ lT := ds_31 _ (nth_mem hdT_31.2.2.2.2.2.2.2.2.1)
theorem hdi_M_ringText : headw n_M_ringText ∈ lT := ds_31 _ (nth_mem hdT_31.2.2.2.2.2.2.2.2.2)
theorem hdT_32 : nth dw_32 2 = some (headw n_M_areAlike) ∧ nth dw_32 6 = some (headw n_M_together) ∧ nth dw_32 10 = some (headw n_M_common) ∧ nth dw_32 18 = some (headw n_M_houseNow) ∧ nth dw_32 14 = some (headw n_M_house) ∧ nth dw_32 22 = some (headw n_M_knock) ∧ nth dw_32 26 = some (headw n_M_isSound) ∧ nth dw_32 30 = some (headw n_M_digest) := ⟨rfl, rfl, rfl, rfl, rfl, rfl, rfl, rfl⟩
theorem hdi_M_areAlike : headw n_M_areAlike ∈ lT := ds_32 _ (nth_mem hdT_32.1)
theorem hdi_M_together : headw n_M_together ∈ lT := ds_32 _ (nth_mem hdT_32.2.1)
theorem hdi_M_common : headw n_M_common ∈ lT := ds_32 _ (nth_mem hdT_32.2.2.1)
theorem hdi_M_houseNow : headw n_M_houseNow ∈ lT := ds_32 _ (nth_mem hdT_32.2.2.2.1)
theorem hdi_M_house : headw n_M_house ∈ lT := ds_32 _ (nth_mem hdT_32.2.2.2.2.1)
theorem hdi_M_knock : headw n_M_knock ∈ lT := ds_32 _ (nth_mem hdT_32.2.2.2.2.2.1)
theorem hdi_M_isSound : headw n_M_isSound ∈ lT := ds_32 _ (nth_mem hdT_32.2.2.2.2.2.2.1)
theorem hdi_M_digest : headw n_M_digest ∈ lT := ds_32 _ (nth_mem hdT_32.2.2.2.2.2.2.2)
theorem hdg_0 : ∀ x ∈ [n_D_ofSigned, n_D_ofUnsigned, n_D_appendBackwards, n_D_countOf, n_A_holdForPair, n_A_holdForAverages, n_A_holdForFloor, n_A_holdForTowards, n_A_holdForProduct, n_A_holdForResidue, n_A_keepResidues, n_A_holdForMeeting, n_R_sizeOf, n_R_residueOf, n_R_raised, n_R_greatestDivisor, n_R_hasInverse, n_R_inverseOf, n_R_inverseBelow, n_R_meetingOf, n_W_order, n_W_isWithin, n_W_goneRound, n_W_edge, n_W_joined, n_W_isExact, n_W_isTrue, n_W_upperHalf, n_W_averageOf, n_W_floorOf, n_W_restOf, n_W_quotientTowards, n_W_restTowards, n_W_chained, n_X_new, n_X_put, n_X_copy, n_X_widen, n_X_narrow, n_X_exact], headw x ∈ lT := List.forall_mem_cons.mpr ⟨hdi_D_ofSigned, List.forall_mem_cons.mpr ⟨hdi_D_ofUnsigned, List.forall_mem_cons.mpr ⟨hdi_D_appendBackwards, List.forall_mem_cons.mpr ⟨hdi_D_countOf, List.forall_mem_cons.mpr ⟨hdi_A_holdForPair, List.forall_mem_cons.mpr ⟨hdi_A_holdForAverages, List.forall_mem_cons.mpr ⟨hdi_A_holdForFloor, List.forall_mem_cons.mpr ⟨hdi_A_holdForTowards, List.forall_mem_cons.mpr ⟨hdi_A_holdForProduct, List.forall_mem_cons.mpr ⟨hdi_A_holdForResidue, List.forall_mem_cons.mpr ⟨hdi_A_keepResidues, List.forall_mem_cons.mpr ⟨hdi_A_holdForMeeting, List.forall_mem_cons.mpr ⟨hdi_R_sizeOf, List.forall_mem_cons.mpr ⟨hdi_R_residueOf, List.forall_mem_cons.mpr ⟨hdi_R_raised, List.forall_mem_cons.mpr ⟨hdi_R_greatestDivisor, List.forall_mem_cons.mpr ⟨hdi_R_hasInverse, List.forall_mem_cons.mpr ⟨hdi_R_inverseOf, List.forall_mem_cons.mpr ⟨hdi_R_inverseBelow, List.forall_mem_cons.mpr ⟨hdi_R_meetingOf, List.forall_mem_cons.mpr ⟨hdi_W_order, List.forall_mem_cons.mpr ⟨hdi_W_isWithin, List.forall_mem_cons.mpr ⟨hdi_W_goneRound, List.forall_mem_cons.mpr ⟨hdi_W_edge, List.forall_mem_cons.mpr ⟨hdi_W_joined, List.forall_mem_cons.mpr ⟨hdi_W_isExact, List.forall_mem_cons.mpr ⟨hdi_W_isTrue, List.forall_mem_cons.mpr ⟨hdi_W_upperHalf, List.forall_mem_cons.mpr ⟨hdi_W_averageOf, List.forall_mem_cons.mpr ⟨hdi_W_floorOf, List.forall_mem_cons.mpr ⟨hdi_W_restOf, List.forall_mem_cons.mpr ⟨hdi_W_quotientTowards, List.forall_mem_cons.mpr ⟨hdi_W_restTowards, List.forall_mem_cons.mpr ⟨hdi_W_chained, List.forall_mem_cons.mpr ⟨hdi_X_new, List.forall_mem_cons.mpr ⟨hdi_X_put, List.forall_mem_cons.mpr ⟨hdi_X_copy, List.forall_mem_cons.mpr ⟨hdi_X_widen, List.forall_mem_cons.mpr ⟨hdi_X_narrow, List.forall_mem_cons.mpr ⟨hdi_X_exact, fun _ h => nomatch h⟩⟩⟩⟩⟩⟩⟩⟩⟩⟩⟩⟩⟩⟩⟩⟩⟩⟩⟩⟩⟩⟩⟩⟩⟩⟩⟩⟩⟩⟩⟩⟩⟩⟩⟩⟩⟩⟩⟩⟩
theorem hdg_1 : ∀ x ∈ [n_X_fits, n_X_alone, n_X_timesInt, n_X_full, n_X_high, n_X_round, n_X_abs, n_X_extreme, n_X_floor, n_X_floorInt, n_X_towards, n_X_average, n_X_chain, n_X_atOnce, n_X_distance, n_X_compare, n_X_text, n_X_ofNumber, n_X_rest, n_X_quotient, n_X_modulus, n_X_bring, n_X_lift, n_X_plus, n_X_times, n_X_power, n_X_inverse, n_X_isUnit, n_X_residue, n_X_ringText, n_X_areAlike, n_X_together, n_X_common, n_X_house, n_X_knock, n_X_isSound, n_X_digest, n_X_needIndex, n_X_needChoice, n_X_needNotZero], headw x ∈ lT := List.forall_mem_cons.mpr ⟨hdi_X_fits, List.forall_mem_cons.mpr ⟨hdi_X_alone, List.forall_mem_cons.mpr ⟨hdi_X_timesInt, List.forall_mem_cons.mpr ⟨hdi_X_full, List.forall_mem_cons.mpr ⟨hdi_X_high, List.forall_mem_cons.mpr ⟨hdi_X_round, List.forall_mem_cons.mpr ⟨hdi_X_abs, List.forall_mem_cons.mpr ⟨hdi_X_extreme, List.forall_mem_cons.mpr ⟨hdi_X_floor, List.forall_mem_cons.mpr ⟨hdi_X_floorInt, List.forall_mem_cons.mpr ⟨hdi_X_towards, List.forall_mem_cons.mpr ⟨hdi_X_average, List.forall_mem_cons.mpr ⟨hdi_X_chain, List.forall_mem_cons.mpr ⟨hdi_X_atOnce, List.forall_mem_cons.mpr ⟨hdi_X_distance, List.forall_mem_cons.mpr ⟨hdi_X_compare, List.forall_mem_cons.mpr ⟨hdi_X_text, List.forall_mem_cons.mpr ⟨hdi_X_ofNumber, List.forall_mem_cons.mpr ⟨hdi_X_rest, List.forall_mem_cons.mpr ⟨hdi_X_quotient, List.forall_mem_cons.mpr ⟨hdi_X_modulus, List.forall_mem_cons.mpr ⟨hdi_X_bring, List.forall_mem_cons.mpr ⟨hdi_X_lift, List.forall_mem_cons.mpr ⟨hdi_X_plus, List.forall_mem_cons.mpr ⟨hdi_X_times, List.forall_mem_cons.mpr ⟨hdi_X_power, List.forall_mem_cons.mpr ⟨hdi_X_inverse, List.forall_mem_cons.mpr ⟨hdi_X_isUnit, List.forall_mem_cons.mpr ⟨hdi_X_residue, List.forall_mem_cons.mpr ⟨hdi_X_ringText, List.forall_mem_cons.mpr ⟨hdi_X_areAlike, List.forall_mem_cons.mpr ⟨hdi_X_together, List.forall_mem_cons.mpr ⟨hdi_X_common, List.forall_mem_cons.mpr ⟨hdi_X_house, List.forall_mem_cons.mpr ⟨hdi_X_knock, List.forall_mem_cons.mpr ⟨hdi_X_isSound, List.forall_mem_cons.mpr ⟨hdi_X_digest, List.forall_mem_cons.mpr ⟨hdi_X_needIndex, List.forall_mem_cons.mpr ⟨hdi_X_needChoice, List.forall_mem_cons.mpr ⟨hdi_X_needNotZero, fun _ h => nomatch h⟩⟩⟩⟩⟩⟩⟩⟩⟩⟩⟩⟩⟩⟩⟩⟩⟩⟩⟩⟩⟩⟩⟩⟩⟩⟩⟩⟩⟩⟩⟩⟩⟩⟩⟩⟩⟩⟩⟩⟩
theorem hdg_2 : ∀ x ∈ [n_X_needDivisors, n_X_numberAt, n_X_modulusAt, n_X_residueAt, n_X_refuse, n_X_keep, n_X_keepRound, n_X_keepExact, n_X_keepFloor, n_X_keepResidue, n_X_countZeros, n_X_countUnits, n_X_digestNumbers, n_X_areNumbersSound, n_X_areRingsSound, n_X_areMeetingsSound, n_O_new, n_M_new, n_M_thrown, n_M_refuse, n_M_start, n_M_isNo, n_M_isNoRing, n_M_no, n_M_sign, n_M_now, n_M_become, n_M_above, n_M_both, n_M_isWithin, n_M_floorOf, n_M_restOf, n_M_gcd, n_M_against, n_M_put, n_M_copy, n_M_widen, n_M_narrow, n_M_exact, n_M_fits], headw x ∈ lT := List.forall_mem_cons.mpr ⟨hdi_X_needDivisors, List.forall_mem_cons.mpr ⟨hdi_X_numberAt, List.forall_mem_cons.mpr ⟨hdi_X_modulusAt, List.forall_mem_cons.mpr ⟨hdi_X_residueAt, List.forall_mem_cons.mpr ⟨hdi_X_refuse, List.forall_mem_cons.mpr ⟨hdi_X_keep, List.forall_mem_cons.mpr ⟨hdi_X_keepRound, List.forall_mem_cons.mpr ⟨hdi_X_keepExact, List.forall_mem_cons.mpr ⟨hdi_X_keepFloor, List.forall_mem_cons.mpr ⟨hdi_X_keepResidue, List.forall_mem_cons.mpr ⟨hdi_X_countZeros, List.forall_mem_cons.mpr ⟨hdi_X_countUnits, List.forall_mem_cons.mpr ⟨hdi_X_digestNumbers, List.forall_mem_cons.mpr ⟨hdi_X_areNumbersSound, List.forall_mem_cons.mpr ⟨hdi_X_areRingsSound, List.forall_mem_cons.mpr ⟨hdi_X_areMeetingsSound, List.forall_mem_cons.mpr ⟨hdi_O_new, List.forall_mem_cons.mpr ⟨hdi_M_new, List.forall_mem_cons.mpr ⟨hdi_M_thrown, List.forall_mem_cons.mpr ⟨hdi_M_refuse, List.forall_mem_cons.mpr ⟨hdi_M_start, List.forall_mem_cons.mpr ⟨hdi_M_isNo, List.forall_mem_cons.mpr ⟨hdi_M_isNoRing, List.forall_mem_cons.mpr ⟨hdi_M_no, List.forall_mem_cons.mpr ⟨hdi_M_sign, List.forall_mem_cons.mpr ⟨hdi_M_now, List.forall_mem_cons.mpr ⟨hdi_M_become, List.forall_mem_cons.mpr ⟨hdi_M_above, List.forall_mem_cons.mpr ⟨hdi_M_both, List.forall_mem_cons.mpr ⟨hdi_M_isWithin, List.forall_mem_cons.mpr ⟨hdi_M_floorOf, List.forall_mem_cons.mpr ⟨hdi_M_restOf, List.forall_mem_cons.mpr ⟨hdi_M_gcd, List.forall_mem_cons.mpr ⟨hdi_M_against, List.forall_mem_cons.mpr ⟨hdi_M_put, List.forall_mem_cons.mpr ⟨hdi_M_copy, List.forall_mem_cons.mpr ⟨hdi_M_widen, List.forall_mem_cons.mpr ⟨hdi_M_narrow, List.forall_mem_cons.mpr ⟨hdi_M_exact, List.forall_mem_cons.mpr ⟨hdi_M_fits, fun _ h => nomatch h⟩⟩⟩⟩⟩⟩⟩⟩⟩⟩⟩⟩⟩⟩⟩⟩⟩⟩⟩⟩⟩⟩⟩⟩⟩⟩⟩⟩⟩⟩⟩⟩⟩⟩⟩⟩⟩⟩⟩⟩
theorem hdg_3 : ∀ x ∈ [n_M_alone, n_M_timesInt, n_M_full, n_M_high, n_M_round, n_M_abs, n_M_extreme, n_M_floor, n_M_floorInt, n_M_towards, n_M_average, n_M_areWrong, n_M_chain, n_M_atOnce, n_M_plain, n_M_distance, n_M_compare, n_M_text, n_M_ofNow, n_M_ofNumber, n_M_rest, n_M_quotient, n_M_come, n_M_modulus, n_M_bring, n_M_lift, n_M_plus, n_M_times, n_M_power, n_M_isUnitNow, n_M_inverse, n_M_isUnit, n_M_residue, n_M_ringText, n_M_areAlike, n_M_together, n_M_common, n_M_houseNow, n_M_house, n_M_knock], headw x ∈ lT := List.forall_mem_cons.mpr ⟨hdi_M_alone, List.forall_mem_cons.mpr ⟨hdi_M_timesInt, List.forall_mem_cons.mpr ⟨hdi_M_full, List.forall_mem_cons.mpr ⟨hdi_M_high, List.forall_mem_cons.mpr ⟨hdi_M_round, List.forall_mem_cons.mpr ⟨hdi_M_abs, List.forall_mem_cons.mpr ⟨hdi_M_extreme, List.forall_mem_cons.mpr ⟨hdi_M_floor, List.forall_mem_cons.mpr ⟨hdi_M_floorInt, List.forall_mem_cons.mpr ⟨hdi_M_towards, List.forall_mem_cons.mpr ⟨hdi_M_average, List.forall_mem_cons.mpr ⟨hdi_M_areWrong, List.forall_mem_cons.mpr ⟨hdi_M_chain, List.forall_mem_cons.mpr ⟨hdi_M_atOnce, List.forall_mem_cons.mpr ⟨hdi_M_plain, List.forall_mem_cons.mpr ⟨hdi_M_distance, List.forall_mem_cons.mpr ⟨hdi_M_compare, List.forall_mem_cons.mpr ⟨hdi_M_text, List.forall_mem_cons.mpr ⟨hdi_M_ofNow, List.forall_mem_cons.mpr ⟨hdi_M_ofNumber, List.forall_mem_cons.mpr ⟨hdi_M_rest, List.forall_mem_cons.mpr ⟨hdi_M_quotient, List.forall_mem_cons.mpr ⟨hdi_M_come, List.forall_mem_cons.mpr ⟨hdi_M_modulus, List.forall_mem_cons.mpr ⟨hdi_M_bring, List.forall_mem_cons.mpr ⟨hdi_M_lift, List.forall_mem_cons.mpr ⟨hdi_M_plus, List.forall_mem_cons.mpr ⟨hdi_M_times, List.forall_mem_cons.mpr ⟨hdi_M_power, List.forall_mem_cons.mpr ⟨hdi_M_isUnitNow, List.forall_mem_cons.mpr ⟨hdi_M_inverse, List.forall_mem_cons.mpr ⟨hdi_M_isUnit, List.forall_mem_cons.mpr ⟨hdi_M_residue, List.forall_mem_cons.mpr ⟨hdi_M_ringText, List.forall_mem_cons.mpr ⟨hdi_M_areAlike, List.forall_mem_cons.mpr ⟨hdi_M_together, List.forall_mem_cons.mpr ⟨hdi_M_common, List.forall_mem_cons.mpr ⟨hdi_M_houseNow, List.forall_mem_cons.mpr ⟨hdi_M_house, List.forall_mem_cons.mpr ⟨hdi_M_knock, fun _ h => nomatch h⟩⟩⟩⟩⟩⟩⟩⟩⟩⟩⟩⟩⟩⟩⟩⟩⟩⟩⟩⟩⟩⟩⟩⟩⟩⟩⟩⟩⟩⟩⟩⟩⟩⟩⟩⟩⟩⟩⟩⟩
theorem hdg_4 : ∀ x ∈ [n_M_isSound, n_M_digest, n_ASB_new, n_ASB_length, n_ASB_ensureCapacityInternal, n_ASB_newCapacity, n_ASB_append_T, n_ASB_append_C, n_ASB_append_I, n_ASB_append_J, n_ASB_reverse, n_ASB_getValue, n_ASB_isLatin1, n_ASB_inflateIfNeededFor, n_ASB_putStringAt, n_INT_getChars, n_INT_stringSize, n_LNG_getChars, n_LNG_stringSize, n_MA_floorDiv, n_MA_abs, n_MA_max_II, n_MA_max_JJ, n_MA_min_II, n_MA_min_JJ, n_STR_new_Q, n_STR_length, n_STR_getBytes, n_STR_new_QN, n_STR_coder, n_SB_new, n_SB_append_T, n_SB_append_C, n_SB_append_I, n_SB_append_J, n_SB_reverse, n_SB_toString, n_SB_length, n_L1_canEncode, n_ARR_copyOf], headw x ∈ lT := List.forall_mem_cons.mpr ⟨hdi_M_isSound, List.forall_mem_cons.mpr ⟨hdi_M_digest, List.forall_mem_cons.mpr ⟨hdi_ASB_new, List.forall_mem_cons.mpr ⟨hdi_ASB_length, List.forall_mem_cons.mpr ⟨hdi_ASB_ensureCapacityInternal, List.forall_mem_cons.mpr ⟨hdi_ASB_newCapacity, List.forall_mem_cons.mpr ⟨hdi_ASB_append_T, List.forall_mem_cons.mpr ⟨hdi_ASB_append_C, List.forall_mem_cons.mpr ⟨hdi_ASB_append_I, List.forall_mem_cons.mpr ⟨hdi_ASB_append_J, List.forall_mem_cons.mpr ⟨hdi_ASB_reverse, List.forall_mem_cons.mpr ⟨hdi_ASB_getValue, List.forall_mem_cons.mpr ⟨hdi_ASB_isLatin1, List.forall_mem_cons.mpr ⟨hdi_ASB_inflateIfNeededFor, List.forall_mem_cons.mpr ⟨hdi_ASB_putStringAt, List.forall_mem_cons.mpr ⟨hdi_INT_getChars, List.forall_mem_cons.mpr ⟨hdi_INT_stringSize, List.forall_mem_cons.mpr ⟨hdi_LNG_getChars, List.forall_mem_cons.mpr ⟨hdi_LNG_stringSize, List.forall_mem_cons.mpr ⟨hdi_MA_floorDiv, List.forall_mem_cons.mpr ⟨hdi_MA_abs, List.forall_mem_cons.mpr ⟨hdi_MA_max_II, List.forall_mem_cons.mpr ⟨hdi_MA_max_JJ, List.forall_mem_cons.mpr ⟨hdi_MA_min_II, List.forall_mem_cons.mpr ⟨hdi_MA_min_JJ, List.forall_mem_cons.mpr ⟨hdi_STR_new_Q, List.forall_mem_cons.mpr ⟨hdi_STR_length, List.forall_mem_cons.mpr ⟨hdi_STR_getBytes, List.forall_mem_cons.mpr ⟨hdi_STR_new_QN, List.forall_mem_cons.mpr ⟨hdi_STR_coder, List.forall_mem_cons.mpr ⟨hdi_SB_new, List.forall_mem_cons.mpr ⟨hdi_SB_append_T, List.forall_mem_cons.mpr ⟨hdi_SB_append_C, List.forall_mem_cons.mpr ⟨hdi_SB_append_I, List.forall_mem_cons.mpr ⟨hdi_SB_append_J, List.forall_mem_cons.mpr ⟨hdi_SB_reverse, List.forall_mem_cons.mpr ⟨hdi_SB_toString, List.forall_mem_cons.mpr ⟨hdi_SB_length, List.forall_mem_cons.mpr ⟨hdi_L1_canEncode, List.forall_mem_cons.mpr ⟨hdi_ARR_copyOf, fun _ h => nomatch h⟩⟩⟩⟩⟩⟩⟩⟩⟩⟩⟩⟩⟩⟩⟩⟩⟩⟩⟩⟩⟩⟩⟩⟩⟩⟩⟩⟩⟩⟩⟩⟩⟩⟩⟩⟩⟩⟩⟩⟩
theorem hdg_5 : ∀ x ∈ [n_ARR_checkLength, n_ARR_copyOfRange, n_ARR_copyOfRangeByte, n_AS_newLength, n_K_put, n_K_copy, n_K_widen, n_K_narrow, n_K_exact, n_K_fits, n_K_alone, n_K_timesInt, n_K_full, n_K_high, n_K_round, n_K_abs, n_K_extreme, n_K_floor, n_K_floorInt, n_K_towards, n_K_average, n_K_chain, n_K_atOnce, n_K_distance, n_K_compare, n_K_text, n_K_ofNumber, n_K_rest, n_K_quotient, n_K_modulus, n_K_bring, n_K_lift, n_K_plus, n_K_times, n_K_power, n_K_inverse, n_K_isUnit, n_K_residue, n_K_ringText, n_K_areAlike], headw x ∈ lT := List.forall_mem_cons.mpr ⟨hdi_ARR_checkLength, List.forall_mem_cons.mpr ⟨hdi_ARR_copyOfRange, List.forall_mem_cons.mpr ⟨hdi_ARR_copyOfRangeByte, List.forall_mem_cons.mpr ⟨hdi_AS_newLength, List.forall_mem_cons.mpr ⟨hdi_K_put, List.forall_mem_cons.mpr ⟨hdi_K_copy, List.forall_mem_cons.mpr ⟨hdi_K_widen, List.forall_mem_cons.mpr ⟨hdi_K_narrow, List.forall_mem_cons.mpr ⟨hdi_K_exact, List.forall_mem_cons.mpr ⟨hdi_K_fits, List.forall_mem_cons.mpr ⟨hdi_K_alone, List.forall_mem_cons.mpr ⟨hdi_K_timesInt, List.forall_mem_cons.mpr ⟨hdi_K_full, List.forall_mem_cons.mpr ⟨hdi_K_high, List.forall_mem_cons.mpr ⟨hdi_K_round, List.forall_mem_cons.mpr ⟨hdi_K_abs, List.forall_mem_cons.mpr ⟨hdi_K_extreme, List.forall_mem_cons.mpr ⟨hdi_K_floor, List.forall_mem_cons.mpr ⟨hdi_K_floorInt, List.forall_mem_cons.mpr ⟨hdi_K_towards, List.forall_mem_cons.mpr ⟨hdi_K_average, List.forall_mem_cons.mpr ⟨hdi_K_chain, List.forall_mem_cons.mpr ⟨hdi_K_atOnce, List.forall_mem_cons.mpr ⟨hdi_K_distance, List.forall_mem_cons.mpr ⟨hdi_K_compare, List.forall_mem_cons.mpr ⟨hdi_K_text, List.forall_mem_cons.mpr ⟨hdi_K_ofNumber, List.forall_mem_cons.mpr ⟨hdi_K_rest, List.forall_mem_cons.mpr ⟨hdi_K_quotient, List.forall_mem_cons.mpr ⟨hdi_K_modulus, List.forall_mem_cons.mpr ⟨hdi_K_bring, List.forall_mem_cons.mpr ⟨hdi_K_lift, List.forall_mem_cons.mpr ⟨hdi_K_plus, List.forall_mem_cons.mpr ⟨hdi_K_times, List.forall_mem_cons.mpr ⟨hdi_K_power, List.forall_mem_cons.mpr ⟨hdi_K_inverse, List.forall_mem_cons.mpr ⟨hdi_K_isUnit, List.forall_mem_cons.mpr ⟨hdi_K_residue, List.forall_mem_cons.mpr ⟨hdi_K_ringText, List.forall_mem_cons.mpr ⟨hdi_K_areAlike, fun _ h => nomatch h⟩⟩⟩⟩⟩⟩⟩⟩⟩⟩⟩⟩⟩⟩⟩⟩⟩⟩⟩⟩⟩⟩⟩⟩⟩⟩⟩⟩⟩⟩⟩⟩⟩⟩⟩⟩⟩⟩⟩⟩
theorem hdg_6 : ∀ x ∈ [n_K_together, n_K_common, n_K_house], headw x ∈ lT := List.forall_mem_cons.mpr ⟨hdi_K_together, List.forall_mem_cons.mpr ⟨hdi_K_common, List.forall_mem_cons.mpr ⟨hdi_K_house, fun _ h => nomatch h⟩⟩⟩
def hdN : Nat := 243
theorem hd_sp : ∀ x, x < hdN → x ∈ [n_D_ofSigned, n_D_ofUnsigned, n_D_appendBackwards, n_D_countOf, n_A_holdForPair, n_A_holdForAverages, n_A_holdForFloor, n_A_holdForTowards, n_A_holdForProduct, n_A_holdForResidue, n_A_keepResidues, n_A_holdForMeeting, n_R_sizeOf, n_R_residueOf, n_R_raised, n_R_greatestDivisor, n_R_hasInverse, n_R_inverseOf, n_R_inverseBelow, n_R_meetingOf, n_W_order, n_W_isWithin, n_W_goneRound, n_W_edge, n_W_joined, n_W_isExact, n_W_isTrue, n_W_upperHalf, n_W_averageOf, n_W_floorOf, n_W_restOf, n_W_quotientTowards, n_W_restTowards, n_W_chained, n_X_new, n_X_put, n_X_copy, n_X_widen, n_X_narrow, n_X_exact] ∨ x ∈ [n_X_fits, n_X_alone, n_X_timesInt, n_X_full, n_X_high, n_X_round, n_X_abs, n_X_extreme, n_X_floor, n_X_floorInt, n_X_towards, n_X_average, n_X_chain, n_X_atOnce, n_X_distance, n_X_compare, n_X_text, n_X_ofNumber, n_X_rest, n_X_quotient, n_X_modulus, n_X_bring, n_X_lift, n_X_plus, n_X_times, n_X_power, n_X_inverse, n_X_isUnit, n_X_residue, n_X_ringText, n_X_areAlike, n_X_together, n_X_common, n_X_house, n_X_knock, n_X_isSound, n_X_digest, n_X_needIndex, n_X_needChoice, n_X_needNotZero] ∨ x ∈ [n_X_needDivisors, n_X_numberAt, n_X_modulusAt, n_X_residueAt, n_X_refuse, n_X_keep, n_X_keepRound, n_X_keepExact, n_X_keepFloor, n_X_keepResidue, n_X_countZeros, n_X_countUnits, n_X_digestNumbers, n_X_areNumbersSound, n_X_areRingsSound, n_X_areMeetingsSound, n_O_new, n_M_new, n_M_thrown, n_M_refuse, n_M_start, n_M_isNo, n_M_isNoRing, n_M_no, n_M_sign, n_M_now, n_M_become, n_M_above, n_M_both, n_M_isWithin, n_M_floorOf, n_M_restOf, n_M_gcd, n_M_against, n_M_put, n_M_copy, n_M_widen, n_M_narrow, n_M_exact, n_M_fits] ∨ x ∈ [n_M_alone, n_M_timesInt, n_M_full, n_M_high, n_M_round, n_M_abs, n_M_extreme, n_M_floor, n_M_floorInt, n_M_towards, n_M_average, n_M_areWrong, n_M_chain, n_M_atOnce, n_M_plain, n_M_distance, n_M_compare, n_M_text, n_M_ofNow, n_M_ofNumber, n_M_rest, n_M_quotient, n_M_come, n_M_modulus, n_M_bring, n_M_lift, n_M_plus, n_M_times, n_M_power, n_M_isUnitNow, n_M_inverse, n_M_isUnit, n_M_residue, n_M_ringText, n_M_areAlike, n_M_together, n_M_common, n_M_houseNow, n_M_house, n_M_knock] ∨ x ∈ [n_M_isSound, n_M_digest, n_ASB_new, n_ASB_length, n_ASB_ensureCapacityInternal, n_ASB_newCapacity, n_ASB_append_T, n_ASB_append_C, n_ASB_append_I, n_ASB_append_J, n_ASB_reverse, n_ASB_getValue, n_ASB_isLatin1, n_ASB_inflateIfNeededFor, n_ASB_putStringAt, n_INT_getChars, n_INT_stringSize, n_LNG_getChars, n_LNG_stringSize, n_MA_floorDiv, n_MA_abs, n_MA_max_II, n_MA_max_JJ, n_MA_min_II, n_MA_min_JJ, n_STR_new_Q, n_STR_length, n_STR_getBytes, n_STR_new_QN, n_STR_coder, n_SB_new, n_SB_append_T, n_SB_append_C, n_SB_append_I, n_SB_append_J, n_SB_reverse, n_SB_toString, n_SB_length, n_L1_canEncode, n_ARR_copyOf] ∨ x ∈ [n_ARR_checkLength, n_ARR_copyOfRange, n_ARR_copyOfRangeByte, n_AS_newLength, n_K_put, n_K_copy, n_K_widen, n_K_narrow, n_K_exact, n_K_fits, n_K_alone, n_K_timesInt, n_K_full, n_K_high, n_K_round, n_K_abs, n_K_extreme, n_K_floor, n_K_floorInt, n_K_towards, n_K_average, n_K_chain, n_K_atOnce, n_K_distance, n_K_compare, n_K_text, n_K_ofNumber, n_K_rest, n_K_quotient, n_K_modulus, n_K_bring, n_K_lift, n_K_plus, n_K_times, n_K_power, n_K_inverse, n_K_isUnit, n_K_residue, n_K_ringText, n_K_areAlike] ∨ x ∈ [n_K_together, n_K_common, n_K_house] := by decide +kernel
theorem hd_gd : (List.range hdN).all (fun x => okK 0 (headw x)) = true := by decide +kernel
theorem hd_all {x : Nat} (h : x < hdN) : headw x ∈ lT ∧ okK 0 (headw x) = true := by
  refine ⟨?_, List.all_eq_true.mp hd_gd x (List.mem_range.mpr h)⟩
  rcases hd_sp x h with h | h | h | h | h | h | h
  · exact hdg_0 x h
  · exact hdg_1 x h
  · exact hdg_2 x h
  · exact hdg_3 x h
  · exact hdg_4 x h
  · exact hdg_5 x h
  · exact hdg_6 x h
theorem hd_oi : Jvm.Cond.code Lib.objectInit ⟨#[0xb1]⟩ 1 none ∈ lT ∧ okK 0 (Jvm.Cond.code Lib.objectInit ⟨#[0xb1]⟩ 1 none) = true := by decide +kernel
def hdF (w : Jvm.Cond) : Bool := match w with | .code _ _ _ _ => true | .codeWith _ _ _ _ _ => true | _ => false
theorem hd_in (a : Nat) (i : Instr) (x y z : Nat) : ∀ q ∈ lnW a i x y z, hdF q.2 = true → q = (0, headw x) ∨ q = (0, headw n_ASB_length) ∨ q = (0, .code Lib.objectInit ⟨#[0xb1]⟩ 1 none) := by
  intro q hq hd
  unfold lnW at hq
  repeat' split at hq
  all_goals simp only [List.mem_cons, List.not_mem_nil, or_false] at hq
  all_goals repeat' refine Or.elim hq (fun hq => ?_) (fun hq => ?_)
  all_goals subst hq
  all_goals first | exact Or.inl rfl | exact Or.inr (Or.inl rfl) | exact Or.inr (Or.inr rfl) | exact Bool.noConfusion (show false = true from hd)
def wlF (a : Nat) (es : List Ent) : List (Nat × Jvm.Cond) := (es.flatMap (wlE a)).filter (fun q => !hdF q.2)
def hdC (a : Nat) (es : List Ent) : Bool := es.all (fun e => (wlE a e).all (fun q => !hdF q.2 || Nat.blt e.2.2.2.1 hdN))
def wd (a : Nat) (es : List Ent) (ps : List (Nat × Nat)) : Bool := hdC a es && (decide ((wlF a es).map (fun q => some q.2) = ps.map get2) && (wlF a es).all (fun q => okK q.1 q.2))
theorem wd_ok {a : Nat} {es : List Ent} {ps : List (Nat × Nat)} (h : wd a es ps = true) : ∀ e ∈ es, ∀ q ∈ wlE a e, q.2 ∈ lT ∧ okK q.1 q.2 = true := by
  unfold wd at h
  simp only [Bool.and_eq_true, decide_eq_true_eq] at h
  obtain ⟨h1, h2, h3⟩ := h
  intro e he q hq
  by_cases hd : hdF q.2 = true
  · have hx := List.all_eq_true.mp (List.all_eq_true.mp h1 e he) q hq
    rw [hd] at hx
    have hx : Nat.blt e.2.2.2.1 hdN = true := hx
    have hx : e.2.2.2.1 < hdN := Nat.le_of_ble_eq_true hx
    rcases hd_in a _ _ _ _ q hq hd with e1 | e1 | e1
    · rw [e1]
      exact hd_all hx
    · rw [e1]
      exact hd_all (x := n_ASB_length) (by decide)
    · rw [e1]
      exact hd_oi
  · have hq2 : q ∈ wlF a es := List.mem_filter.mpr ⟨List.mem_flatMap.mpr ⟨e, he, hq⟩, by
      cases hb : hdF q.2 with
      | true => exact absurd hb hd
      | false => rfl⟩
    refine ⟨?_, List.all_eq_true.mp h3 q hq2⟩
    have h4 : some q.2 ∈ (wlF a es).map (fun q => some q.2) := List.mem_map.mpr ⟨q, hq2, rfl⟩
    rw [h2] at h4
    obtain ⟨p, -, hp⟩ := List.mem_map.mp h4
    exact get2_in hp
