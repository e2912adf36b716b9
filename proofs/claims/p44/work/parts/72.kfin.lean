/-! WHERE EACH THING LIES, AND WHAT THE CONSTRUCTORS HAVE LEFT THERE -/
def kOffT : List Nat := [134, 135, 136, 137, 138, 139, 140, 141, 142, 143, 144, 145, 146, 147, 0, 125, 91, 92, 93, 94, 95, 108, 121, 122, 123, 124, 1, 31, 61, 2, 32, 62, 15, 45, 75, 28, 58, 88, 29, 59, 89, 30, 60, 90, 126, 128, 130, 132, 127, 129, 131, 133, 3, 4, 5, 6, 7, 8, 9, 10, 11, 12, 13, 14, 33, 34, 35, 36, 37, 38, 39, 40, 41, 42, 43, 44, 63, 64, 65, 66, 67, 68, 69, 70, 71, 72, 73, 74, 16, 17, 18, 19, 20, 21, 22, 23, 24, 25, 26, 27, 46, 47, 48, 49, 50, 51, 52, 53, 54, 55, 56, 57, 76, 77, 78, 79, 80, 81, 82, 83, 84, 85, 86, 87, 96, 97, 98, 99, 100, 101, 102, 103, 104, 105, 106, 107, 109, 110, 111, 112, 113, 114, 115, 116, 117, 118, 119, 120]
def kInvT : List Nat := [14, 26, 29, 52, 53, 54, 55, 56, 57, 58, 59, 60, 61, 62, 63, 32, 88, 89, 90, 91, 92, 93, 94, 95, 96, 97, 98, 99, 35, 38, 41, 27, 30, 64, 65, 66, 67, 68, 69, 70, 71, 72, 73, 74, 75, 33, 100, 101, 102, 103, 104, 105, 106, 107, 108, 109, 110, 111, 36, 39, 42, 28, 31, 76, 77, 78, 79, 80, 81, 82, 83, 84, 85, 86, 87, 34, 112, 113, 114, 115, 116, 117, 118, 119, 120, 121, 122, 123, 37, 40, 43, 16, 17, 18, 19, 20, 124, 125, 126, 127, 128, 129, 130, 131, 132, 133, 134, 135, 21, 136, 137, 138, 139, 140, 141, 142, 143, 144, 145, 146, 147, 22, 23, 24, 25, 15, 44, 48, 45, 49, 46, 50, 47, 51, 0, 1, 2, 3, 4, 5, 6, 7, 8, 9, 10, 11, 12, 13]
def kOff (k : Nat) : Nat := kOffT.getD k 0
theorem kOff_inv : ∀ k, k < 148 → kInvT.getD (kOff k) 0 = k := by decide +kernel
theorem kOff_inj {i j : Nat} (hi : i < 148) (hj : j < 148) (h : kOff i = kOff j) : i = j := by rw [← kOff_inv i hi, ← kOff_inv j hj, h]
def kAd (h b : Nat) (st aK aV : Nat → Nat) (k : Nat) : Nat := match Nat.ble k 147 with
  | true => h + kOff k
  | false => match Nat.beq k 148 with
    | true => b
    | false => match Nat.ble k 203 with
      | true => st (k - 200)
      | false => match Nat.ble k 319 with
        | true => aK (k - 300)
        | false => aV (k - 320)
def kG (D : va_G) (cI cA cS : ClassId) (h b L : Nat) (st aK aV : Nat → Nat) (xs : Nat → Int32) : mzG := (D, kAd h b st aK aV, cI, cA, cS, (fun j => (xs j).toInt), L)
def kmu (j : Nat) : Int := if j = 3 then 1 else if 308 ≤ j ∧ j < 308 + 10 then -1 else 0
def kMu (L : Nat) (xs : Nat → Int32) : mzM := fun k j => match Nat.beq k 1 with
  | true => kmu j
  | false => match (Nat.ble 26 k && Nat.ble k 28) with
    | true => (match Nat.beq j 4 with
      | true => 1
      | false => 0)
    | false => match (Nat.ble 41 k && Nat.ble k 43) with
      | true => -1
      | false => match Nat.beq k 148 with
        | true => (xs j).toInt
        | false => match Nat.beq k 149 with
          | true => (L : Int)
          | false => 0
def kAll (cI cA cS : ClassId) (h : Nat) : List va_E := kcl4 cI cA cS h 0 ++ kcl5 cI h (0 + 134)
section KF
variable {D : va_G} {cI cA cS : ClassId} {h b L : Nat} {st aK aV : Nat → Nat} {xs : Nat → Int32}
theorem kAd_lt {k : Nat} (hk : k < 148) : kAd h b st aK aV k = h + kOff k := by
  unfold kAd
  rw [Nat.ble_eq_true_of_le (show k ≤ 147 by omega)]
theorem kb_f {a b : Nat} (h : b < a) : Nat.ble a b = false := by
  cases e : Nat.ble a b with
  | false => rfl
  | true => have := Nat.le_of_ble_eq_true e; omega
theorem kq_f {a b : Nat} (h : a ≠ b) : Nat.beq a b = false := by
  cases e : Nat.beq a b with
  | false => rfl
  | true => exact absurd (Nat.eq_of_beq_eq_true e) h
theorem kAd_148 : kAd h b st aK aV 148 = b := rfl
theorem kAd_st {k : Nat} (hk : k < 3) : kAd h b st aK aV (200 + k) = st k := by
  unfold kAd
  rw [kb_f (show 147 < 200 + k by omega), kq_f (show 200 + k ≠ 148 by omega), Nat.ble_eq_true_of_le (show 200 + k ≤ 203 by omega), Nat.add_sub_cancel_left]
theorem kAd_aK {k : Nat} (hk : k < 14) : kAd h b st aK aV (300 + k) = aK k := by
  unfold kAd
  rw [kb_f (show 147 < 300 + k by omega), kq_f (show 300 + k ≠ 148 by omega), kb_f (show 203 < 300 + k by omega), Nat.ble_eq_true_of_le (show 300 + k ≤ 319 by omega), Nat.add_sub_cancel_left]
theorem kAd_aV {k : Nat} (hk : k < 14) : kAd h b st aK aV (320 + k) = aV k := by
  unfold kAd
  rw [kb_f (show 147 < 320 + k by omega), kq_f (show 320 + k ≠ 148 by omega), kb_f (show 203 < 320 + k by omega), kb_f (show 319 < 320 + k by omega), Nat.add_sub_cancel_left]
theorem kA_in {q : Nat} (z : mzA (kG D cI cA cS h b L st aK aV xs) q) : gvA h q := by
  obtain ⟨k, hk, e⟩ := z
  have e : q = kAd h b st aK aV k := e
  rw [e, kAd_lt hk]
  exact Nat.le_add_right _ _
theorem kRow {a f : Nat} (hf : f + 12 ≤ 148) (e : ∀ j, j < 12 → kOff (f + j) = a + 1 + j) : (fun j => if j < 12 then some (h + a + 1 + j) else none) = mzRow (kG D cI cA cS h b L st aK aV xs) 12 f := by
  funext j
  unfold mzRow
  by_cases hj : j < 12
  · rw [if_pos hj, if_pos hj]
    show some _ = some (kAd h b st aK aV (f + j))
    rw [kAd_lt (by omega), e j hj]
    exact congrArg some (by omega)
  · rw [if_neg hj, if_neg hj]
theorem kRow4 : va_up (va_up (va_up (va_up (fun _ => none) 0 (some (h + (0 + 126)))) 1 (some (h + (0 + 128)))) 2 (some (h + (0 + 130)))) 3 (some (h + (0 + 132))) = mzRow (kG D cI cA cS h b L st aK aV xs) 4 44 := by
  funext j
  match j with
  | 0 => rfl
  | 1 => rfl
  | 2 => rfl
  | 3 => rfl
  | j + 4 =>
    unfold mzRow
    rw [if_neg (by omega)]
    simp [va_up]
theorem fe_0 : (kAll cI cA cS h)[134]? = some (mzEnt (kG D cI cA cS h b L st aK aV xs) (kMu L xs) 0) := rfl
theorem fe_1 : (kAll cI cA cS h)[135]? = some (mzEnt (kG D cI cA cS h b L st aK aV xs) (kMu L xs) 1) := rfl
theorem fe_2 : (kAll cI cA cS h)[136]? = some (mzEnt (kG D cI cA cS h b L st aK aV xs) (kMu L xs) 2) := rfl
theorem fe_3 : (kAll cI cA cS h)[137]? = some (mzEnt (kG D cI cA cS h b L st aK aV xs) (kMu L xs) 3) := rfl
theorem fe_4 : (kAll cI cA cS h)[138]? = some (mzEnt (kG D cI cA cS h b L st aK aV xs) (kMu L xs) 4) := rfl
theorem fe_5 : (kAll cI cA cS h)[139]? = some (mzEnt (kG D cI cA cS h b L st aK aV xs) (kMu L xs) 5) := rfl
theorem fe_6 : (kAll cI cA cS h)[140]? = some (mzEnt (kG D cI cA cS h b L st aK aV xs) (kMu L xs) 6) := rfl
theorem fe_7 : (kAll cI cA cS h)[141]? = some (mzEnt (kG D cI cA cS h b L st aK aV xs) (kMu L xs) 7) := rfl
theorem fe_8 : (kAll cI cA cS h)[142]? = some (mzEnt (kG D cI cA cS h b L st aK aV xs) (kMu L xs) 8) := rfl
theorem fe_9 : (kAll cI cA cS h)[143]? = some (mzEnt (kG D cI cA cS h b L st aK aV xs) (kMu L xs) 9) := rfl
theorem fe_10 : (kAll cI cA cS h)[144]? = some (mzEnt (kG D cI cA cS h b L st aK aV xs) (kMu L xs) 10) := rfl
theorem fe_11 : (kAll cI cA cS h)[145]? = some (mzEnt (kG D cI cA cS h b L st aK aV xs) (kMu L xs) 11) := rfl
theorem fe_12 : (kAll cI cA cS h)[146]? = some (mzEnt (kG D cI cA cS h b L st aK aV xs) (kMu L xs) 12) := rfl
theorem fe_13 : (kAll cI cA cS h)[147]? = some (mzEnt (kG D cI cA cS h b L st aK aV xs) (kMu L xs) 13) := rfl
theorem fe_14 : (kAll cI cA cS h)[0]? = some (mzEnt (kG D cI cA cS h b L st aK aV xs) (kMu L xs) 14) := rfl
theorem fe_15 : (kAll cI cA cS h)[125]? = some (mzEnt (kG D cI cA cS h b L st aK aV xs) (kMu L xs) 15) := rfl
theorem fe_16 : (kAll cI cA cS h)[91]? = some (mzEnt (kG D cI cA cS h b L st aK aV xs) (kMu L xs) 16) := rfl
theorem fe_17 : (kAll cI cA cS h)[92]? = some (mzEnt (kG D cI cA cS h b L st aK aV xs) (kMu L xs) 17) := rfl
theorem fe_18 : (kAll cI cA cS h)[93]? = some (mzEnt (kG D cI cA cS h b L st aK aV xs) (kMu L xs) 18) := rfl
theorem fe_19 : (kAll cI cA cS h)[94]? = some (mzEnt (kG D cI cA cS h b L st aK aV xs) (kMu L xs) 19) := rfl
theorem fe_20 : (kAll cI cA cS h)[95]? = some (mzEnt (kG D cI cA cS h b L st aK aV xs) (kMu L xs) 20) := congrArg (fun z => some (Sum.inl (cA, 12, Sum.inr (Sum.inr (Sum.inr (Sum.inr z)))))) (kRow (a := (0 + 91 + 4)) (f := 124) (by decide) (by decide +kernel))
theorem fe_21 : (kAll cI cA cS h)[108]? = some (mzEnt (kG D cI cA cS h b L st aK aV xs) (kMu L xs) 21) := congrArg (fun z => some (Sum.inl (cA, 12, Sum.inr (Sum.inr (Sum.inr (Sum.inr z)))))) (kRow (a := (0 + 91 + 17)) (f := 136) (by decide) (by decide +kernel))
theorem fe_22 : (kAll cI cA cS h)[121]? = some (mzEnt (kG D cI cA cS h b L st aK aV xs) (kMu L xs) 22) := rfl
theorem fe_23 : (kAll cI cA cS h)[122]? = some (mzEnt (kG D cI cA cS h b L st aK aV xs) (kMu L xs) 23) := rfl
theorem fe_24 : (kAll cI cA cS h)[123]? = some (mzEnt (kG D cI cA cS h b L st aK aV xs) (kMu L xs) 24) := rfl
theorem fe_25 : (kAll cI cA cS h)[124]? = some (mzEnt (kG D cI cA cS h b L st aK aV xs) (kMu L xs) 25) := congrArg (fun z => some (Sum.inl (cS, 4, Sum.inr (Sum.inr (Sum.inr (Sum.inr z)))))) kRow4
theorem fe_26 : (kAll cI cA cS h)[1]? = some (mzEnt (kG D cI cA cS h b L st aK aV xs) (kMu L xs) 26) := rfl
theorem fe_27 : (kAll cI cA cS h)[31]? = some (mzEnt (kG D cI cA cS h b L st aK aV xs) (kMu L xs) 27) := rfl
theorem fe_28 : (kAll cI cA cS h)[61]? = some (mzEnt (kG D cI cA cS h b L st aK aV xs) (kMu L xs) 28) := rfl
theorem fe_29 : (kAll cI cA cS h)[2]? = some (mzEnt (kG D cI cA cS h b L st aK aV xs) (kMu L xs) 29) := congrArg (fun z => some (Sum.inl (cA, 12, Sum.inr (Sum.inr (Sum.inr (Sum.inr z)))))) (kRow (a := (0 + 1 + 1)) (f := 52) (by decide) (by decide +kernel))
theorem fe_30 : (kAll cI cA cS h)[32]? = some (mzEnt (kG D cI cA cS h b L st aK aV xs) (kMu L xs) 30) := congrArg (fun z => some (Sum.inl (cA, 12, Sum.inr (Sum.inr (Sum.inr (Sum.inr z)))))) (kRow (a := (0 + 31 + 1)) (f := 64) (by decide) (by decide +kernel))
theorem fe_31 : (kAll cI cA cS h)[62]? = some (mzEnt (kG D cI cA cS h b L st aK aV xs) (kMu L xs) 31) := congrArg (fun z => some (Sum.inl (cA, 12, Sum.inr (Sum.inr (Sum.inr (Sum.inr z)))))) (kRow (a := (0 + 61 + 1)) (f := 76) (by decide) (by decide +kernel))
theorem fe_32 : (kAll cI cA cS h)[15]? = some (mzEnt (kG D cI cA cS h b L st aK aV xs) (kMu L xs) 32) := congrArg (fun z => some (Sum.inl (cA, 12, Sum.inr (Sum.inr (Sum.inr (Sum.inr z)))))) (kRow (a := (0 + 1 + 14)) (f := 88) (by decide) (by decide +kernel))
theorem fe_33 : (kAll cI cA cS h)[45]? = some (mzEnt (kG D cI cA cS h b L st aK aV xs) (kMu L xs) 33) := congrArg (fun z => some (Sum.inl (cA, 12, Sum.inr (Sum.inr (Sum.inr (Sum.inr z)))))) (kRow (a := (0 + 31 + 14)) (f := 100) (by decide) (by decide +kernel))
theorem fe_34 : (kAll cI cA cS h)[75]? = some (mzEnt (kG D cI cA cS h b L st aK aV xs) (kMu L xs) 34) := congrArg (fun z => some (Sum.inl (cA, 12, Sum.inr (Sum.inr (Sum.inr (Sum.inr z)))))) (kRow (a := (0 + 61 + 14)) (f := 112) (by decide) (by decide +kernel))
theorem fe_35 : (kAll cI cA cS h)[28]? = some (mzEnt (kG D cI cA cS h b L st aK aV xs) (kMu L xs) 35) := rfl
theorem fe_36 : (kAll cI cA cS h)[58]? = some (mzEnt (kG D cI cA cS h b L st aK aV xs) (kMu L xs) 36) := rfl
theorem fe_37 : (kAll cI cA cS h)[88]? = some (mzEnt (kG D cI cA cS h b L st aK aV xs) (kMu L xs) 37) := rfl
theorem fe_38 : (kAll cI cA cS h)[29]? = some (mzEnt (kG D cI cA cS h b L st aK aV xs) (kMu L xs) 38) := rfl
theorem fe_39 : (kAll cI cA cS h)[59]? = some (mzEnt (kG D cI cA cS h b L st aK aV xs) (kMu L xs) 39) := rfl
theorem fe_40 : (kAll cI cA cS h)[89]? = some (mzEnt (kG D cI cA cS h b L st aK aV xs) (kMu L xs) 40) := rfl
theorem fe_41 : (kAll cI cA cS h)[30]? = some (mzEnt (kG D cI cA cS h b L st aK aV xs) (kMu L xs) 41) := rfl
theorem fe_42 : (kAll cI cA cS h)[60]? = some (mzEnt (kG D cI cA cS h b L st aK aV xs) (kMu L xs) 42) := rfl
theorem fe_43 : (kAll cI cA cS h)[90]? = some (mzEnt (kG D cI cA cS h b L st aK aV xs) (kMu L xs) 43) := rfl
theorem fe_44 : (kAll cI cA cS h)[126]? = some (mzEnt (kG D cI cA cS h b L st aK aV xs) (kMu L xs) 44) := rfl
theorem fe_45 : (kAll cI cA cS h)[128]? = some (mzEnt (kG D cI cA cS h b L st aK aV xs) (kMu L xs) 45) := rfl
theorem fe_46 : (kAll cI cA cS h)[130]? = some (mzEnt (kG D cI cA cS h b L st aK aV xs) (kMu L xs) 46) := rfl
theorem fe_47 : (kAll cI cA cS h)[132]? = some (mzEnt (kG D cI cA cS h b L st aK aV xs) (kMu L xs) 47) := rfl
theorem fe_48 : (kAll cI cA cS h)[127]? = some (mzEnt (kG D cI cA cS h b L st aK aV xs) (kMu L xs) 48) := rfl
theorem fe_49 : (kAll cI cA cS h)[129]? = some (mzEnt (kG D cI cA cS h b L st aK aV xs) (kMu L xs) 49) := rfl
theorem fe_50 : (kAll cI cA cS h)[131]? = some (mzEnt (kG D cI cA cS h b L st aK aV xs) (kMu L xs) 50) := rfl
theorem fe_51 : (kAll cI cA cS h)[133]? = some (mzEnt (kG D cI cA cS h b L st aK aV xs) (kMu L xs) 51) := rfl
theorem fe_52 : (kAll cI cA cS h)[3]? = some (mzEnt (kG D cI cA cS h b L st aK aV xs) (kMu L xs) 52) := rfl
theorem fe_53 : (kAll cI cA cS h)[4]? = some (mzEnt (kG D cI cA cS h b L st aK aV xs) (kMu L xs) 53) := rfl
theorem fe_54 : (kAll cI cA cS h)[5]? = some (mzEnt (kG D cI cA cS h b L st aK aV xs) (kMu L xs) 54) := rfl
theorem fe_55 : (kAll cI cA cS h)[6]? = some (mzEnt (kG D cI cA cS h b L st aK aV xs) (kMu L xs) 55) := rfl
theorem fe_56 : (kAll cI cA cS h)[7]? = some (mzEnt (kG D cI cA cS h b L st aK aV xs) (kMu L xs) 56) := rfl
theorem fe_57 : (kAll cI cA cS h)[8]? = some (mzEnt (kG D cI cA cS h b L st aK aV xs) (kMu L xs) 57) := rfl
theorem fe_58 : (kAll cI cA cS h)[9]? = some (mzEnt (kG D cI cA cS h b L st aK aV xs) (kMu L xs) 58) := rfl
theorem fe_59 : (kAll cI cA cS h)[10]? = some (mzEnt (kG D cI cA cS h b L st aK aV xs) (kMu L xs) 59) := rfl
theorem fe_60 : (kAll cI cA cS h)[11]? = some (mzEnt (kG D cI cA cS h b L st aK aV xs) (kMu L xs) 60) := rfl
theorem fe_61 : (kAll cI cA cS h)[12]? = some (mzEnt (kG D cI cA cS h b L st aK aV xs) (kMu L xs) 61) := rfl
theorem fe_62 : (kAll cI cA cS h)[13]? = some (mzEnt (kG D cI cA cS h b L st aK aV xs) (kMu L xs) 62) := rfl
theorem fe_63 : (kAll cI cA cS h)[14]? = some (mzEnt (kG D cI cA cS h b L st aK aV xs) (kMu L xs) 63) := rfl
theorem fe_64 : (kAll cI cA cS h)[33]? = some (mzEnt (kG D cI cA cS h b L st aK aV xs) (kMu L xs) 64) := rfl
theorem fe_65 : (kAll cI cA cS h)[34]? = some (mzEnt (kG D cI cA cS h b L st aK aV xs) (kMu L xs) 65) := rfl
theorem fe_66 : (kAll cI cA cS h)[35]? = some (mzEnt (kG D cI cA cS h b L st aK aV xs) (kMu L xs) 66) := rfl
theorem fe_67 : (kAll cI cA cS h)[36]? = some (mzEnt (kG D cI cA cS h b L st aK aV xs) (kMu L xs) 67) := rfl
theorem fe_68 : (kAll cI cA cS h)[37]? = some (mzEnt (kG D cI cA cS h b L st aK aV xs) (kMu L xs) 68) := rfl
theorem fe_69 : (kAll cI cA cS h)[38]? = some (mzEnt (kG D cI cA cS h b L st aK aV xs) (kMu L xs) 69) := rfl
theorem fe_70 : (kAll cI cA cS h)[39]? = some (mzEnt (kG D cI cA cS h b L st aK aV xs) (kMu L xs) 70) := rfl
theorem fe_71 : (kAll cI cA cS h)[40]? = some (mzEnt (kG D cI cA cS h b L st aK aV xs) (kMu L xs) 71) := rfl
theorem fe_72 : (kAll cI cA cS h)[41]? = some (mzEnt (kG D cI cA cS h b L st aK aV xs) (kMu L xs) 72) := rfl
theorem fe_73 : (kAll cI cA cS h)[42]? = some (mzEnt (kG D cI cA cS h b L st aK aV xs) (kMu L xs) 73) := rfl
theorem fe_74 : (kAll cI cA cS h)[43]? = some (mzEnt (kG D cI cA cS h b L st aK aV xs) (kMu L xs) 74) := rfl
theorem fe_75 : (kAll cI cA cS h)[44]? = some (mzEnt (kG D cI cA cS h b L st aK aV xs) (kMu L xs) 75) := rfl
theorem fe_76 : (kAll cI cA cS h)[63]? = some (mzEnt (kG D cI cA cS h b L st aK aV xs) (kMu L xs) 76) := rfl
theorem fe_77 : (kAll cI cA cS h)[64]? = some (mzEnt (kG D cI cA cS h b L st aK aV xs) (kMu L xs) 77) := rfl
theorem fe_78 : (kAll cI cA cS h)[65]? = some (mzEnt (kG D cI cA cS h b L st aK aV xs) (kMu L xs) 78) := rfl
theorem fe_79 : (kAll cI cA cS h)[66]? = some (mzEnt (kG D cI cA cS h b L st aK aV xs) (kMu L xs) 79) := rfl
theorem fe_80 : (kAll cI cA cS h)[67]? = some (mzEnt (kG D cI cA cS h b L st aK aV xs) (kMu L xs) 80) := rfl
theorem fe_81 : (kAll cI cA cS h)[68]? = some (mzEnt (kG D cI cA cS h b L st aK aV xs) (kMu L xs) 81) := rfl
theorem fe_82 : (kAll cI cA cS h)[69]? = some (mzEnt (kG D cI cA cS h b L st aK aV xs) (kMu L xs) 82) := rfl
theorem fe_83 : (kAll cI cA cS h)[70]? = some (mzEnt (kG D cI cA cS h b L st aK aV xs) (kMu L xs) 83) := rfl
theorem fe_84 : (kAll cI cA cS h)[71]? = some (mzEnt (kG D cI cA cS h b L st aK aV xs) (kMu L xs) 84) := rfl
theorem fe_85 : (kAll cI cA cS h)[72]? = some (mzEnt (kG D cI cA cS h b L st aK aV xs) (kMu L xs) 85) := rfl
theorem fe_86 : (kAll cI cA cS h)[73]? = some (mzEnt (kG D cI cA cS h b L st aK aV xs) (kMu L xs) 86) := rfl
theorem fe_87 : (kAll cI cA cS h)[74]? = some (mzEnt (kG D cI cA cS h b L st aK aV xs) (kMu L xs) 87) := rfl
theorem fe_88 : (kAll cI cA cS h)[16]? = some (mzEnt (kG D cI cA cS h b L st aK aV xs) (kMu L xs) 88) := rfl
theorem fe_89 : (kAll cI cA cS h)[17]? = some (mzEnt (kG D cI cA cS h b L st aK aV xs) (kMu L xs) 89) := rfl
theorem fe_90 : (kAll cI cA cS h)[18]? = some (mzEnt (kG D cI cA cS h b L st aK aV xs) (kMu L xs) 90) := rfl
theorem fe_91 : (kAll cI cA cS h)[19]? = some (mzEnt (kG D cI cA cS h b L st aK aV xs) (kMu L xs) 91) := rfl
theorem fe_92 : (kAll cI cA cS h)[20]? = some (mzEnt (kG D cI cA cS h b L st aK aV xs) (kMu L xs) 92) := rfl
theorem fe_93 : (kAll cI cA cS h)[21]? = some (mzEnt (kG D cI cA cS h b L st aK aV xs) (kMu L xs) 93) := rfl
theorem fe_94 : (kAll cI cA cS h)[22]? = some (mzEnt (kG D cI cA cS h b L st aK aV xs) (kMu L xs) 94) := rfl
theorem fe_95 : (kAll cI cA cS h)[23]? = some (mzEnt (kG D cI cA cS h b L st aK aV xs) (kMu L xs) 95) := rfl
theorem fe_96 : (kAll cI cA cS h)[24]? = some (mzEnt (kG D cI cA cS h b L st aK aV xs) (kMu L xs) 96) := rfl
theorem fe_97 : (kAll cI cA cS h)[25]? = some (mzEnt (kG D cI cA cS h b L st aK aV xs) (kMu L xs) 97) := rfl
theorem fe_98 : (kAll cI cA cS h)[26]? = some (mzEnt (kG D cI cA cS h b L st aK aV xs) (kMu L xs) 98) := rfl
theorem fe_99 : (kAll cI cA cS h)[27]? = some (mzEnt (kG D cI cA cS h b L st aK aV xs) (kMu L xs) 99) := rfl
theorem fe_100 : (kAll cI cA cS h)[46]? = some (mzEnt (kG D cI cA cS h b L st aK aV xs) (kMu L xs) 100) := rfl
theorem fe_101 : (kAll cI cA cS h)[47]? = some (mzEnt (kG D cI cA cS h b L st aK aV xs) (kMu L xs) 101) := rfl
theorem fe_102 : (kAll cI cA cS h)[48]? = some (mzEnt (kG D cI cA cS h b L st aK aV xs) (kMu L xs) 102) := rfl
theorem fe_103 : (kAll cI cA cS h)[49]? = some (mzEnt (kG D cI cA cS h b L st aK aV xs) (kMu L xs) 103) := rfl
theorem fe_104 : (kAll cI cA cS h)[50]? = some (mzEnt (kG D cI cA cS h b L st aK aV xs) (kMu L xs) 104) := rfl
theorem fe_105 : (kAll cI cA cS h)[51]? = some (mzEnt (kG D cI cA cS h b L st aK aV xs) (kMu L xs) 105) := rfl
theorem fe_106 : (kAll cI cA cS h)[52]? = some (mzEnt (kG D cI cA cS h b L st aK aV xs) (kMu L xs) 106) := rfl
theorem fe_107 : (kAll cI cA cS h)[53]? = some (mzEnt (kG D cI cA cS h b L st aK aV xs) (kMu L xs) 107) := rfl
theorem fe_108 : (kAll cI cA cS h)[54]? = some (mzEnt (kG D cI cA cS h b L st aK aV xs) (kMu L xs) 108) := rfl
theorem fe_109 : (kAll cI cA cS h)[55]? = some (mzEnt (kG D cI cA cS h b L st aK aV xs) (kMu L xs) 109) := rfl
theorem fe_110 : (kAll cI cA cS h)[56]? = some (mzEnt (kG D cI cA cS h b L st aK aV xs) (kMu L xs) 110) := rfl
theorem fe_111 : (kAll cI cA cS h)[57]? = some (mzEnt (kG D cI cA cS h b L st aK aV xs) (kMu L xs) 111) := rfl
theorem fe_112 : (kAll cI cA cS h)[76]? = some (mzEnt (kG D cI cA cS h b L st aK aV xs) (kMu L xs) 112) := rfl
theorem fe_113 : (kAll cI cA cS h)[77]? = some (mzEnt (kG D cI cA cS h b L st aK aV xs) (kMu L xs) 113) := rfl
theorem fe_114 : (kAll cI cA cS h)[78]? = some (mzEnt (kG D cI cA cS h b L st aK aV xs) (kMu L xs) 114) := rfl
theorem fe_115 : (kAll cI cA cS h)[79]? = some (mzEnt (kG D cI cA cS h b L st aK aV xs) (kMu L xs) 115) := rfl
theorem fe_116 : (kAll cI cA cS h)[80]? = some (mzEnt (kG D cI cA cS h b L st aK aV xs) (kMu L xs) 116) := rfl
theorem fe_117 : (kAll cI cA cS h)[81]? = some (mzEnt (kG D cI cA cS h b L st aK aV xs) (kMu L xs) 117) := rfl
theorem fe_118 : (kAll cI cA cS h)[82]? = some (mzEnt (kG D cI cA cS h b L st aK aV xs) (kMu L xs) 118) := rfl
theorem fe_119 : (kAll cI cA cS h)[83]? = some (mzEnt (kG D cI cA cS h b L st aK aV xs) (kMu L xs) 119) := rfl
theorem fe_120 : (kAll cI cA cS h)[84]? = some (mzEnt (kG D cI cA cS h b L st aK aV xs) (kMu L xs) 120) := rfl
theorem fe_121 : (kAll cI cA cS h)[85]? = some (mzEnt (kG D cI cA cS h b L st aK aV xs) (kMu L xs) 121) := rfl
theorem fe_122 : (kAll cI cA cS h)[86]? = some (mzEnt (kG D cI cA cS h b L st aK aV xs) (kMu L xs) 122) := rfl
theorem fe_123 : (kAll cI cA cS h)[87]? = some (mzEnt (kG D cI cA cS h b L st aK aV xs) (kMu L xs) 123) := rfl
theorem fe_124 : (kAll cI cA cS h)[96]? = some (mzEnt (kG D cI cA cS h b L st aK aV xs) (kMu L xs) 124) := rfl
theorem fe_125 : (kAll cI cA cS h)[97]? = some (mzEnt (kG D cI cA cS h b L st aK aV xs) (kMu L xs) 125) := rfl
theorem fe_126 : (kAll cI cA cS h)[98]? = some (mzEnt (kG D cI cA cS h b L st aK aV xs) (kMu L xs) 126) := rfl
theorem fe_127 : (kAll cI cA cS h)[99]? = some (mzEnt (kG D cI cA cS h b L st aK aV xs) (kMu L xs) 127) := rfl
theorem fe_128 : (kAll cI cA cS h)[100]? = some (mzEnt (kG D cI cA cS h b L st aK aV xs) (kMu L xs) 128) := rfl
theorem fe_129 : (kAll cI cA cS h)[101]? = some (mzEnt (kG D cI cA cS h b L st aK aV xs) (kMu L xs) 129) := rfl
theorem fe_130 : (kAll cI cA cS h)[102]? = some (mzEnt (kG D cI cA cS h b L st aK aV xs) (kMu L xs) 130) := rfl
theorem fe_131 : (kAll cI cA cS h)[103]? = some (mzEnt (kG D cI cA cS h b L st aK aV xs) (kMu L xs) 131) := rfl
theorem fe_132 : (kAll cI cA cS h)[104]? = some (mzEnt (kG D cI cA cS h b L st aK aV xs) (kMu L xs) 132) := rfl
theorem fe_133 : (kAll cI cA cS h)[105]? = some (mzEnt (kG D cI cA cS h b L st aK aV xs) (kMu L xs) 133) := rfl
theorem fe_134 : (kAll cI cA cS h)[106]? = some (mzEnt (kG D cI cA cS h b L st aK aV xs) (kMu L xs) 134) := rfl
theorem fe_135 : (kAll cI cA cS h)[107]? = some (mzEnt (kG D cI cA cS h b L st aK aV xs) (kMu L xs) 135) := rfl
theorem fe_136 : (kAll cI cA cS h)[109]? = some (mzEnt (kG D cI cA cS h b L st aK aV xs) (kMu L xs) 136) := rfl
theorem fe_137 : (kAll cI cA cS h)[110]? = some (mzEnt (kG D cI cA cS h b L st aK aV xs) (kMu L xs) 137) := rfl
theorem fe_138 : (kAll cI cA cS h)[111]? = some (mzEnt (kG D cI cA cS h b L st aK aV xs) (kMu L xs) 138) := rfl
theorem fe_139 : (kAll cI cA cS h)[112]? = some (mzEnt (kG D cI cA cS h b L st aK aV xs) (kMu L xs) 139) := rfl
theorem fe_140 : (kAll cI cA cS h)[113]? = some (mzEnt (kG D cI cA cS h b L st aK aV xs) (kMu L xs) 140) := rfl
theorem fe_141 : (kAll cI cA cS h)[114]? = some (mzEnt (kG D cI cA cS h b L st aK aV xs) (kMu L xs) 141) := rfl
theorem fe_142 : (kAll cI cA cS h)[115]? = some (mzEnt (kG D cI cA cS h b L st aK aV xs) (kMu L xs) 142) := rfl
theorem fe_143 : (kAll cI cA cS h)[116]? = some (mzEnt (kG D cI cA cS h b L st aK aV xs) (kMu L xs) 143) := rfl
theorem fe_144 : (kAll cI cA cS h)[117]? = some (mzEnt (kG D cI cA cS h b L st aK aV xs) (kMu L xs) 144) := rfl
theorem fe_145 : (kAll cI cA cS h)[118]? = some (mzEnt (kG D cI cA cS h b L st aK aV xs) (kMu L xs) 145) := rfl
theorem fe_146 : (kAll cI cA cS h)[119]? = some (mzEnt (kG D cI cA cS h b L st aK aV xs) (kMu L xs) 146) := rfl
theorem fe_147 : (kAll cI cA cS h)[120]? = some (mzEnt (kG D cI cA cS h b L st aK aV xs) (kMu L xs) 147) := rfl
def kNs : List Nat := [0, 1, 2, 3, 4, 5, 6, 7, 8, 9, 10, 11, 12, 13, 14, 15, 16, 17, 18, 19, 20, 21, 22, 23, 24, 25, 26, 27, 28, 29, 30, 31, 32, 33, 34, 35, 36, 37, 38, 39, 40, 41, 42, 43, 44, 45, 46, 47, 48, 49, 50, 51, 52, 53, 54, 55, 56, 57, 58, 59, 60, 61, 62, 63, 64, 65, 66, 67, 68, 69, 70, 71, 72, 73, 74, 75, 76, 77, 78, 79, 80, 81, 82, 83, 84, 85, 86, 87, 88, 89, 90, 91, 92, 93, 94, 95, 96, 97, 98, 99, 100, 101, 102, 103, 104, 105, 106, 107, 108, 109, 110, 111, 112, 113, 114, 115, 116, 117, 118, 119, 120, 121, 122, 123, 124, 125, 126, 127, 128, 129, 130, 131, 132, 133, 134, 135, 136, 137, 138, 139, 140, 141, 142, 143, 144, 145, 146, 147]
theorem kNs_in : ∀ k, k < 148 → k ∈ kNs := by decide +kernel
theorem fe_c0 : ∀ k ∈ ([0, 1, 2, 3, 4, 5, 6, 7, 8, 9, 10, 11, 12, 13, 14, 15, 16, 17, 18, 19, 20, 21, 22, 23, 24, 25, 26, 27, 28, 29, 30, 31, 32, 33, 34, 35, 36] : List Nat), (kAll cI cA cS h)[kOff k]? = some (mzEnt (kG D cI cA cS h b L st aK aV xs) (kMu L xs) k) := List.forall_mem_cons.mpr ⟨fe_0, List.forall_mem_cons.mpr ⟨fe_1, List.forall_mem_cons.mpr ⟨fe_2, List.forall_mem_cons.mpr ⟨fe_3, List.forall_mem_cons.mpr ⟨fe_4, List.forall_mem_cons.mpr ⟨fe_5, List.forall_mem_cons.mpr ⟨fe_6, List.forall_mem_cons.mpr ⟨fe_7, List.forall_mem_cons.mpr ⟨fe_8, List.forall_mem_cons.mpr ⟨fe_9, List.forall_mem_cons.mpr ⟨fe_10, List.forall_mem_cons.mpr ⟨fe_11, List.forall_mem_cons.mpr ⟨fe_12, List.forall_mem_cons.mpr ⟨fe_13, List.forall_mem_cons.mpr ⟨fe_14, List.forall_mem_cons.mpr ⟨fe_15, List.forall_mem_cons.mpr ⟨fe_16, List.forall_mem_cons.mpr ⟨fe_17, List.forall_mem_cons.mpr ⟨fe_18, List.forall_mem_cons.mpr ⟨fe_19, List.forall_mem_cons.mpr ⟨fe_20, List.forall_mem_cons.mpr ⟨fe_21, List.forall_mem_cons.mpr ⟨fe_22, List.forall_mem_cons.mpr ⟨fe_23, List.forall_mem_cons.mpr ⟨fe_24, List.forall_mem_cons.mpr ⟨fe_25, List.forall_mem_cons.mpr ⟨fe_26, List.forall_mem_cons.mpr ⟨fe_27, List.forall_mem_cons.mpr ⟨fe_28, List.forall_mem_cons.mpr ⟨fe_29, List.forall_mem_cons.mpr ⟨fe_30, List.forall_mem_cons.mpr ⟨fe_31, List.forall_mem_cons.mpr ⟨fe_32, List.forall_mem_cons.mpr ⟨fe_33, List.forall_mem_cons.mpr ⟨fe_34, List.forall_mem_cons.mpr ⟨fe_35, List.forall_mem_cons.mpr ⟨fe_36, fun _ h => absurd h List.not_mem_nil⟩⟩⟩⟩⟩⟩⟩⟩⟩⟩⟩⟩⟩⟩⟩⟩⟩⟩⟩⟩⟩⟩⟩⟩⟩⟩⟩⟩⟩⟩⟩⟩⟩⟩⟩⟩⟩
theorem fe_c37 : ∀ k ∈ ([37, 38, 39, 40, 41, 42, 43, 44, 45, 46, 47, 48, 49, 50, 51, 52, 53, 54, 55, 56, 57, 58, 59, 60, 61, 62, 63, 64, 65, 66, 67, 68, 69, 70, 71, 72, 73] : List Nat), (kAll cI cA cS h)[kOff k]? = some (mzEnt (kG D cI cA cS h b L st aK aV xs) (kMu L xs) k) := List.forall_mem_cons.mpr ⟨fe_37, List.forall_mem_cons.mpr ⟨fe_38, List.forall_mem_cons.mpr ⟨fe_39, List.forall_mem_cons.mpr ⟨fe_40, List.forall_mem_cons.mpr ⟨fe_41, List.forall_mem_cons.mpr ⟨fe_42, List.forall_mem_cons.mpr ⟨fe_43, List.forall_mem_cons.mpr ⟨fe_44, List.forall_mem_cons.mpr ⟨fe_45, List.forall_mem_cons.mpr ⟨fe_46, List.forall_mem_cons.mpr ⟨fe_47, List.forall_mem_cons.mpr ⟨fe_48, List.forall_mem_cons.mpr ⟨fe_49, List.forall_mem_cons.mpr ⟨fe_50, List.forall_mem_cons.mpr ⟨fe_51, List.forall_mem_cons.mpr ⟨fe_52, List.forall_mem_cons.mpr ⟨fe_53, List.forall_mem_cons.mpr ⟨fe_54, List.forall_mem_cons.mpr ⟨fe_55, List.forall_mem_cons.mpr ⟨fe_56, List.forall_mem_cons.mpr ⟨fe_57, List.forall_mem_cons.mpr ⟨fe_58, List.forall_mem_cons.mpr ⟨fe_59, List.forall_mem_cons.mpr ⟨fe_60, List.forall_mem_cons.mpr ⟨fe_61, List.forall_mem_cons.mpr ⟨fe_62, List.forall_mem_cons.mpr ⟨fe_63, List.forall_mem_cons.mpr ⟨fe_64, List.forall_mem_cons.mpr ⟨fe_65, List.forall_mem_cons.mpr ⟨fe_66, List.forall_mem_cons.mpr ⟨fe_67, List.forall_mem_cons.mpr ⟨fe_68, List.forall_mem_cons.mpr ⟨fe_69, List.forall_mem_cons.mpr ⟨fe_70, List.forall_mem_cons.mpr ⟨fe_71, List.forall_mem_cons.mpr ⟨fe_72, List.forall_mem_cons.mpr ⟨fe_73, fun _ h => absurd h List.not_mem_nil⟩⟩⟩⟩⟩⟩⟩⟩⟩⟩⟩⟩⟩⟩⟩⟩⟩⟩⟩⟩⟩⟩⟩⟩⟩⟩⟩⟩⟩⟩⟩⟩⟩⟩⟩⟩⟩
theorem fe_c74 : ∀ k ∈ ([74, 75, 76, 77, 78, 79, 80, 81, 82, 83, 84, 85, 86, 87, 88, 89, 90, 91, 92, 93, 94, 95, 96, 97, 98, 99, 100, 101, 102, 103, 104, 105, 106, 107, 108, 109, 110] : List Nat), (kAll cI cA cS h)[kOff k]? = some (mzEnt (kG D cI cA cS h b L st aK aV xs) (kMu L xs) k) := List.forall_mem_cons.mpr ⟨fe_74, List.forall_mem_cons.mpr ⟨fe_75, List.forall_mem_cons.mpr ⟨fe_76, List.forall_mem_cons.mpr ⟨fe_77, List.forall_mem_cons.mpr ⟨fe_78, List.forall_mem_cons.mpr ⟨fe_79, List.forall_mem_cons.mpr ⟨fe_80, List.forall_mem_cons.mpr ⟨fe_81, List.forall_mem_cons.mpr ⟨fe_82, List.forall_mem_cons.mpr ⟨fe_83, List.forall_mem_cons.mpr ⟨fe_84, List.forall_mem_cons.mpr ⟨fe_85, List.forall_mem_cons.mpr ⟨fe_86, List.forall_mem_cons.mpr ⟨fe_87, List.forall_mem_cons.mpr ⟨fe_88, List.forall_mem_cons.mpr ⟨fe_89, List.forall_mem_cons.mpr ⟨fe_90, List.forall_mem_cons.mpr ⟨fe_91, List.forall_mem_cons.mpr ⟨fe_92, List.forall_mem_cons.mpr ⟨fe_93, List.forall_mem_cons.mpr ⟨fe_94, List.forall_mem_cons.mpr ⟨fe_95, List.forall_mem_cons.mpr ⟨fe_96, List.forall_mem_cons.mpr ⟨fe_97, List.forall_mem_cons.mpr ⟨fe_98, List.forall_mem_cons.mpr ⟨fe_99, List.forall_mem_cons.mpr ⟨fe_100, List.forall_mem_cons.mpr ⟨fe_101, List.forall_mem_cons.mpr ⟨fe_102, List.forall_mem_cons.mpr ⟨fe_103, List.forall_mem_cons.mpr ⟨fe_104, List.forall_mem_cons.mpr ⟨fe_105, List.forall_mem_cons.mpr ⟨fe_106, List.forall_mem_cons.mpr ⟨fe_107, List.forall_mem_cons.mpr ⟨fe_108, List.forall_mem_cons.mpr ⟨fe_109, List.forall_mem_cons.mpr ⟨fe_110, fun _ h => absurd h List.not_mem_nil⟩⟩⟩⟩⟩⟩⟩⟩⟩⟩⟩⟩⟩⟩⟩⟩⟩⟩⟩⟩⟩⟩⟩⟩⟩⟩⟩⟩⟩⟩⟩⟩⟩⟩⟩⟩⟩
theorem fe_c111 : ∀ k ∈ ([111, 112, 113, 114, 115, 116, 117, 118, 119, 120, 121, 122, 123, 124, 125, 126, 127, 128, 129, 130, 131, 132, 133, 134, 135, 136, 137, 138, 139, 140, 141, 142, 143, 144, 145, 146, 147] : List Nat), (kAll cI cA cS h)[kOff k]? = some (mzEnt (kG D cI cA cS h b L st aK aV xs) (kMu L xs) k) := List.forall_mem_cons.mpr ⟨fe_111, List.forall_mem_cons.mpr ⟨fe_112, List.forall_mem_cons.mpr ⟨fe_113, List.forall_mem_cons.mpr ⟨fe_114, List.forall_mem_cons.mpr ⟨fe_115, List.forall_mem_cons.mpr ⟨fe_116, List.forall_mem_cons.mpr ⟨fe_117, List.forall_mem_cons.mpr ⟨fe_118, List.forall_mem_cons.mpr ⟨fe_119, List.forall_mem_cons.mpr ⟨fe_120, List.forall_mem_cons.mpr ⟨fe_121, List.forall_mem_cons.mpr ⟨fe_122, List.forall_mem_cons.mpr ⟨fe_123, List.forall_mem_cons.mpr ⟨fe_124, List.forall_mem_cons.mpr ⟨fe_125, List.forall_mem_cons.mpr ⟨fe_126, List.forall_mem_cons.mpr ⟨fe_127, List.forall_mem_cons.mpr ⟨fe_128, List.forall_mem_cons.mpr ⟨fe_129, List.forall_mem_cons.mpr ⟨fe_130, List.forall_mem_cons.mpr ⟨fe_131, List.forall_mem_cons.mpr ⟨fe_132, List.forall_mem_cons.mpr ⟨fe_133, List.forall_mem_cons.mpr ⟨fe_134, List.forall_mem_cons.mpr ⟨fe_135, List.forall_mem_cons.mpr ⟨fe_136, List.forall_mem_cons.mpr ⟨fe_137, List.forall_mem_cons.mpr ⟨fe_138, List.forall_mem_cons.mpr ⟨fe_139, List.forall_mem_cons.mpr ⟨fe_140, List.forall_mem_cons.mpr ⟨fe_141, List.forall_mem_cons.mpr ⟨fe_142, List.forall_mem_cons.mpr ⟨fe_143, List.forall_mem_cons.mpr ⟨fe_144, List.forall_mem_cons.mpr ⟨fe_145, List.forall_mem_cons.mpr ⟨fe_146, List.forall_mem_cons.mpr ⟨fe_147, fun _ h => absurd h List.not_mem_nil⟩⟩⟩⟩⟩⟩⟩⟩⟩⟩⟩⟩⟩⟩⟩⟩⟩⟩⟩⟩⟩⟩⟩⟩⟩⟩⟩⟩⟩⟩⟩⟩⟩⟩⟩⟩⟩
theorem fe_all {k : Nat} (hk : k < 148) : (kAll cI cA cS h)[kOff k]? = some (mzEnt (kG D cI cA cS h b L st aK aV xs) (kMu L xs) k) := by
  have hm : k ∈ kNs := kNs_in k hk
  have e : kNs = [0, 1, 2, 3, 4, 5, 6, 7, 8, 9, 10, 11, 12, 13, 14, 15, 16, 17, 18, 19, 20, 21, 22, 23, 24, 25, 26, 27, 28, 29, 30, 31, 32, 33, 34, 35, 36] ++ ([37, 38, 39, 40, 41, 42, 43, 44, 45, 46, 47, 48, 49, 50, 51, 52, 53, 54, 55, 56, 57, 58, 59, 60, 61, 62, 63, 64, 65, 66, 67, 68, 69, 70, 71, 72, 73] ++ ([74, 75, 76, 77, 78, 79, 80, 81, 82, 83, 84, 85, 86, 87, 88, 89, 90, 91, 92, 93, 94, 95, 96, 97, 98, 99, 100, 101, 102, 103, 104, 105, 106, 107, 108, 109, 110] ++ [111, 112, 113, 114, 115, 116, 117, 118, 119, 120, 121, 122, 123, 124, 125, 126, 127, 128, 129, 130, 131, 132, 133, 134, 135, 136, 137, 138, 139, 140, 141, 142, 143, 144, 145, 146, 147])) := rfl
  rw [e] at hm
  rcases List.mem_append.mp hm with h | h
  · exact fe_c0 k h
  · rcases List.mem_append.mp h with h | h
    · exact fe_c37 k h
    · rcases List.mem_append.mp h with h | h
      · exact fe_c74 k h
      · exact fe_c111 k h
theorem kMu_1 : kMu L xs 1 = kmu := rfl
theorem kmu_bd (j : Nat) : -2147483648 ≤ kmu j ∧ kmu j < 2147483648 := by
  unfold kmu
  split
  · omega
  · split <;> omega
theorem kMu_bd (hL : L ≤ 3072) (k j : Nat) : -2147483648 ≤ kMu L xs k j ∧ kMu L xs k j < 2147483648 := by
  unfold kMu
  split
  · exact kmu_bd j
  · split
    · split <;> omega
    · split
      · omega
      · split
        · exact ⟨Int.le_trans (by decide) (xs j).le_toInt, Int.lt_of_lt_of_le (xs j).toInt_lt (by decide)⟩
        · split
          · omega
          · omega
theorem kSt {H0 H : Heap} (hL : L ≤ 3072) (hP : PH D H0 (kAll cI cA cS H0.size) H) : mzSt (kG D cI cA cS H0.size b L st aK aV xs) H (kMu L xs) := by
  refine ⟨fun k q hq => ?_, kMu_bd hL, fun j => rfl, rfl⟩
  obtain ⟨hk, rfl⟩ := mz_woi hq
  have h1 := hP.2.2 _ _ (fe_all (D := D) (b := b) (L := L) (st := st) (aK := aK) (aV := aV) (xs := xs) (cI := cI) (cA := cA) (cS := cS) (h := H0.size) hk)
  have e : H0.size + kOff k = mzAd (kG D cI cA cS H0.size b L st aK aV xs) k := (kAd_lt hk).symm
  rw [e] at h1
  exact h1
end KF
def kW0 : Wd := (0, (fun _ _ => 0), (fun _ _ => 0), 0, 0, (fun _ => 0), (fun _ => 0), 1, (fun _ => -1))
theorem kRW {L : Nat} {xs : Nat → Int32} : RW (kMu L xs) kW0 := by
  refine ⟨⟨by decide, by decide +kernel, by decide, by decide, fun p h => absurd h (Nat.not_lt_zero _), fun f t => ⟨show (0 : Int) ≤ 0 by decide, show (0 : Int) ≤ 99 by decide⟩, fun f t _ => rfl, fun i h => absurd h (Nat.not_lt_zero _), fun i _ => ⟨show (-1 : Int) ≤ -1 by decide, show (-1 : Int) < 0 by decide⟩, by decide, by decide⟩, ⟨⟨rfl, rfl, rfl, rfl, fun p t h => absurd h (Nat.not_lt_zero _), fun f t h => absurd h (Nat.not_lt_zero _), fun i h => absurd h (Nat.not_lt_zero _), fun i hi => ?_⟩, Or.inl rfl⟩, ⟨rfl, rfl, rfl, rfl, rfl, fun p t h => absurd h (Nat.not_lt_zero _), fun f t hf ht => ?_, fun i h => absurd h (Nat.not_lt_zero _), fun i hi => rfl⟩, ⟨rfl, Or.inl rfl⟩, ⟨0, by decide, rfl, rfl, fun i h => absurd h (Nat.not_lt_zero _)⟩, fun s hs => ?_⟩
  · show kmu (308 + i) = -1
    unfold kmu
    rw [if_neg (by omega), if_pos (by omega)]
  · match f, hf with
    | 0, _ => rfl
    | 1, _ => rfl
    | 2, _ => rfl
    | 3, _ => rfl
    | 4, _ => rfl
    | 5, _ => rfl
    | 6, _ => rfl
    | 7, _ => rfl
    | 8, _ => rfl
    | 9, _ => rfl
    | 10, _ => rfl
    | 11, _ => rfl
  · match s, hs with
    | 0, _ => exact ⟨rfl, rfl, ⟨show (0 : Int) ≤ 0 by decide, show (0 : Int) ≤ 40 by decide⟩, Or.inl rfl, fun i hi => rfl⟩
    | 1, _ => exact ⟨rfl, rfl, ⟨show (0 : Int) ≤ 0 by decide, show (0 : Int) ≤ 40 by decide⟩, Or.inl rfl, fun i hi => rfl⟩
    | 2, _ => exact ⟨rfl, rfl, ⟨show (0 : Int) ≤ 0 by decide, show (0 : Int) ≤ 40 by decide⟩, Or.inl rfl, fun i hi => rfl⟩
    | 3, _ => exact ⟨rfl, rfl, ⟨show (0 : Int) ≤ 0 by decide, show (0 : Int) ≤ 40 by decide⟩, Or.inl rfl, fun i hi => rfl⟩
