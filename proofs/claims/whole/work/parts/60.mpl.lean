/-! the places of the reference -/
theorem M_2 : RM 1 2 = 2 := by decide +kernel
theorem M_3 : RM 1 3 = 3 := by decide +kernel
theorem M_4 : RM 1 4 = 7 := by decide +kernel
theorem M_5 : RM 1 5 = 11 := by decide +kernel
theorem M_6 : RM 1 6 = 15 := by decide +kernel
theorem M_10 : RM 1 10 = 19 := by decide +kernel
theorem M_12 : RM 1 12 = 20 := by decide +kernel
theorem M_13 : RM 1 13 = 21 := by decide +kernel
theorem M_14 : RM 1 14 = 22 := by decide +kernel
theorem M_15 : RM 1 15 = 29 := by decide +kernel
theorem M_23 : RM 1 23 = 30 := by decide +kernel
theorem M_24 : RM 1 24 = 31 := by decide +kernel
theorem M_25 : RM 1 25 = 32 := by decide +kernel
theorem M_28 : RM 1 28 = 33 := by decide +kernel
theorem M_29 : RM 1 29 = 34 := by decide +kernel
theorem M_30 : RM 1 30 = 35 := by decide +kernel
theorem M_31 : RM 1 31 = 36 := by decide +kernel
theorem M_32 : RM 1 32 = 37 := by decide +kernel
theorem M_33 : RM 1 33 = 38 := by decide +kernel
theorem M_34 : RM 1 34 = 39 := by decide +kernel
theorem M_36 : RM 1 36 = 40 := by decide +kernel
theorem M_37 : RM 1 37 = 41 := by decide +kernel
theorem M_38 : RM 1 38 = 42 := by decide +kernel
theorem M_39 : RM 1 39 = 46 := by decide +kernel
theorem M_40 : RM 1 40 = 50 := by decide +kernel
theorem M_41 : RM 1 41 = 54 := by decide +kernel
theorem M_44 : RM 1 44 = 58 := by decide +kernel
theorem M_45 : RM 1 45 = 59 := by decide +kernel
theorem M_46 : RM 1 46 = 65 := by decide +kernel
theorem M_47 : RM 1 47 = 69 := by decide +kernel
theorem M_48 : RM 1 48 = 73 := by decide +kernel
theorem M_49 : RM 1 49 = 77 := by decide +kernel
theorem M_50 : RM 1 50 = 84 := by decide +kernel
theorem M_51 : RM 1 51 = 85 := by decide +kernel
theorem M_52 : RM 1 52 = 86 := by decide +kernel
theorem M_53 : RM 1 53 = 87 := by decide +kernel
theorem M_54 : RM 1 54 = 92 := by decide +kernel
theorem ln_2 : lnM 2 = 30 := by decide +kernel
theorem ln_3 : lnM 3 = 3 := by decide +kernel
theorem ln_7 : lnM 7 = 3 := by decide +kernel
theorem ln_11 : lnM 11 = 3 := by decide +kernel
theorem ln_15 : lnM 15 = 3 := by decide +kernel
theorem ln_19 : lnM 19 = 30 := by decide +kernel
theorem ln_20 : lnM 20 = 6 := by decide +kernel
theorem ln_21 : lnM 21 = 6 := by decide +kernel
theorem ln_22 : lnM 22 = 6 := by decide +kernel
theorem ln_29 : lnM 29 = 40 := by decide +kernel
theorem ln_30 : lnM 30 = 30 := by decide +kernel
theorem ln_31 : lnM 31 = 31 := by decide +kernel
theorem ln_32 : lnM 32 = 30 := by decide +kernel
theorem ln_33 : lnM 33 = 200 := by decide +kernel
theorem ln_34 : lnM 34 = 200 := by decide +kernel
theorem ln_35 : lnM 35 = 30 := by decide +kernel
theorem ln_36 : lnM 36 = 30 := by decide +kernel
theorem ln_37 : lnM 37 = 30 := by decide +kernel
theorem ln_38 : lnM 38 = 30 := by decide +kernel
theorem ln_39 : lnM 39 = 30 := by decide +kernel
theorem ln_40 : lnM 40 = 120 := by decide +kernel
theorem ln_41 : lnM 41 = 120 := by decide +kernel
theorem ln_42 : lnM 42 = 3 := by decide +kernel
theorem ln_46 : lnM 46 = 3 := by decide +kernel
theorem ln_50 : lnM 50 = 3 := by decide +kernel
theorem ln_54 : lnM 54 = 3 := by decide +kernel
theorem ln_58 : lnM 58 = 6 := by decide +kernel
theorem ln_59 : lnM 59 = 5 := by decide +kernel
theorem ln_65 : lnM 65 = 3 := by decide +kernel
theorem ln_69 : lnM 69 = 3 := by decide +kernel
theorem ln_73 : lnM 73 = 3 := by decide +kernel
theorem ln_77 : lnM 77 = 6 := by decide +kernel
theorem ln_84 : lnM 84 = 6 := by decide +kernel
theorem ln_85 : lnM 85 = 4 := by decide +kernel
theorem ln_86 : lnM 86 = 4 := by decide +kernel
theorem ln_87 : lnM 87 = 4 := by decide +kernel
theorem ln_92 : lnM 92 = 40 := by decide +kernel
theorem R_3 : ∀ s, s < 3 → RM 3 s = 4 + s := by decide +kernel
theorem L_3 : ∀ s, s < 3 → lnM (4 + s) = 30 := by decide +kernel
theorem R_7 : ∀ s, s < 3 → RM 7 s = 8 + s := by decide +kernel
theorem L_7 : ∀ s, s < 3 → lnM (8 + s) = 30 := by decide +kernel
theorem R_11 : ∀ s, s < 3 → RM 11 s = 12 + s := by decide +kernel
theorem L_11 : ∀ s, s < 3 → lnM (12 + s) = 30 := by decide +kernel
theorem R_15 : ∀ s, s < 3 → RM 15 s = 16 + s := by decide +kernel
theorem L_15 : ∀ s, s < 3 → lnM (16 + s) = 30 := by decide +kernel
theorem R_22 : ∀ s, s < 6 → RM 22 s = 23 + s := by decide +kernel
theorem L_22 : ∀ s, s < 6 → lnM (23 + s) = 8 := by decide +kernel
theorem R_42 : ∀ s, s < 3 → RM 42 s = 43 + s := by decide +kernel
theorem L_42 : ∀ s, s < 3 → lnM (43 + s) = 30 := by decide +kernel
theorem R_46 : ∀ s, s < 3 → RM 46 s = 47 + s := by decide +kernel
theorem L_46 : ∀ s, s < 3 → lnM (47 + s) = 30 := by decide +kernel
theorem R_50 : ∀ s, s < 3 → RM 50 s = 51 + s := by decide +kernel
theorem L_50 : ∀ s, s < 3 → lnM (51 + s) = 30 := by decide +kernel
theorem R_54 : ∀ s, s < 3 → RM 54 s = 55 + s := by decide +kernel
theorem L_54 : ∀ s, s < 3 → lnM (55 + s) = 30 := by decide +kernel
theorem R_59 : ∀ s, s < 5 → RM 59 s = 60 + s := by decide +kernel
theorem L_59 : ∀ s, s < 5 → lnM (60 + s) = 30 := by decide +kernel
theorem R_65 : ∀ s, s < 3 → RM 65 s = 66 + s := by decide +kernel
theorem L_65 : ∀ s, s < 3 → lnM (66 + s) = 30 := by decide +kernel
theorem R_69 : ∀ s, s < 3 → RM 69 s = 70 + s := by decide +kernel
theorem L_69 : ∀ s, s < 3 → lnM (70 + s) = 30 := by decide +kernel
theorem R_73 : ∀ s, s < 3 → RM 73 s = 74 + s := by decide +kernel
theorem L_73 : ∀ s, s < 3 → lnM (74 + s) = 30 := by decide +kernel
theorem R_77 : ∀ s, s < 6 → RM 77 s = 78 + s := by decide +kernel
theorem L_77 : ∀ s, s < 6 → lnM (78 + s) = 8 := by decide +kernel
theorem R_87 : ∀ s, s < 4 → RM 87 s = 88 + s := by decide +kernel
theorem L_87 : ∀ s, s < 4 → lnM (88 + s) = 40 := by decide +kernel
