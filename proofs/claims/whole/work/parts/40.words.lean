theorem icv_0 : Int32.ofInt (0) = (0 : Int32) := by decide +kernel
theorem biv_12 : (Int8.ofInt (12)).toInt32 = (12 : Int32) := by decide +kernel
theorem icv_1 : Int32.ofInt (1) = (1 : Int32) := by decide +kernel
theorem biv_m2 : (Int8.ofInt (-2)).toInt32 = (-2 : Int32) := by decide +kernel
theorem biv_m3 : (Int8.ofInt (-3)).toInt32 = (-3 : Int32) := by decide +kernel
theorem rf_1_1 : g_ft 1 1 = 3 ∧ (∀ i, g_rf 1 1 i = (13, i)) ∧ nth grpTbl 13 9 = nth grpTbl 1 8 ∧ g_tx 13 = g_tx 1 ∧ nth cntTbl 1 0 ≤ nth cntTbl 13 0 := ⟨rfl, fun _ => rfl, rfl, rfl, by decide⟩
theorem ak_13 : g_Ak 13 12 0 := ⟨rfl, rfl, rfl, rfl, by decide⟩
theorem rf_1_0 : g_ft 1 0 = 3 ∧ (∀ i, g_rf 1 0 i = (12, i)) ∧ nth grpTbl 12 9 = nth grpTbl 1 8 ∧ g_tx 12 = g_tx 1 ∧ nth cntTbl 1 0 ≤ nth cntTbl 12 0 := ⟨rfl, fun _ => rfl, rfl, rfl, by decide⟩
theorem ak_12 : g_Ak 12 12 0 := ⟨rfl, rfl, rfl, rfl, by decide⟩
theorem icv_3 : Int32.ofInt (3) = (3 : Int32) := by decide +kernel
theorem rf_1_3 : g_ft 1 3 = 3 ∧ (∀ i, g_rf 1 3 i = (15, i)) ∧ nth grpTbl 15 9 = nth grpTbl 1 8 ∧ g_tx 15 = g_tx 1 ∧ nth cntTbl 1 0 ≤ nth cntTbl 15 0 := ⟨rfl, fun _ => rfl, rfl, rfl, by decide⟩
theorem ak_15 : g_Ak 15 4 0 := ⟨rfl, rfl, rfl, rfl, by decide⟩
theorem siv_999 : (Int16.ofInt (999)).toInt32 = (999 : Int32) := by decide +kernel
theorem icv_2 : Int32.ofInt (2) = (2 : Int32) := by decide +kernel
theorem icv_m1 : Int32.ofInt (-1) = (-1 : Int32) := by decide +kernel
theorem biv_20 : (Int8.ofInt (20)).toInt32 = (20 : Int32) := by decide +kernel
theorem rf_3_0 : g_ft 3 0 = 3 ∧ (∀ i, g_rf 3 0 i = (20, i)) ∧ nth grpTbl 20 9 = nth grpTbl 3 8 ∧ g_tx 20 = g_tx 3 ∧ nth cntTbl 3 0 ≤ nth cntTbl 20 0 := ⟨rfl, fun _ => rfl, rfl, rfl, by decide⟩
theorem biv_15 : (Int8.ofInt (15)).toInt32 = (15 : Int32) := by decide +kernel
theorem ak_20 : g_Ak 20 16 0 := ⟨rfl, rfl, rfl, rfl, by decide⟩
theorem rf_3_1 : g_ft 3 1 = 3 ∧ (∀ i, g_rf 3 1 i = (21, i)) ∧ nth grpTbl 21 9 = nth grpTbl 3 8 ∧ g_tx 21 = g_tx 3 ∧ nth cntTbl 3 0 ≤ nth cntTbl 21 0 := ⟨rfl, fun _ => rfl, rfl, rfl, by decide⟩
theorem ak_21 : g_Ak 21 16 0 := ⟨rfl, rfl, rfl, rfl, by decide⟩
theorem rf_3_2 : g_ft 3 2 = 3 ∧ (∀ i, g_rf 3 2 i = (22, i)) ∧ nth grpTbl 22 9 = nth grpTbl 3 8 ∧ g_tx 22 = g_tx 3 ∧ nth cntTbl 3 0 ≤ nth cntTbl 22 0 := ⟨rfl, fun _ => rfl, rfl, rfl, by decide⟩
theorem ak_22 : g_Ak 22 16 0 := ⟨rfl, rfl, rfl, rfl, by decide⟩
theorem biv_16 : (Int8.ofInt (16)).toInt32 = (16 : Int32) := by decide +kernel
theorem rf_0_0 : g_ft 0 0 = 3 ∧ (∀ i, g_rf 0 0 i = (1, 0)) ∧ nth grpTbl 1 9 = nth grpTbl 0 8 ∧ ((g_tx 1 = false ∧ 0 < nth cntTbl 1 0) ∨ (1 = 8 ∧ 0 = 0)) := ⟨rfl, fun _ => rfl, rfl, Or.inl ⟨rfl, by decide⟩⟩
theorem rf_0_1 : g_ft 0 1 = 3 ∧ (∀ i, g_rf 0 1 i = (3, 0)) ∧ nth grpTbl 3 9 = nth grpTbl 0 8 ∧ ((g_tx 3 = false ∧ 0 < nth cntTbl 3 0) ∨ (3 = 8 ∧ 0 = 0)) := ⟨rfl, fun _ => rfl, rfl, Or.inl ⟨rfl, by decide⟩⟩
theorem biv_6 : (Int8.ofInt (6)).toInt32 = (6 : Int32) := by decide +kernel
theorem rf_1_6 : g_ft 1 6 = 3 ∧ (∀ i, g_rf 1 6 i = (18, i)) ∧ nth grpTbl 18 9 = nth grpTbl 1 8 ∧ g_tx 18 = g_tx 1 ∧ nth cntTbl 1 0 ≤ nth cntTbl 18 0 := ⟨rfl, fun _ => rfl, rfl, rfl, by decide⟩
theorem rf_1_2 : g_ft 1 2 = 3 ∧ (∀ i, g_rf 1 2 i = (14, i)) ∧ nth grpTbl 14 9 = nth grpTbl 1 8 ∧ g_tx 14 = g_tx 1 ∧ nth cntTbl 1 0 ≤ nth cntTbl 14 0 := ⟨rfl, fun _ => rfl, rfl, rfl, by decide⟩
theorem ak_14 : g_Ak 14 12 0 := ⟨rfl, rfl, rfl, rfl, by decide⟩
theorem icv_4 : Int32.ofInt (4) = (4 : Int32) := by decide +kernel
theorem rf_1_4 : g_ft 1 4 = 3 ∧ (∀ i, g_rf 1 4 i = (16, i)) ∧ nth grpTbl 16 9 = nth grpTbl 1 8 ∧ g_tx 16 = g_tx 1 ∧ nth cntTbl 1 0 ≤ nth cntTbl 16 0 := ⟨rfl, fun _ => rfl, rfl, rfl, by decide⟩
theorem ak_16 : g_Ak 16 6 0 := ⟨rfl, rfl, rfl, rfl, by decide⟩
theorem rf_1_5 : g_ft 1 5 = 3 ∧ (∀ i, g_rf 1 5 i = (17, i)) ∧ nth grpTbl 17 9 = nth grpTbl 1 8 ∧ g_tx 17 = g_tx 1 ∧ nth cntTbl 1 0 ≤ nth cntTbl 17 0 := ⟨rfl, fun _ => rfl, rfl, rfl, by decide⟩
theorem ak_17 : g_Ak 17 6 0 := ⟨rfl, rfl, rfl, rfl, by decide⟩
theorem rf_0_4 : g_ft 0 4 = 3 ∧ (∀ i, g_rf 0 4 i = (1, 5)) ∧ nth grpTbl 1 9 = nth grpTbl 0 8 ∧ ((g_tx 1 = false ∧ 5 < nth cntTbl 1 0) ∨ (1 = 8 ∧ 5 = 0)) := ⟨rfl, fun _ => rfl, rfl, Or.inl ⟨rfl, by decide⟩⟩
theorem rf_0_5 : g_ft 0 5 = 3 ∧ (∀ i, g_rf 0 5 i = (3, 1)) ∧ nth grpTbl 3 9 = nth grpTbl 0 8 ∧ ((g_tx 3 = false ∧ 1 < nth cntTbl 3 0) ∨ (3 = 8 ∧ 1 = 0)) := ⟨rfl, fun _ => rfl, rfl, Or.inl ⟨rfl, by decide⟩⟩
theorem ak_19 : g_Ak 19 8 0 := ⟨rfl, rfl, rfl, rfl, by decide⟩
theorem rf_2_0 : g_ft 2 0 = 3 ∧ (∀ i, g_rf 2 0 i = (19, i)) ∧ nth grpTbl 19 9 = nth grpTbl 2 8 ∧ g_tx 19 = g_tx 2 ∧ nth cntTbl 2 0 ≤ nth cntTbl 19 0 := ⟨rfl, fun _ => rfl, rfl, rfl, by decide⟩
theorem biv_7 : (Int8.ofInt (7)).toInt32 = (7 : Int32) := by decide +kernel
theorem icv_5 : Int32.ofInt (5) = (5 : Int32) := by decide +kernel
theorem lcv_0 : Int64.ofNat ((0 : Fin 2) : Nat) = (0 : Int64) := by decide +kernel
theorem lcv_1 : Int64.ofNat ((1 : Fin 2) : Nat) = (1 : Int64) := by decide +kernel
theorem rf_4_0 : g_ft 4 0 = 3 ∧ (∀ i, g_rf 4 0 i = (23, i)) ∧ nth grpTbl 23 9 = nth grpTbl 4 8 ∧ g_tx 23 = g_tx 4 ∧ nth cntTbl 4 0 ≤ nth cntTbl 23 0 := ⟨rfl, fun _ => rfl, rfl, rfl, by decide⟩
theorem ak_23 : g_Ak 23 64 3 := ⟨rfl, rfl, rfl, rfl, by decide⟩
theorem biv_64 : (Int8.ofInt (64)).toInt32 = (64 : Int32) := by decide +kernel
theorem siv_4095 : (Int16.ofInt (4095)).toInt32 = (4095 : Int32) := by decide +kernel
theorem rf_8_5 : g_ft 8 5 = 3 ∧ (∀ i, g_rf 8 5 i = (36, i)) ∧ nth grpTbl 36 9 = nth grpTbl 8 8 ∧ g_tx 36 = g_tx 8 ∧ nth cntTbl 8 0 ≤ nth cntTbl 36 0 := ⟨rfl, fun _ => rfl, rfl, rfl, by decide⟩
theorem rf_8_0 : g_ft 8 0 = 3 ∧ (∀ i, g_rf 8 0 i = (31, i)) ∧ nth grpTbl 31 9 = nth grpTbl 8 8 ∧ g_tx 31 = g_tx 8 ∧ nth cntTbl 8 0 ≤ nth cntTbl 31 0 := ⟨rfl, fun _ => rfl, rfl, rfl, by decide⟩
theorem ak_31 : g_Ak 31 12 0 := ⟨rfl, rfl, rfl, rfl, by decide⟩
theorem rf_2_1 : g_ft 2 1 = 3 ∧ (∀ i, g_rf 2 1 i = (4, i)) ∧ nth grpTbl 4 9 = nth grpTbl 2 8 ∧ g_tx 4 = g_tx 2 ∧ nth cntTbl 2 0 ≤ nth cntTbl 4 0 := ⟨rfl, fun _ => rfl, rfl, rfl, by decide⟩
theorem rf_8_2 : g_ft 8 2 = 3 ∧ (∀ i, g_rf 8 2 i = (33, i)) ∧ nth grpTbl 33 9 = nth grpTbl 8 8 ∧ g_tx 33 = g_tx 8 ∧ nth cntTbl 8 0 ≤ nth cntTbl 33 0 := ⟨rfl, fun _ => rfl, rfl, rfl, by decide⟩
theorem ak_33 : g_Ak 33 12 0 := ⟨rfl, rfl, rfl, rfl, by decide⟩
theorem biv_99 : (Int8.ofInt (99)).toInt32 = (99 : Int32) := by decide +kernel
theorem rf_8_4 : g_ft 8 4 = 3 ∧ (∀ i, g_rf 8 4 i = (35, i)) ∧ nth grpTbl 35 9 = nth grpTbl 8 8 ∧ g_tx 35 = g_tx 8 ∧ nth cntTbl 8 0 ≤ nth cntTbl 35 0 := ⟨rfl, fun _ => rfl, rfl, rfl, by decide⟩
theorem ak_35 : g_Ak 35 12 0 := ⟨rfl, rfl, rfl, rfl, by decide⟩
theorem ak_74 : g_Ak 74 24 0 := ⟨rfl, rfl, rfl, rfl, by decide⟩
theorem rf_7_0 : g_ft 7 0 = 3 ∧ (∀ i, g_rf 7 0 i = (30, 0)) ∧ nth grpTbl 30 9 = nth grpTbl 7 8 ∧ ((g_tx 30 = false ∧ 0 < nth cntTbl 30 0) ∨ (30 = 8 ∧ 0 = 0)) := ⟨rfl, fun _ => rfl, rfl, Or.inl ⟨rfl, by decide⟩⟩
theorem rf_7_3 : g_ft 7 3 = 3 ∧ (∀ i, g_rf 7 3 i = (2, 0)) ∧ nth grpTbl 2 9 = nth grpTbl 7 8 ∧ ((g_tx 2 = false ∧ 0 < nth cntTbl 2 0) ∨ (2 = 8 ∧ 0 = 0)) := ⟨rfl, fun _ => rfl, rfl, Or.inl ⟨rfl, by decide⟩⟩
theorem biv_24 : (Int8.ofInt (24)).toInt32 = (24 : Int32) := by decide +kernel
theorem rf_0_6 : g_ft 0 6 = 3 ∧ (∀ i, g_rf 0 6 i = (11, 0)) ∧ nth grpTbl 11 9 = nth grpTbl 0 8 ∧ ((g_tx 11 = false ∧ 0 < nth cntTbl 11 0) ∨ (11 = 8 ∧ 0 = 0)) := ⟨rfl, fun _ => rfl, rfl, Or.inl ⟨rfl, by decide⟩⟩
theorem ak_11 : g_Ak 11 29 0 := ⟨rfl, rfl, rfl, rfl, by decide⟩
theorem biv_17 : (Int8.ofInt (17)).toInt32 = (17 : Int32) := by decide +kernel
theorem rf_0_2 : g_ft 0 2 = 3 ∧ (∀ i, g_rf 0 2 i = (7, 0)) ∧ nth grpTbl 7 9 = nth grpTbl 0 8 ∧ ((g_tx 7 = false ∧ 0 < nth cntTbl 7 0) ∨ (7 = 8 ∧ 0 = 0)) := ⟨rfl, fun _ => rfl, rfl, Or.inl ⟨rfl, by decide⟩⟩
theorem rf_8_3 : g_ft 8 3 = 3 ∧ (∀ i, g_rf 8 3 i = (34, i)) ∧ nth grpTbl 34 9 = nth grpTbl 8 8 ∧ g_tx 34 = g_tx 8 ∧ nth cntTbl 8 0 ≤ nth cntTbl 34 0 := ⟨rfl, fun _ => rfl, rfl, rfl, by decide⟩
theorem ak_34 : g_Ak 34 12 0 := ⟨rfl, rfl, rfl, rfl, by decide⟩
theorem rf_0_3 : g_ft 0 3 = 3 ∧ (∀ i, g_rf 0 3 i = (4, 2)) ∧ nth grpTbl 4 9 = nth grpTbl 0 8 ∧ ((g_tx 4 = false ∧ 2 < nth cntTbl 4 0) ∨ (4 = 8 ∧ 2 = 0)) := ⟨rfl, fun _ => rfl, rfl, Or.inl ⟨rfl, by decide⟩⟩
theorem biv_25 : (Int8.ofInt (25)).toInt32 = (25 : Int32) := by decide +kernel
theorem rf_5_0 : g_ft 5 0 = 3 ∧ (∀ i, g_rf 5 0 i = (24, 0)) ∧ nth grpTbl 24 9 = nth grpTbl 5 8 ∧ ((g_tx 24 = false ∧ 0 < nth cntTbl 24 0) ∨ (24 = 8 ∧ 0 = 0)) := ⟨rfl, fun _ => rfl, rfl, Or.inl ⟨rfl, by decide⟩⟩
theorem ak_24 : g_Ak 24 625 0 := ⟨rfl, rfl, rfl, rfl, by decide⟩
theorem rf_5_2 : g_ft 5 2 = 3 ∧ (∀ i, g_rf 5 2 i = (26, 0)) ∧ nth grpTbl 26 9 = nth grpTbl 5 8 ∧ ((g_tx 26 = false ∧ 0 < nth cntTbl 26 0) ∨ (26 = 8 ∧ 0 = 0)) := ⟨rfl, fun _ => rfl, rfl, Or.inl ⟨rfl, by decide⟩⟩
theorem ak_26 : g_Ak 26 625 0 := ⟨rfl, rfl, rfl, rfl, by decide⟩
theorem rf_5_1 : g_ft 5 1 = 3 ∧ (∀ i, g_rf 5 1 i = (25, 0)) ∧ nth grpTbl 25 9 = nth grpTbl 5 8 ∧ ((g_tx 25 = false ∧ 0 < nth cntTbl 25 0) ∨ (25 = 8 ∧ 0 = 0)) := ⟨rfl, fun _ => rfl, rfl, Or.inl ⟨rfl, by decide⟩⟩
theorem ak_25 : g_Ak 25 625 0 := ⟨rfl, rfl, rfl, rfl, by decide⟩
theorem rf_5_4 : g_ft 5 4 = 3 ∧ (∀ i, g_rf 5 4 i = (2, 1)) ∧ nth grpTbl 2 9 = nth grpTbl 5 8 ∧ ((g_tx 2 = false ∧ 1 < nth cntTbl 2 0) ∨ (2 = 8 ∧ 1 = 0)) := ⟨rfl, fun _ => rfl, rfl, Or.inl ⟨rfl, by decide⟩⟩
theorem rf_5_3 : g_ft 5 3 = 3 ∧ (∀ i, g_rf 5 3 i = (27, 0)) ∧ nth grpTbl 27 9 = nth grpTbl 5 8 ∧ ((g_tx 27 = false ∧ 0 < nth cntTbl 27 0) ∨ (27 = 8 ∧ 0 = 0)) := ⟨rfl, fun _ => rfl, rfl, Or.inl ⟨rfl, by decide⟩⟩
theorem ak_27 : g_Ak 27 625 3 := ⟨rfl, rfl, rfl, rfl, by decide⟩
theorem biv_97 : (Int8.ofInt (97)).toInt32 = (97 : Int32) := by decide +kernel
theorem biv_48 : (Int8.ofInt (48)).toInt32 = (48 : Int32) := by decide +kernel
theorem biv_57 : (Int8.ofInt (57)).toInt32 = (57 : Int32) := by decide +kernel
theorem biv_122 : (Int8.ofInt (122)).toInt32 = (122 : Int32) := by decide +kernel
theorem ak_39 : g_Ak 39 400 1 := ⟨rfl, rfl, rfl, rfl, by decide⟩
theorem biv_10 : (Int8.ofInt (10)).toInt32 = (10 : Int32) := by decide +kernel
theorem siv_1001 : (Int16.ofInt (1001)).toInt32 = (1001 : Int32) := by decide +kernel
theorem rf_6_2 : g_ft 6 2 = 3 ∧ (∀ i, g_rf 6 2 i = (29, 0)) ∧ nth grpTbl 29 9 = nth grpTbl 6 8 ∧ ((g_tx 29 = false ∧ 0 < nth cntTbl 29 0) ∨ (29 = 8 ∧ 0 = 0)) := ⟨rfl, fun _ => rfl, rfl, Or.inl ⟨rfl, by decide⟩⟩
theorem ak_29 : g_Ak 29 401 0 := ⟨rfl, rfl, rfl, rfl, by decide⟩
theorem siv_4000 : (Int16.ofInt (4000)).toInt32 = (4000 : Int32) := by decide +kernel
theorem rf_6_1 : g_ft 6 1 = 3 ∧ (∀ i, g_rf 6 1 i = (28, 0)) ∧ nth grpTbl 28 9 = nth grpTbl 6 8 ∧ ((g_tx 28 = false ∧ 0 < nth cntTbl 28 0) ∨ (28 = 8 ∧ 0 = 0)) := ⟨rfl, fun _ => rfl, rfl, Or.inl ⟨rfl, by decide⟩⟩
theorem ak_28 : g_Ak 28 401 0 := ⟨rfl, rfl, rfl, rfl, by decide⟩
theorem biv_11 : (Int8.ofInt (11)).toInt32 = (11 : Int32) := by decide +kernel
theorem siv_3025 : (Int16.ofInt (3025)).toInt32 = (3025 : Int32) := by decide +kernel
theorem siv_3026 : (Int16.ofInt (3026)).toInt32 = (3026 : Int32) := by decide +kernel
theorem siv_3020 : (Int16.ofInt (3020)).toInt32 = (3020 : Int32) := by decide +kernel
theorem siv_3024 : (Int16.ofInt (3024)).toInt32 = (3024 : Int32) := by decide +kernel
theorem siv_3013 : (Int16.ofInt (3013)).toInt32 = (3013 : Int32) := by decide +kernel
theorem rf_6_0 : g_ft 6 0 = 3 ∧ (∀ i, g_rf 6 0 i = (8, 0)) ∧ nth grpTbl 8 9 = nth grpTbl 6 8 ∧ ((g_tx 8 = false ∧ 0 < nth cntTbl 8 0) ∨ (8 = 8 ∧ 0 = 0)) := ⟨rfl, fun _ => rfl, rfl, Or.inr ⟨rfl, rfl⟩⟩
theorem siv_2091 : (Int16.ofInt (2091)).toInt32 = (2091 : Int32) := by decide +kernel
theorem biv_50 : (Int8.ofInt (50)).toInt32 = (50 : Int32) := by decide +kernel
theorem siv_1000 : (Int16.ofInt (1000)).toInt32 = (1000 : Int32) := by decide +kernel
theorem biv_9 : (Int8.ofInt (9)).toInt32 = (9 : Int32) := by decide +kernel
theorem biv_8 : (Int8.ofInt (8)).toInt32 = (8 : Int32) := by decide +kernel
theorem biv_14 : (Int8.ofInt (14)).toInt32 = (14 : Int32) := by decide +kernel
theorem biv_13 : (Int8.ofInt (13)).toInt32 = (13 : Int32) := by decide +kernel
theorem siv_400 : (Int16.ofInt (400)).toInt32 = (400 : Int32) := by decide +kernel
theorem siv_2040 : (Int16.ofInt (2040)).toInt32 = (2040 : Int32) := by decide +kernel
theorem siv_3012 : (Int16.ofInt (3012)).toInt32 = (3012 : Int32) := by decide +kernel
theorem siv_m4096 : (Int16.ofInt (-4096)).toInt32 = (-4096 : Int32) := by decide +kernel
theorem siv_3011 : (Int16.ofInt (3011)).toInt32 = (3011 : Int32) := by decide +kernel
theorem siv_3010 : (Int16.ofInt (3010)).toInt32 = (3010 : Int32) := by decide +kernel
theorem siv_2093 : (Int16.ofInt (2093)).toInt32 = (2093 : Int32) := by decide +kernel
theorem siv_2041 : (Int16.ofInt (2041)).toInt32 = (2041 : Int32) := by decide +kernel
theorem siv_3008 : (Int16.ofInt (3008)).toInt32 = (3008 : Int32) := by decide +kernel
theorem rf_8_1 : g_ft 8 1 = 3 ∧ (∀ i, g_rf 8 1 i = (32, i)) ∧ nth grpTbl 32 9 = nth grpTbl 8 8 ∧ g_tx 32 = g_tx 8 ∧ nth cntTbl 8 0 ≤ nth cntTbl 32 0 := ⟨rfl, fun _ => rfl, rfl, rfl, by decide⟩
theorem ak_32 : g_Ak 32 12 0 := ⟨rfl, rfl, rfl, rfl, by decide⟩
theorem siv_3005 : (Int16.ofInt (3005)).toInt32 = (3005 : Int32) := by decide +kernel
theorem siv_3007 : (Int16.ofInt (3007)).toInt32 = (3007 : Int32) := by decide +kernel
theorem siv_3003 : (Int16.ofInt (3003)).toInt32 = (3003 : Int32) := by decide +kernel
theorem siv_3006 : (Int16.ofInt (3006)).toInt32 = (3006 : Int32) := by decide +kernel
theorem siv_3000 : (Int16.ofInt (3000)).toInt32 = (3000 : Int32) := by decide +kernel
theorem siv_3002 : (Int16.ofInt (3002)).toInt32 = (3002 : Int32) := by decide +kernel
theorem siv_3009 : (Int16.ofInt (3009)).toInt32 = (3009 : Int32) := by decide +kernel
theorem ax_78 : g_Ax 78 := by unfold g_Ax; decide
theorem ak_75 : g_Ak 75 256 0 := ⟨rfl, rfl, rfl, rfl, by decide⟩
theorem rf_9_12 : g_ft 9 12 = 3 ∧ (∀ i, g_rf 9 12 i = (41, 0)) ∧ nth grpTbl 41 9 = nth grpTbl 9 8 ∧ ((g_tx 41 = false ∧ 0 < nth cntTbl 41 0) ∨ (41 = 8 ∧ 0 = 0)) := ⟨rfl, fun _ => rfl, rfl, Or.inl ⟨rfl, by decide⟩⟩
theorem ak_41 : g_Ak 41 5 0 := ⟨rfl, rfl, rfl, rfl, by decide⟩
theorem biv_m5 : (Int8.ofInt (-5)).toInt32 = (-5 : Int32) := by decide +kernel
theorem rf_9_1 : g_ft 9 1 = 3 ∧ (∀ i, g_rf 9 1 i = (1, 0)) ∧ nth grpTbl 1 9 = nth grpTbl 9 8 ∧ ((g_tx 1 = false ∧ 0 < nth cntTbl 1 0) ∨ (1 = 8 ∧ 0 = 0)) := ⟨rfl, fun _ => rfl, rfl, Or.inl ⟨rfl, by decide⟩⟩
theorem rf_9_8 : g_ft 9 8 = 3 ∧ (∀ i, g_rf 9 8 i = (3, 0)) ∧ nth grpTbl 3 9 = nth grpTbl 9 8 ∧ ((g_tx 3 = false ∧ 0 < nth cntTbl 3 0) ∨ (3 = 8 ∧ 0 = 0)) := ⟨rfl, fun _ => rfl, rfl, Or.inl ⟨rfl, by decide⟩⟩
theorem rf_9_9 : g_ft 9 9 = 3 ∧ (∀ i, g_rf 9 9 i = (7, 0)) ∧ nth grpTbl 7 9 = nth grpTbl 9 8 ∧ ((g_tx 7 = false ∧ 0 < nth cntTbl 7 0) ∨ (7 = 8 ∧ 0 = 0)) := ⟨rfl, fun _ => rfl, rfl, Or.inl ⟨rfl, by decide⟩⟩
theorem ax_76 : g_Ax 76 := by unfold g_Ax; decide
theorem ax_77 : g_Ax 77 := by unfold g_Ax; decide
theorem rf_9_6 : g_ft 9 6 = 3 ∧ (∀ i, g_rf 9 6 i = (39, 0)) ∧ nth grpTbl 39 9 = nth grpTbl 9 8 ∧ ((g_tx 39 = false ∧ 0 < nth cntTbl 39 0) ∨ (39 = 8 ∧ 0 = 0)) := ⟨rfl, fun _ => rfl, rfl, Or.inl ⟨rfl, by decide⟩⟩
theorem icv_m8 : Int32.ofInt (-8) = (-8 : Int32) := by decide +kernel
theorem siv_255 : (Int16.ofInt (255)).toInt32 = (255 : Int32) := by decide +kernel
theorem biv_m6 : (Int8.ofInt (-6)).toInt32 = (-6 : Int32) := by decide +kernel
theorem rf_9_7 : g_ft 9 7 = 3 ∧ (∀ i, g_rf 9 7 i = (6, 0)) ∧ nth grpTbl 6 9 = nth grpTbl 9 8 ∧ ((g_tx 6 = false ∧ 0 < nth cntTbl 6 0) ∨ (6 = 8 ∧ 0 = 0)) := ⟨rfl, fun _ => rfl, rfl, Or.inl ⟨rfl, by decide⟩⟩
theorem rf_9_0 : g_ft 9 0 = 3 ∧ (∀ i, g_rf 9 0 i = (0, 0)) ∧ nth grpTbl 0 9 = nth grpTbl 9 8 ∧ ((g_tx 0 = false ∧ 0 < nth cntTbl 0 0) ∨ (0 = 8 ∧ 0 = 0)) := ⟨rfl, fun _ => rfl, rfl, Or.inl ⟨rfl, by decide⟩⟩
theorem rf_9_10 : g_ft 9 10 = 3 ∧ (∀ i, g_rf 9 10 i = (5, 0)) ∧ nth grpTbl 5 9 = nth grpTbl 9 8 ∧ ((g_tx 5 = false ∧ 0 < nth cntTbl 5 0) ∨ (5 = 8 ∧ 0 = 0)) := ⟨rfl, fun _ => rfl, rfl, Or.inl ⟨rfl, by decide⟩⟩
theorem rf_9_2 : g_ft 9 2 = 3 ∧ (∀ i, g_rf 9 2 i = (1, 1)) ∧ nth grpTbl 1 9 = nth grpTbl 9 8 ∧ ((g_tx 1 = false ∧ 1 < nth cntTbl 1 0) ∨ (1 = 8 ∧ 1 = 0)) := ⟨rfl, fun _ => rfl, rfl, Or.inl ⟨rfl, by decide⟩⟩
theorem rf_9_11 : g_ft 9 11 = 3 ∧ (∀ i, g_rf 9 11 i = (40, 0)) ∧ nth grpTbl 40 9 = nth grpTbl 9 8 ∧ ((g_tx 40 = false ∧ 0 < nth cntTbl 40 0) ∨ (40 = 8 ∧ 0 = 0)) := ⟨rfl, fun _ => rfl, rfl, Or.inl ⟨rfl, by decide⟩⟩
theorem ak_40 : g_Ak 40 20 3 := ⟨rfl, rfl, rfl, rfl, by decide⟩
theorem siv_1103 : (Int16.ofInt (1103)).toInt32 = (1103 : Int32) := by decide +kernel
theorem siv_12345 : (Int16.ofInt (12345)).toInt32 = (12345 : Int32) := by decide +kernel
theorem rf_9_3 : g_ft 9 3 = 3 ∧ (∀ i, g_rf 9 3 i = (1, 2)) ∧ nth grpTbl 1 9 = nth grpTbl 9 8 ∧ ((g_tx 1 = false ∧ 2 < nth cntTbl 1 0) ∨ (1 = 8 ∧ 2 = 0)) := ⟨rfl, fun _ => rfl, rfl, Or.inl ⟨rfl, by decide⟩⟩
theorem biv_60 : (Int8.ofInt (60)).toInt32 = (60 : Int32) := by decide +kernel
theorem rf_9_4 : g_ft 9 4 = 3 ∧ (∀ i, g_rf 9 4 i = (37, 0)) ∧ nth grpTbl 37 9 = nth grpTbl 9 8 ∧ ((g_tx 37 = false ∧ 0 < nth cntTbl 37 0) ∨ (37 = 8 ∧ 0 = 0)) := ⟨rfl, fun _ => rfl, rfl, Or.inl ⟨rfl, by decide⟩⟩
theorem rf_9_5 : g_ft 9 5 = 3 ∧ (∀ i, g_rf 9 5 i = (38, 0)) ∧ nth grpTbl 38 9 = nth grpTbl 9 8 ∧ ((g_tx 38 = false ∧ 0 < nth cntTbl 38 0) ∨ (38 = 8 ∧ 0 = 0)) := ⟨rfl, fun _ => rfl, rfl, Or.inl ⟨rfl, by decide⟩⟩
theorem ak_38 : g_Ak 38 2 2 := ⟨rfl, rfl, rfl, rfl, by decide⟩
theorem rf_10_1 : g_ft 10 1 = 3 ∧ (∀ i, g_rf 10 1 i = (42, 0)) ∧ nth grpTbl 42 9 = nth grpTbl 10 8 ∧ ((g_tx 42 = false ∧ 0 < nth cntTbl 42 0) ∨ (42 = 8 ∧ 0 = 0)) := ⟨rfl, fun _ => rfl, rfl, Or.inl ⟨rfl, by decide⟩⟩
theorem ak_42 : g_Ak 42 7 0 := ⟨rfl, rfl, rfl, rfl, by decide⟩
theorem rf_10_5 : g_ft 10 5 = 3 ∧ (∀ i, g_rf 10 5 i = (46, 0)) ∧ nth grpTbl 46 9 = nth grpTbl 10 8 ∧ ((g_tx 46 = false ∧ 0 < nth cntTbl 46 0) ∨ (46 = 8 ∧ 0 = 0)) := ⟨rfl, fun _ => rfl, rfl, Or.inl ⟨rfl, by decide⟩⟩
theorem rf_10_2 : g_ft 10 2 = 3 ∧ (∀ i, g_rf 10 2 i = (43, 0)) ∧ nth grpTbl 43 9 = nth grpTbl 10 8 ∧ ((g_tx 43 = false ∧ 0 < nth cntTbl 43 0) ∨ (43 = 8 ∧ 0 = 0)) := ⟨rfl, fun _ => rfl, rfl, Or.inl ⟨rfl, by decide⟩⟩
theorem ak_43 : g_Ak 43 5665 0 := ⟨rfl, rfl, rfl, rfl, by decide⟩
theorem ak_46 : g_Ak 46 30 0 := ⟨rfl, rfl, rfl, rfl, by decide⟩
theorem siv_5665 : (Int16.ofInt (5665)).toInt32 = (5665 : Int32) := by decide +kernel
theorem rf_10_3 : g_ft 10 3 = 3 ∧ (∀ i, g_rf 10 3 i = (44, 0)) ∧ nth grpTbl 44 9 = nth grpTbl 10 8 ∧ ((g_tx 44 = false ∧ 0 < nth cntTbl 44 0) ∨ (44 = 8 ∧ 0 = 0)) := ⟨rfl, fun _ => rfl, rfl, Or.inl ⟨rfl, by decide⟩⟩
theorem ak_44 : g_Ak 44 11330 0 := ⟨rfl, rfl, rfl, rfl, by decide⟩
theorem rf_10_4 : g_ft 10 4 = 3 ∧ (∀ i, g_rf 10 4 i = (45, 0)) ∧ nth grpTbl 45 9 = nth grpTbl 10 8 ∧ ((g_tx 45 = false ∧ 0 < nth cntTbl 45 0) ∨ (45 = 8 ∧ 0 = 0)) := ⟨rfl, fun _ => rfl, rfl, Or.inl ⟨rfl, by decide⟩⟩
theorem ak_45 : g_Ak 45 2 2 := ⟨rfl, rfl, rfl, rfl, by decide⟩
theorem biv_54 : (Int8.ofInt (54)).toInt32 = (54 : Int32) := by decide +kernel
theorem rf_10_35 : g_ft 10 35 = 3 ∧ (∀ i, g_rf 10 35 i = (57, 0)) ∧ nth grpTbl 57 9 = nth grpTbl 10 8 ∧ ((g_tx 57 = false ∧ 0 < nth cntTbl 57 0) ∨ (57 = 8 ∧ 0 = 0)) := ⟨rfl, fun _ => rfl, rfl, Or.inl ⟨rfl, by decide⟩⟩
theorem ak_57 : g_Ak 57 12 0 := ⟨rfl, rfl, rfl, rfl, by decide⟩
theorem biv_27 : (Int8.ofInt (27)).toInt32 = (27 : Int32) := by decide +kernel
theorem biv_51 : (Int8.ofInt (51)).toInt32 = (51 : Int32) := by decide +kernel
theorem biv_52 : (Int8.ofInt (52)).toInt32 = (52 : Int32) := by decide +kernel
theorem biv_53 : (Int8.ofInt (53)).toInt32 = (53 : Int32) := by decide +kernel
theorem rf_10_11 : g_ft 10 11 = 3 ∧ (∀ i, g_rf 10 11 i = (48, 0)) ∧ nth grpTbl 48 9 = nth grpTbl 10 8 ∧ ((g_tx 48 = false ∧ 0 < nth cntTbl 48 0) ∨ (48 = 8 ∧ 0 = 0)) := ⟨rfl, fun _ => rfl, rfl, Or.inl ⟨rfl, by decide⟩⟩
theorem ak_48 : g_Ak 48 400 1 := ⟨rfl, rfl, rfl, rfl, by decide⟩
theorem rf_10_12 : g_ft 10 12 = 3 ∧ (∀ i, g_rf 10 12 i = (49, 0)) ∧ nth grpTbl 49 9 = nth grpTbl 10 8 ∧ ((g_tx 49 = false ∧ 0 < nth cntTbl 49 0) ∨ (49 = 8 ∧ 0 = 0)) := ⟨rfl, fun _ => rfl, rfl, Or.inl ⟨rfl, by decide⟩⟩
theorem ak_49 : g_Ak 49 5 0 := ⟨rfl, rfl, rfl, rfl, by decide⟩
theorem rf_10_7 : g_ft 10 7 = 3 ∧ (∀ i, g_rf 10 7 i = (47, 0)) ∧ nth grpTbl 47 9 = nth grpTbl 10 8 ∧ ((g_tx 47 = false ∧ 0 < nth cntTbl 47 0) ∨ (47 = 8 ∧ 0 = 0)) := ⟨rfl, fun _ => rfl, rfl, Or.inl ⟨rfl, by decide⟩⟩
theorem ak_47 : g_Ak 47 138 1 := ⟨rfl, rfl, rfl, rfl, by decide⟩
theorem biv_32 : (Int8.ofInt (32)).toInt32 = (32 : Int32) := by decide +kernel
theorem rf_10_16 : g_ft 10 16 = 3 ∧ (∀ i, g_rf 10 16 i = (51, 0)) ∧ nth grpTbl 51 9 = nth grpTbl 10 8 ∧ ((g_tx 51 = false ∧ 0 < nth cntTbl 51 0) ∨ (51 = 8 ∧ 0 = 0)) := ⟨rfl, fun _ => rfl, rfl, Or.inl ⟨rfl, by decide⟩⟩
theorem ak_51 : g_Ak 51 401 0 := ⟨rfl, rfl, rfl, rfl, by decide⟩
theorem rf_10_17 : g_ft 10 17 = 3 ∧ (∀ i, g_rf 10 17 i = (52, 0)) ∧ nth grpTbl 52 9 = nth grpTbl 10 8 ∧ ((g_tx 52 = false ∧ 0 < nth cntTbl 52 0) ∨ (52 = 8 ∧ 0 = 0)) := ⟨rfl, fun _ => rfl, rfl, Or.inl ⟨rfl, by decide⟩⟩
theorem ak_52 : g_Ak 52 401 0 := ⟨rfl, rfl, rfl, rfl, by decide⟩
theorem rf_10_15 : g_ft 10 15 = 3 ∧ (∀ i, g_rf 10 15 i = (50, 0)) ∧ nth grpTbl 50 9 = nth grpTbl 10 8 ∧ ((g_tx 50 = false ∧ 0 < nth cntTbl 50 0) ∨ (50 = 8 ∧ 0 = 0)) := ⟨rfl, fun _ => rfl, rfl, Or.inl ⟨rfl, by decide⟩⟩
theorem biv_100 : (Int8.ofInt (100)).toInt32 = (100 : Int32) := by decide +kernel
theorem ak_50 : g_Ak 50 401 0 := ⟨rfl, rfl, rfl, rfl, by decide⟩
theorem rf_10_22 : g_ft 10 22 = 3 ∧ (∀ i, g_rf 10 22 i = (53, 0)) ∧ nth grpTbl 53 9 = nth grpTbl 10 8 ∧ ((g_tx 53 = false ∧ 0 < nth cntTbl 53 0) ∨ (53 = 8 ∧ 0 = 0)) := ⟨rfl, fun _ => rfl, rfl, Or.inl ⟨rfl, by decide⟩⟩
theorem ak_53 : g_Ak 53 800 0 := ⟨rfl, rfl, rfl, rfl, by decide⟩
theorem rf_10_23 : g_ft 10 23 = 3 ∧ (∀ i, g_rf 10 23 i = (54, 0)) ∧ nth grpTbl 54 9 = nth grpTbl 10 8 ∧ ((g_tx 54 = false ∧ 0 < nth cntTbl 54 0) ∨ (54 = 8 ∧ 0 = 0)) := ⟨rfl, fun _ => rfl, rfl, Or.inl ⟨rfl, by decide⟩⟩
theorem ak_54 : g_Ak 54 800 0 := ⟨rfl, rfl, rfl, rfl, by decide⟩
theorem biv_21 : (Int8.ofInt (21)).toInt32 = (21 : Int32) := by decide +kernel
theorem biv_93 : (Int8.ofInt (93)).toInt32 = (93 : Int32) := by decide +kernel
theorem biv_91 : (Int8.ofInt (91)).toInt32 = (91 : Int32) := by decide +kernel
theorem biv_42 : (Int8.ofInt (42)).toInt32 = (42 : Int32) := by decide +kernel
theorem biv_47 : (Int8.ofInt (47)).toInt32 = (47 : Int32) := by decide +kernel
theorem biv_37 : (Int8.ofInt (37)).toInt32 = (37 : Int32) := by decide +kernel
theorem biv_43 : (Int8.ofInt (43)).toInt32 = (43 : Int32) := by decide +kernel
theorem biv_45 : (Int8.ofInt (45)).toInt32 = (45 : Int32) := by decide +kernel
theorem biv_41 : (Int8.ofInt (41)).toInt32 = (41 : Int32) := by decide +kernel
theorem biv_40 : (Int8.ofInt (40)).toInt32 = (40 : Int32) := by decide +kernel
theorem biv_62 : (Int8.ofInt (62)).toInt32 = (62 : Int32) := by decide +kernel
theorem biv_61 : (Int8.ofInt (61)).toInt32 = (61 : Int32) := by decide +kernel
theorem biv_22 : (Int8.ofInt (22)).toInt32 = (22 : Int32) := by decide +kernel
theorem biv_23 : (Int8.ofInt (23)).toInt32 = (23 : Int32) := by decide +kernel
theorem biv_26 : (Int8.ofInt (26)).toInt32 = (26 : Int32) := by decide +kernel
theorem biv_59 : (Int8.ofInt (59)).toInt32 = (59 : Int32) := by decide +kernel
theorem biv_65 : (Int8.ofInt (65)).toInt32 = (65 : Int32) := by decide +kernel
theorem siv_2865 : (Int16.ofInt (2865)).toInt32 = (2865 : Int32) := by decide +kernel
theorem biv_58 : (Int8.ofInt (58)).toInt32 = (58 : Int32) := by decide +kernel
theorem biv_56 : (Int8.ofInt (56)).toInt32 = (56 : Int32) := by decide +kernel
theorem rf_10_33 : g_ft 10 33 = 3 ∧ (∀ i, g_rf 10 33 i = (56, 0)) ∧ nth grpTbl 56 9 = nth grpTbl 10 8 ∧ ((g_tx 56 = false ∧ 0 < nth cntTbl 56 0) ∨ (56 = 8 ∧ 0 = 0)) := ⟨rfl, fun _ => rfl, rfl, Or.inl ⟨rfl, by decide⟩⟩
theorem ak_56 : g_Ak 56 400 3 := ⟨rfl, rfl, rfl, rfl, by decide⟩
theorem rf_10_28 : g_ft 10 28 = 3 ∧ (∀ i, g_rf 10 28 i = (55, 0)) ∧ nth grpTbl 55 9 = nth grpTbl 10 8 ∧ ((g_tx 55 = false ∧ 0 < nth cntTbl 55 0) ∨ (55 = 8 ∧ 0 = 0)) := ⟨rfl, fun _ => rfl, rfl, Or.inl ⟨rfl, by decide⟩⟩
theorem ak_55 : g_Ak 55 8 0 := ⟨rfl, rfl, rfl, rfl, by decide⟩
theorem rf_10_42 : g_ft 10 42 = 3 ∧ (∀ i, g_rf 10 42 i = (58, 0)) ∧ nth grpTbl 58 9 = nth grpTbl 10 8 ∧ ((g_tx 58 = false ∧ 0 < nth cntTbl 58 0) ∨ (58 = 8 ∧ 0 = 0)) := ⟨rfl, fun _ => rfl, rfl, Or.inl ⟨rfl, by decide⟩⟩
theorem ak_58 : g_Ak 58 24 0 := ⟨rfl, rfl, rfl, rfl, by decide⟩
theorem rf_10_44 : g_ft 10 44 = 3 ∧ (∀ i, g_rf 10 44 i = (59, 0)) ∧ nth grpTbl 59 9 = nth grpTbl 10 8 ∧ ((g_tx 59 = false ∧ 0 < nth cntTbl 59 0) ∨ (59 = 8 ∧ 0 = 0)) := ⟨rfl, fun _ => rfl, rfl, Or.inl ⟨rfl, by decide⟩⟩
theorem ak_59 : g_Ak 59 256 0 := ⟨rfl, rfl, rfl, rfl, by decide⟩
theorem rf_10_47 : g_ft 10 47 = 3 ∧ (∀ i, g_rf 10 47 i = (61, 0)) ∧ nth grpTbl 61 9 = nth grpTbl 10 8 ∧ ((g_tx 61 = false ∧ 0 < nth cntTbl 61 0) ∨ (61 = 8 ∧ 0 = 0)) := ⟨rfl, fun _ => rfl, rfl, Or.inl ⟨rfl, by decide⟩⟩
theorem ak_61 : g_Ak 61 15625 2 := ⟨rfl, rfl, rfl, rfl, by decide⟩
theorem rf_10_48 : g_ft 10 48 = 3 ∧ (∀ i, g_rf 10 48 i = (62, 0)) ∧ nth grpTbl 62 9 = nth grpTbl 10 8 ∧ ((g_tx 62 = false ∧ 0 < nth cntTbl 62 0) ∨ (62 = 8 ∧ 0 = 0)) := ⟨rfl, fun _ => rfl, rfl, Or.inl ⟨rfl, by decide⟩⟩
theorem ak_62 : g_Ak 62 15625 0 := ⟨rfl, rfl, rfl, rfl, by decide⟩
theorem rf_10_49 : g_ft 10 49 = 3 ∧ (∀ i, g_rf 10 49 i = (63, 0)) ∧ nth grpTbl 63 9 = nth grpTbl 10 8 ∧ ((g_tx 63 = false ∧ 0 < nth cntTbl 63 0) ∨ (63 = 8 ∧ 0 = 0)) := ⟨rfl, fun _ => rfl, rfl, Or.inl ⟨rfl, by decide⟩⟩
theorem ak_63 : g_Ak 63 15625 0 := ⟨rfl, rfl, rfl, rfl, by decide⟩
theorem rf_10_50 : g_ft 10 50 = 3 ∧ (∀ i, g_rf 10 50 i = (64, 0)) ∧ nth grpTbl 64 9 = nth grpTbl 10 8 ∧ ((g_tx 64 = false ∧ 0 < nth cntTbl 64 0) ∨ (64 = 8 ∧ 0 = 0)) := ⟨rfl, fun _ => rfl, rfl, Or.inl ⟨rfl, by decide⟩⟩
theorem ak_64 : g_Ak 64 625 0 := ⟨rfl, rfl, rfl, rfl, by decide⟩
theorem siv_625 : (Int16.ofInt (625)).toInt32 = (625 : Int32) := by decide +kernel
theorem rf_10_51 : g_ft 10 51 = 3 ∧ (∀ i, g_rf 10 51 i = (65, 0)) ∧ nth grpTbl 65 9 = nth grpTbl 10 8 ∧ ((g_tx 65 = false ∧ 0 < nth cntTbl 65 0) ∨ (65 = 8 ∧ 0 = 0)) := ⟨rfl, fun _ => rfl, rfl, Or.inl ⟨rfl, by decide⟩⟩
theorem ak_65 : g_Ak 65 625 3 := ⟨rfl, rfl, rfl, rfl, by decide⟩
theorem rf_10_52 : g_ft 10 52 = 3 ∧ (∀ i, g_rf 10 52 i = (66, 0)) ∧ nth grpTbl 66 9 = nth grpTbl 10 8 ∧ ((g_tx 66 = false ∧ 0 < nth cntTbl 66 0) ∨ (66 = 8 ∧ 0 = 0)) := ⟨rfl, fun _ => rfl, rfl, Or.inl ⟨rfl, by decide⟩⟩
theorem ak_66 : g_Ak 66 625 2 := ⟨rfl, rfl, rfl, rfl, by decide⟩
theorem rf_10_53 : g_ft 10 53 = 3 ∧ (∀ i, g_rf 10 53 i = (67, 0)) ∧ nth grpTbl 67 9 = nth grpTbl 10 8 ∧ ((g_tx 67 = false ∧ 0 < nth cntTbl 67 0) ∨ (67 = 8 ∧ 0 = 0)) := ⟨rfl, fun _ => rfl, rfl, Or.inl ⟨rfl, by decide⟩⟩
theorem rf_10_55 : g_ft 10 55 = 3 ∧ (∀ i, g_rf 10 55 i = (69, 0)) ∧ nth grpTbl 69 9 = nth grpTbl 10 8 ∧ ((g_tx 69 = false ∧ 0 < nth cntTbl 69 0) ∨ (69 = 8 ∧ 0 = 0)) := ⟨rfl, fun _ => rfl, rfl, Or.inl ⟨rfl, by decide⟩⟩
theorem ak_69 : g_Ak 69 2 0 := ⟨rfl, rfl, rfl, rfl, by decide⟩
theorem ak_67 : g_Ak 67 26 0 := ⟨rfl, rfl, rfl, rfl, by decide⟩
theorem rf_10_54 : g_ft 10 54 = 3 ∧ (∀ i, g_rf 10 54 i = (68, 0)) ∧ nth grpTbl 68 9 = nth grpTbl 10 8 ∧ ((g_tx 68 = false ∧ 0 < nth cntTbl 68 0) ∨ (68 = 8 ∧ 0 = 0)) := ⟨rfl, fun _ => rfl, rfl, Or.inl ⟨rfl, by decide⟩⟩
theorem ak_68 : g_Ak 68 26 0 := ⟨rfl, rfl, rfl, rfl, by decide⟩
theorem biv_39 : (Int8.ofInt (39)).toInt32 = (39 : Int32) := by decide +kernel
theorem biv_55 : (Int8.ofInt (55)).toInt32 = (55 : Int32) := by decide +kernel
theorem rf_10_56 : g_ft 10 56 = 3 ∧ (∀ i, g_rf 10 56 i = (70, 0)) ∧ nth grpTbl 70 9 = nth grpTbl 10 8 ∧ ((g_tx 70 = false ∧ 0 < nth cntTbl 70 0) ∨ (70 = 8 ∧ 0 = 0)) := ⟨rfl, fun _ => rfl, rfl, Or.inl ⟨rfl, by decide⟩⟩
theorem ak_70 : g_Ak 70 96 0 := ⟨rfl, rfl, rfl, rfl, by decide⟩
theorem rf_10_57 : g_ft 10 57 = 3 ∧ (∀ i, g_rf 10 57 i = (71, 0)) ∧ nth grpTbl 71 9 = nth grpTbl 10 8 ∧ ((g_tx 71 = false ∧ 0 < nth cntTbl 71 0) ∨ (71 = 8 ∧ 0 = 0)) := ⟨rfl, fun _ => rfl, rfl, Or.inl ⟨rfl, by decide⟩⟩
theorem ak_71 : g_Ak 71 21 3 := ⟨rfl, rfl, rfl, rfl, by decide⟩
theorem rf_10_64 : g_ft 10 64 = 3 ∧ (∀ i, g_rf 10 64 i = (72, 0)) ∧ nth grpTbl 72 9 = nth grpTbl 10 8 ∧ ((g_tx 72 = false ∧ 0 < nth cntTbl 72 0) ∨ (72 = 8 ∧ 0 = 0)) := ⟨rfl, fun _ => rfl, rfl, Or.inl ⟨rfl, by decide⟩⟩
theorem ak_72 : g_Ak 72 2 3 := ⟨rfl, rfl, rfl, rfl, by decide⟩
theorem siv_256 : (Int16.ofInt (256)).toInt32 = (256 : Int32) := by decide +kernel
theorem rf_10_45 : g_ft 10 45 = 3 ∧ (∀ i, g_rf 10 45 i = (60, 0)) ∧ nth grpTbl 60 9 = nth grpTbl 10 8 ∧ ((g_tx 60 = false ∧ 0 < nth cntTbl 60 0) ∨ (60 = 8 ∧ 0 = 0)) := ⟨rfl, fun _ => rfl, rfl, Or.inl ⟨rfl, by decide⟩⟩
theorem ak_60 : g_Ak 60 256 0 := ⟨rfl, rfl, rfl, rfl, by decide⟩
theorem siv_2400 : (Int16.ofInt (2400)).toInt32 = (2400 : Int32) := by decide +kernel
theorem rf_10_65 : g_ft 10 65 = 3 ∧ (∀ i, g_rf 10 65 i = (73, 0)) ∧ nth grpTbl 73 9 = nth grpTbl 10 8 ∧ ((g_tx 73 = false ∧ 0 < nth cntTbl 73 0) ∨ (73 = 8 ∧ 0 = 0)) := ⟨rfl, fun _ => rfl, rfl, Or.inl ⟨rfl, by decide⟩⟩
theorem ak_73 : g_Ak 73 15 0 := ⟨rfl, rfl, rfl, rfl, by decide⟩
def L_x1_has : List Nat := [27, 155, 0, 21, 27, 42, 180, 0, 46, 162, 0, 13, 27, 16, 12, 162, 0, 7, 4, 167, 0, 4, 3, 172]
theorem bs_x1_has : g_bs cX1_has L_x1_has := by unfold g_bs; decide +kernel
def L_x1_whyNot : List Nat := [27, 6, 160, 0, 22, 42, 180, 0, 21, 3, 46, 17, 3, 231, 161, 0, 8, 16, 253, 167, 0, 4, 3, 172, 27, 5, 160, 0, 16, 29, 4, 161, 0, 9, 29, 16, 20, 164, 0, 5, 2, 172, 42, 28, 182, 0, 61, 154, 0, 6, 16, 254, 172, 27, 154, 0, 20, 28, 42, 180, 0, 46, 4, 100, 160, 0, 8, 16, 253, 167, 0, 4, 3, 172, 27, 4, 160, 0, 19, 42, 180, 0, 15, 28, 46, 154, 0, 8, 16, 253, 167, 0, 4, 3, 172, 29, 42, 180, 0, 9, 28, 46, 159, 0, 13, 29, 42, 180, 0, 15, 28, 46, 163, 0, 8, 16, 253, 167, 0, 4, 3, 172]
theorem bs_x1_whyNot : g_bs cX1_whyNot L_x1_whyNot := by unfold g_bs; decide +kernel
def L_x1_wideOf : List Nat := [42, 27, 182, 0, 61, 153, 0, 12, 42, 180, 0, 9, 27, 46, 167, 0, 4, 2, 172]
theorem bs_x1_wideOf : g_bs cX1_wideOf L_x1_wideOf := by unfold g_bs; decide +kernel
def L_x3_dropOldest : List Nat := [42, 180, 0, 9, 4, 42, 180, 0, 9, 3, 16, 15, 184, 0, 21, 42, 180, 0, 15, 4, 42, 180, 0, 15, 3, 16, 15, 184, 0, 21, 42, 180, 0, 18, 4, 42, 180, 0, 18, 3, 16, 15, 184, 0, 21, 42, 16, 15, 181, 0, 27, 177]
theorem bs_x3_dropOldest : g_bs cX3_dropOldest L_x3_dropOldest := by unfold g_bs; decide +kernel
def L_x3_note : List Nat := [42, 180, 0, 27, 16, 16, 161, 0, 7, 42, 182, 0, 31, 42, 180, 0, 27, 155, 0, 52, 42, 180, 0, 27, 16, 16, 162, 0, 43, 42, 180, 0, 9, 42, 180, 0, 27, 27, 79, 42, 180, 0, 15, 42, 180, 0, 27, 28, 79, 42, 180, 0, 18, 42, 180, 0, 27, 29, 79, 42, 89, 180, 0, 27, 4, 96, 181, 0, 27, 177]
theorem bs_x3_note : g_bs cX3_note L_x3_note := by unfold g_bs; decide +kernel
def L_x1_carryOutIfItCanBe : List Nat := [42, 27, 28, 29, 182, 0, 78, 153, 0, 4, 177, 27, 154, 0, 18, 42, 89, 180, 0, 49, 4, 28, 120, 130, 181, 0, 49, 167, 0, 48, 27, 4, 160, 0, 18, 42, 89, 180, 0, 52, 4, 28, 120, 130, 181, 0, 52, 167, 0, 28, 27, 5, 160, 0, 13, 42, 180, 0, 9, 28, 29, 79, 167, 0, 13, 42, 180, 0, 21, 3, 92, 46, 4, 96, 79, 177]
theorem bs_x1_carryOutIfItCanBe : g_bs cX1_carryOutIfItCanBe L_x1_carryOutIfItCanBe := by unfold g_bs; decide +kernel
def L_x0_attempt : List Nat := [42, 180, 0, 12, 27, 28, 29, 182, 0, 53, 54, 4, 21, 4, 154, 0, 30, 42, 180, 0, 21, 27, 28, 42, 180, 0, 12, 28, 182, 0, 57, 182, 0, 61, 42, 180, 0, 12, 27, 28, 29, 182, 0, 65, 21, 4, 172]
theorem bs_x0_attempt : g_bs cX0_attempt L_x0_attempt := by unfold g_bs; decide +kernel
def L_x1_copyFrom : List Nat := [43, 180, 0, 9, 3, 42, 180, 0, 9, 3, 16, 12, 184, 0, 40, 43, 180, 0, 15, 3, 42, 180, 0, 15, 3, 16, 12, 184, 0, 40, 43, 180, 0, 18, 3, 42, 180, 0, 18, 3, 16, 12, 184, 0, 40, 43, 180, 0, 21, 3, 42, 180, 0, 21, 3, 7, 184, 0, 40, 43, 180, 0, 24, 3, 42, 180, 0, 24, 3, 16, 6, 184, 0, 40, 43, 180, 0, 27, 3, 42, 180, 0, 27, 3, 16, 6, 184, 0, 40, 3, 61, 28, 16, 6, 162, 0, 21, 42, 180, 0, 32, 28, 43, 180, 0, 32, 28, 50, 83, 132, 2, 1, 167, 255, 235, 42, 43, 180, 0, 46, 181, 0, 46, 42, 43, 180, 0, 49, 181, 0, 49, 42, 43, 180, 0, 52, 181, 0, 52, 42, 43, 180, 0, 55, 181, 0, 55, 42, 43, 180, 0, 58, 181, 0, 58, 42, 43, 180, 0, 36, 181, 0, 36, 177]
theorem bs_x1_copyFrom : g_bs cX1_copyFrom L_x1_copyFrom := by unfold g_bs; decide +kernel
def L_x3_copyFrom : List Nat := [43, 180, 0, 9, 3, 42, 180, 0, 9, 3, 16, 16, 184, 0, 21, 43, 180, 0, 15, 3, 42, 180, 0, 15, 3, 16, 16, 184, 0, 21, 43, 180, 0, 18, 3, 42, 180, 0, 18, 3, 16, 16, 184, 0, 21, 42, 43, 180, 0, 27, 181, 0, 27, 177]
theorem bs_x3_copyFrom : g_bs cX3_copyFrom L_x3_copyFrom := by unfold g_bs; decide +kernel
def L_x0_begin : List Nat := [42, 180, 0, 39, 42, 180, 0, 12, 182, 0, 68, 42, 180, 0, 42, 42, 180, 0, 21, 182, 0, 72, 42, 3, 181, 0, 75, 42, 2, 181, 0, 49, 177]
theorem bs_x0_begin : g_bs cX0_begin L_x0_begin := by unfold g_bs; decide +kernel
def L_x0_giveUp : List Nat := [42, 180, 0, 12, 42, 180, 0, 39, 182, 0, 68, 42, 180, 0, 21, 42, 180, 0, 42, 182, 0, 72, 177]
theorem bs_x0_giveUp : g_bs cX0_giveUp L_x0_giveUp := by unfold g_bs; decide +kernel
def L_x1_isSplit : List Nat := [42, 27, 182, 0, 61, 153, 0, 19, 42, 180, 0, 52, 27, 122, 4, 126, 4, 160, 0, 7, 4, 167, 0, 4, 3, 172]
theorem bs_x1_isSplit : g_bs cX1_isSplit L_x1_isSplit := by unfold g_bs; decide +kernel
def L_x1_endsAfter : List Nat := [42, 27, 182, 0, 61, 153, 0, 29, 27, 42, 180, 0, 46, 4, 100, 159, 0, 15, 42, 180, 0, 49, 27, 122, 4, 126, 4, 160, 0, 7, 4, 167, 0, 4, 3, 172]
theorem bs_x1_endsAfter : g_bs cX1_endsAfter L_x1_endsAfter := by unfold g_bs; decide +kernel
def L_x1_endsAt : List Nat := [27, 5, 112, 154, 0, 13, 42, 27, 5, 108, 182, 0, 65, 167, 0, 10, 42, 27, 5, 108, 182, 0, 68, 172]
theorem bs_x1_endsAt : g_bs cX1_endsAt L_x1_endsAt := by unfold g_bs; decide +kernel
def L_x1_pieceOf : List Nat := [42, 27, 182, 0, 61, 154, 0, 5, 3, 172, 29, 5, 27, 104, 160, 0, 10, 42, 180, 0, 15, 27, 46, 172, 28, 5, 27, 104, 160, 0, 19, 42, 180, 0, 9, 27, 46, 42, 180, 0, 15, 27, 46, 100, 167, 0, 9, 42, 180, 0, 9, 27, 46, 172]
theorem bs_x1_pieceOf : g_bs cX1_pieceOf L_x1_pieceOf := by unfold g_bs; decide +kernel
def L_x2_measureUp : List Nat := [42, 29, 181, 0, 22, 42, 42, 180, 0, 22, 5, 112, 154, 0, 7, 4, 167, 0, 4, 3, 181, 0, 26, 42, 3, 181, 0, 29, 28, 4, 96, 5, 108, 54, 4, 21, 4, 42, 180, 0, 22, 5, 108, 163, 0, 52, 42, 89, 180, 0, 26, 43, 21, 4, 28, 42, 180, 0, 22, 182, 0, 32, 42, 180, 0, 29, 158, 0, 7, 4, 167, 0, 4, 3, 96, 96, 181, 0, 26, 42, 89, 180, 0, 29, 4, 96, 181, 0, 29, 132, 4, 1, 167, 255, 199, 177]
theorem bs_x2_measureUp : g_bs cX2_measureUp L_x2_measureUp := by unfold g_bs; decide +kernel
def L_x1_lawOf : List Nat := [27, 155, 0, 26, 27, 42, 180, 0, 58, 162, 0, 18, 27, 16, 6, 162, 0, 12, 42, 180, 0, 32, 27, 50, 167, 0, 4, 1, 176]
theorem bs_x1_lawOf : g_bs cX1_lawOf L_x1_lawOf := by unfold g_bs; decide +kernel
def L_x1_lawInForce : List Nat := [42, 42, 180, 0, 36, 182, 0, 74, 176]
theorem bs_x1_lawInForce : g_bs cX1_lawInForce L_x1_lawInForce := by unfold g_bs; decide +kernel
def L_x2_gatherFacts : List Nat := [42, 180, 0, 22, 5, 108, 54, 4, 42, 180, 0, 9, 3, 29, 79, 42, 180, 0, 9, 4, 42, 180, 0, 29, 79, 42, 180, 0, 9, 5, 28, 42, 180, 0, 26, 100, 79, 42, 180, 0, 9, 6, 42, 180, 0, 22, 5, 112, 154, 0, 7, 4, 167, 0, 4, 3, 79, 42, 180, 0, 9, 7, 42, 180, 0, 22, 5, 43, 180, 0, 89, 104, 4, 100, 160, 0, 7, 4, 167, 0, 4, 3, 79, 42, 180, 0, 9, 8, 43, 21, 4, 182, 0, 92, 153, 0, 13, 43, 180, 0, 96, 21, 4, 46, 167, 0, 4, 3, 79, 42, 180, 0, 9, 16, 7, 43, 180, 0, 99, 3, 46, 79, 42, 180, 0, 9, 16, 6, 43, 180, 0, 99, 5, 46, 79, 177]
theorem bs_x2_gatherFacts : g_bs cX2_gatherFacts L_x2_gatherFacts := by unfold g_bs; decide +kernel
def L_x4_combine : List Nat := [9, 55, 6, 27, 170, 0, 0, 0, 0, 0, 0, 169, 0, 0, 0, 7, 0, 0, 0, 13, 0, 0, 0, 44, 0, 0, 0, 53, 0, 0, 0, 62, 0, 0, 0, 71, 0, 0, 0, 107, 0, 0, 0, 143, 0, 0, 0, 156, 32, 22, 4, 97, 55, 6, 167, 0, 132, 32, 22, 4, 101, 55, 6, 167, 0, 123, 32, 22, 4, 105, 55, 6, 167, 0, 114, 42, 22, 4, 9, 148, 154, 0, 7, 4, 167, 0, 4, 3, 181, 0, 21, 22, 4, 9, 148, 154, 0, 7, 9, 167, 0, 7, 32, 22, 4, 109, 55, 6, 167, 0, 78, 42, 22, 4, 9, 148, 154, 0, 7, 4, 167, 0, 4, 3, 181, 0, 21, 22, 4, 9, 148, 154, 0, 7, 9, 167, 0, 7, 32, 22, 4, 113, 55, 6, 167, 0, 42, 32, 22, 4, 148, 156, 0, 7, 10, 167, 0, 4, 9, 173, 32, 22, 4, 148, 158, 0, 7, 10, 167, 0, 4, 9, 173, 32, 22, 4, 148, 154, 0, 7, 10, 167, 0, 4, 9, 173, 42, 42, 180, 0, 21, 154, 0, 21, 22, 6, 20, 0, 29, 148, 157, 0, 12, 22, 6, 20, 0, 31, 148, 156, 0, 7, 4, 167, 0, 4, 3, 181, 0, 21, 22, 6, 173]
theorem bs_x4_combine : g_bs cX4_combine L_x4_combine := by unfold g_bs; decide +kernel
def L_x4_valueOf : List Nat := [43, 180, 0, 15, 58, 4, 3, 54, 5, 28, 54, 6, 42, 3, 181, 0, 21, 3, 54, 7, 21, 7, 25, 4, 190, 162, 1, 5, 21, 6, 155, 1, 0, 21, 6, 25, 4, 190, 162, 0, 248, 25, 4, 21, 6, 46, 16, 12, 122, 54, 8, 25, 4, 21, 6, 46, 17, 15, 255, 126, 54, 9, 132, 6, 1, 21, 8, 4, 159, 0, 9, 21, 8, 5, 160, 0, 56, 21, 5, 16, 64, 162, 0, 205, 21, 8, 5, 160, 0, 13, 21, 9, 45, 190, 161, 0, 6, 167, 0, 189, 42, 180, 0, 9, 21, 5, 21, 8, 4, 160, 0, 9, 21, 9, 133, 167, 0, 8, 45, 21, 9, 46, 133, 80, 132, 5, 1, 167, 0, 153, 21, 5, 4, 162, 0, 6, 167, 0, 150, 42, 180, 0, 9, 21, 5, 4, 100, 47, 55, 10, 21, 8, 16, 6, 160, 0, 6, 22, 10, 173, 21, 8, 6, 160, 0, 19, 42, 180, 0, 9, 21, 5, 4, 100, 10, 22, 10, 101, 80, 167, 0, 101, 21, 8, 7, 160, 0, 10, 22, 10, 9, 148, 153, 0, 16, 21, 8, 8, 160, 0, 17, 22, 10, 9, 148, 153, 0, 10, 21, 9, 54, 6, 167, 0, 68, 21, 8, 7, 159, 0, 9, 21, 8, 8, 160, 0, 9, 132, 5, 255, 167, 0, 50, 21, 5, 5, 162, 0, 6, 167, 0, 47, 132, 5, 255, 42, 180, 0, 9, 21, 5, 4, 100, 42, 21, 8, 42, 180, 0, 9, 21, 5, 4, 100, 47, 22, 10, 182, 0, 25, 80, 42, 180, 0, 21, 153, 0, 5, 9, 173, 132, 7, 1, 167, 254, 249, 42, 4, 181, 0, 21, 9, 173]
theorem bs_x4_valueOf : g_bs cX4_valueOf L_x4_valueOf := by unfold g_bs; decide +kernel
def L_x9_clamp : List Nat := [9, 30, 28, 133, 184, 1, 60, 184, 1, 64, 136, 172]
theorem bs_x9_clamp : g_bs cX9_clamp L_x9_clamp := by unfold g_bs; decide +kernel
def L_x2_judge : List Nat := [42, 43, 29, 21, 4, 182, 0, 38, 42, 42, 180, 0, 9, 7, 46, 4, 160, 0, 7, 3, 167, 0, 13, 3, 42, 180, 0, 9, 5, 46, 184, 0, 42, 181, 0, 48, 42, 42, 180, 0, 29, 181, 0, 51, 42, 3, 181, 0, 54, 44, 199, 0, 7, 3, 167, 0, 12, 44, 180, 0, 58, 16, 12, 184, 0, 63, 54, 6, 3, 54, 7, 21, 7, 21, 6, 162, 0, 155, 21, 5, 153, 0, 17, 44, 180, 0, 66, 21, 7, 46, 5, 159, 0, 6, 167, 0, 130, 44, 180, 0, 69, 21, 7, 46, 2, 159, 0, 30, 42, 180, 0, 18, 44, 44, 180, 0, 69, 21, 7, 46, 42, 180, 0, 9, 182, 0, 72, 9, 148, 154, 0, 6, 167, 0, 92, 44, 180, 0, 66, 21, 7, 46, 5, 160, 0, 11, 42, 4, 181, 0, 54, 167, 0, 73, 42, 180, 0, 18, 44, 44, 180, 0, 76, 21, 7, 46, 42, 180, 0, 9, 182, 0, 72, 55, 8, 42, 180, 0, 18, 180, 0, 79, 153, 0, 6, 167, 0, 39, 44, 180, 0, 66, 21, 7, 46, 154, 0, 18, 42, 22, 8, 17, 3, 231, 184, 0, 82, 181, 0, 48, 167, 0, 14, 42, 22, 8, 16, 99, 184, 0, 82, 181, 0, 51, 132, 7, 1, 167, 255, 100, 42, 42, 180, 0, 26, 29, 163, 0, 14, 42, 180, 0, 54, 154, 0, 7, 4, 167, 0, 4, 3, 181, 0, 86, 177]
theorem bs_x2_judge : g_bs cX2_judge L_x2_judge := by unfold g_bs; decide +kernel
def L_x7_writeDown : List Nat := [27, 155, 0, 9, 27, 16, 24, 161, 0, 4, 177, 42, 180, 0, 11, 3, 50, 27, 42, 180, 0, 26, 180, 0, 62, 79, 42, 180, 0, 11, 4, 50, 27, 42, 180, 0, 26, 180, 0, 65, 79, 42, 180, 0, 11, 5, 50, 27, 42, 180, 0, 26, 180, 0, 68, 79, 42, 180, 0, 11, 6, 50, 27, 42, 180, 0, 26, 180, 0, 71, 79, 42, 180, 0, 11, 7, 50, 27, 42, 180, 0, 26, 180, 0, 74, 79, 42, 180, 0, 11, 8, 50, 27, 42, 180, 0, 26, 180, 0, 77, 153, 0, 7, 4, 167, 0, 4, 3, 79, 42, 180, 0, 11, 16, 6, 50, 27, 42, 180, 0, 26, 180, 0, 81, 153, 0, 7, 4, 167, 0, 4, 3, 79, 177]
theorem bs_x7_writeDown : g_bs cX7_writeDown L_x7_writeDown := by unfold g_bs; decide +kernel
def L_x7_readSetting : List Nat := [2, 61, 42, 3, 181, 0, 30, 3, 62, 29, 5, 43, 180, 0, 34, 104, 162, 0, 79, 42, 180, 0, 30, 16, 24, 162, 0, 70, 43, 29, 182, 0, 39, 153, 0, 56, 42, 180, 0, 26, 43, 28, 29, 182, 0, 43, 42, 180, 0, 26, 43, 43, 182, 0, 47, 43, 180, 0, 51, 6, 46, 42, 180, 0, 30, 3, 182, 0, 54, 42, 42, 180, 0, 30, 182, 0, 58, 42, 89, 180, 0, 30, 4, 96, 181, 0, 30, 29, 61, 132, 3, 1, 167, 255, 173, 177]
theorem bs_x7_readSetting : g_bs cX7_readSetting L_x7_readSetting := by unfold g_bs; decide +kernel
def L_x7_tellOf : List Nat := [27, 155, 0, 38, 27, 16, 7, 162, 0, 32, 28, 155, 0, 28, 28, 42, 180, 0, 30, 162, 0, 20, 28, 16, 24, 162, 0, 14, 42, 180, 0, 11, 27, 50, 28, 46, 167, 0, 4, 2, 172]
theorem bs_x7_tellOf : g_bs cX7_tellOf L_x7_tellOf := by unfold g_bs; decide +kernel
def L_x7_together : List Nat := [3, 61, 3, 62, 29, 42, 180, 0, 30, 162, 0, 18, 28, 42, 27, 29, 182, 0, 84, 96, 61, 132, 3, 1, 167, 255, 236, 28, 172]
theorem bs_x7_together : g_bs cX7_together L_x7_together := by unfold g_bs; decide +kernel
def L_x0_endsOf : List Nat := [42, 180, 0, 12, 27, 182, 0, 121, 154, 0, 5, 2, 172, 42, 180, 0, 12, 27, 182, 0, 125, 153, 0, 7, 4, 167, 0, 4, 3, 42, 180, 0, 12, 27, 182, 0, 128, 153, 0, 7, 5, 167, 0, 4, 3, 96, 172]
theorem bs_x0_endsOf : g_bs cX0_endsOf L_x0_endsOf := by unfold g_bs; decide +kernel
def L_x0_gatherOrderFacts : List Nat := [42, 180, 0, 45, 3, 42, 180, 0, 12, 180, 0, 109, 3, 46, 79, 42, 180, 0, 45, 4, 42, 180, 0, 75, 79, 42, 180, 0, 45, 5, 42, 180, 0, 49, 79, 42, 180, 0, 45, 6, 42, 180, 0, 28, 180, 0, 112, 79, 42, 180, 0, 45, 7, 42, 180, 0, 28, 16, 6, 182, 0, 115, 79, 3, 60, 27, 16, 12, 162, 0, 39, 42, 180, 0, 45, 8, 27, 96, 42, 180, 0, 12, 27, 182, 0, 57, 79, 42, 180, 0, 45, 16, 17, 27, 96, 42, 27, 182, 0, 118, 79, 132, 1, 1, 167, 255, 217, 177]
theorem bs_x0_gatherOrderFacts : g_bs cX0_gatherOrderFacts L_x0_gatherOrderFacts := by unfold g_bs; decide +kernel
def L_x0_runOnce : List Nat := [28, 155, 0, 9, 28, 16, 12, 161, 0, 5, 3, 172, 42, 180, 0, 28, 42, 180, 0, 12, 182, 0, 78, 42, 182, 0, 81, 43, 180, 0, 84, 28, 46, 2, 159, 0, 28, 42, 180, 0, 35, 43, 43, 180, 0, 84, 28, 46, 42, 180, 0, 45, 182, 0, 89, 9, 148, 154, 0, 5, 4, 172, 9, 66, 9, 55, 5, 43, 180, 0, 93, 28, 46, 2, 159, 0, 34, 42, 180, 0, 35, 43, 43, 180, 0, 93, 28, 46, 42, 180, 0, 45, 182, 0, 89, 66, 42, 180, 0, 35, 180, 0, 96, 153, 0, 5, 3, 172, 43, 180, 0, 100, 28, 46, 2, 159, 0, 35, 42, 180, 0, 35, 43, 43, 180, 0, 100, 28, 46, 42, 180, 0, 45, 182, 0, 89, 55, 5, 42, 180, 0, 35, 180, 0, 96, 153, 0, 5, 3, 172, 42, 43, 180, 0, 103, 28, 46, 33, 136, 22, 5, 136, 182, 0, 106, 153, 0, 5, 3, 172, 43, 180, 0, 103, 28, 46, 6, 160, 0, 13, 42, 42, 180, 0, 45, 7, 46, 181, 0, 49, 42, 89, 180, 0, 75, 4, 96, 181, 0, 75, 4, 172]
theorem bs_x0_runOnce : g_bs cX0_runOnce L_x0_runOnce := by unfold g_bs; decide +kernel
def L_x1_canBeSplit : List Nat := [42, 27, 182, 0, 61, 153, 0, 16, 42, 180, 0, 15, 27, 46, 158, 0, 7, 4, 167, 0, 4, 3, 172]
theorem bs_x1_canBeSplit : g_bs cX1_canBeSplit L_x1_canBeSplit := by unfold g_bs; decide +kernel
def L_x1_canEndAt : List Nat := [27, 5, 112, 154, 0, 13, 42, 27, 5, 108, 182, 0, 71, 167, 0, 10, 42, 27, 5, 108, 182, 0, 61, 172]
theorem bs_x1_canEndAt : g_bs cX1_canEndAt L_x1_canEndAt := by unfold g_bs; decide +kernel
def L_x1_addWord : List Nat := [42, 180, 0, 46, 155, 0, 52, 42, 180, 0, 46, 16, 12, 162, 0, 43, 42, 180, 0, 9, 42, 180, 0, 46, 27, 79, 42, 180, 0, 15, 42, 180, 0, 46, 28, 79, 42, 180, 0, 18, 42, 180, 0, 46, 29, 79, 42, 89, 180, 0, 46, 4, 96, 181, 0, 46, 177]
theorem bs_x1_addWord : g_bs cX1_addWord L_x1_addWord := by unfold g_bs; decide +kernel
def L_x1_dropWord : List Nat := [42, 27, 182, 0, 61, 154, 0, 4, 177, 27, 61, 28, 4, 96, 42, 180, 0, 46, 162, 0, 59, 28, 4, 96, 16, 12, 162, 0, 51, 42, 180, 0, 9, 28, 42, 180, 0, 9, 28, 4, 96, 46, 79, 42, 180, 0, 15, 28, 42, 180, 0, 15, 28, 4, 96, 46, 79, 42, 180, 0, 18, 28, 42, 180, 0, 18, 28, 4, 96, 46, 79, 132, 2, 1, 167, 255, 193, 42, 89, 180, 0, 46, 4, 100, 181, 0, 46, 177]
theorem bs_x1_dropWord : g_bs cX1_dropWord L_x1_dropWord := by unfold g_bs; decide +kernel
def L_x1_canForce : List Nat := [27, 2, 161, 0, 15, 27, 42, 180, 0, 58, 162, 0, 7, 4, 167, 0, 4, 3, 172]
theorem bs_x1_canForce : g_bs cX1_canForce L_x1_canForce := by unfold g_bs; decide +kernel
def L_x3_takeBack : List Nat := [42, 180, 0, 27, 158, 0, 12, 42, 180, 0, 27, 16, 16, 164, 0, 5, 2, 172, 42, 89, 180, 0, 27, 4, 100, 181, 0, 27, 42, 180, 0, 9, 42, 180, 0, 27, 46, 6, 160, 0, 16, 43, 180, 0, 34, 3, 92, 46, 4, 100, 79, 167, 0, 34, 43, 42, 180, 0, 9, 42, 180, 0, 27, 46, 42, 180, 0, 15, 42, 180, 0, 27, 46, 42, 180, 0, 18, 42, 180, 0, 27, 46, 182, 0, 39, 42, 180, 0, 9, 42, 180, 0, 27, 46, 172]
theorem bs_x3_takeBack : g_bs cX3_takeBack L_x3_takeBack := by unfold g_bs; decide +kernel
def L_x5_slot : List Nat := [26, 2, 161, 0, 19, 26, 16, 24, 162, 0, 13, 27, 155, 0, 9, 27, 16, 25, 161, 0, 5, 2, 172, 26, 4, 96, 16, 25, 104, 27, 96, 172]
theorem bs_x5_slot : g_bs cX5_slot L_x5_slot := by unfold g_bs; decide +kernel
def L_x5_isBetter : List Nat := [27, 42, 180, 0, 9, 29, 46, 159, 0, 19, 27, 42, 180, 0, 9, 29, 46, 162, 0, 7, 4, 167, 0, 4, 3, 172, 28, 42, 180, 0, 18, 29, 46, 130, 54, 4, 28, 21, 4, 126, 21, 4, 116, 126, 153, 0, 7, 4, 167, 0, 4, 3, 172]
theorem bs_x5_isBetter : g_bs cX5_isBetter L_x5_isBetter := by unfold g_bs; decide +kernel
def L_x5_join : List Nat := [42, 180, 0, 9, 27, 46, 42, 180, 0, 28, 180, 0, 85, 96, 62, 42, 180, 0, 18, 27, 46, 4, 42, 180, 0, 28, 180, 0, 66, 120, 128, 54, 4, 42, 180, 0, 21, 28, 47, 9, 148, 154, 0, 7, 4, 167, 0, 4, 3, 54, 5, 21, 5, 154, 0, 14, 42, 29, 21, 4, 28, 182, 0, 87, 153, 0, 18, 42, 180, 0, 9, 28, 29, 79, 42, 180, 0, 18, 28, 21, 4, 79, 42, 180, 0, 15, 27, 46, 42, 180, 0, 28, 180, 0, 91, 96, 54, 6, 42, 180, 0, 15, 28, 21, 5, 153, 0, 8, 21, 6, 167, 0, 14, 21, 6, 42, 180, 0, 15, 28, 46, 184, 0, 93, 79, 42, 180, 0, 21, 28, 92, 47, 42, 180, 0, 21, 27, 47, 97, 80, 177]
theorem bs_x5_join : g_bs cX5_join L_x5_join := by unfold g_bs; decide +kernel
def L_x5_layLine : List Nat := [3, 54, 6, 3, 54, 7, 21, 7, 16, 24, 162, 0, 112, 21, 4, 21, 7, 184, 0, 62, 54, 8, 42, 180, 0, 28, 180, 0, 66, 21, 7, 4, 96, 184, 0, 62, 54, 9, 21, 8, 2, 159, 0, 75, 21, 9, 2, 159, 0, 69, 42, 180, 0, 21, 21, 8, 47, 9, 148, 154, 0, 6, 167, 0, 54, 21, 6, 153, 0, 14, 44, 198, 0, 27, 44, 180, 0, 69, 153, 0, 20, 42, 180, 0, 28, 43, 44, 29, 21, 7, 21, 5, 182, 0, 75, 4, 54, 6, 42, 180, 0, 28, 180, 0, 78, 153, 0, 11, 42, 21, 8, 21, 9, 182, 0, 81, 132, 7, 1, 167, 255, 143, 177]
theorem bs_x5_layLine : g_bs cX5_layLine L_x5_layLine := by unfold g_bs; decide +kernel
def L_x5_layOut : List Nat := [42, 180, 0, 21, 9, 184, 0, 36, 42, 180, 0, 9, 3, 3, 79, 42, 180, 0, 15, 3, 3, 79, 42, 180, 0, 18, 3, 3, 79, 42, 180, 0, 21, 3, 10, 80, 42, 5, 43, 180, 0, 42, 104, 4, 100, 181, 0, 32, 2, 54, 5, 21, 5, 42, 180, 0, 32, 162, 0, 97, 21, 5, 2, 159, 0, 15, 43, 21, 5, 182, 0, 47, 154, 0, 6, 167, 0, 73, 21, 5, 4, 96, 54, 6, 21, 6, 42, 180, 0, 32, 163, 0, 58, 43, 21, 6, 182, 0, 47, 154, 0, 6, 167, 0, 40, 42, 180, 0, 28, 43, 21, 5, 21, 6, 182, 0, 51, 42, 180, 0, 28, 180, 0, 55, 29, 164, 0, 6, 167, 0, 20, 42, 43, 44, 29, 21, 5, 21, 4, 182, 0, 58, 132, 6, 1, 167, 255, 195, 132, 5, 1, 167, 255, 156, 177]
theorem bs_x5_layOut : g_bs cX5_layOut L_x5_layOut := by unfold g_bs; decide +kernel
def L_x5_canBeOf : List Nat := [42, 180, 0, 32, 27, 184, 0, 62, 61, 28, 2, 159, 0, 18, 42, 180, 0, 21, 28, 47, 9, 148, 158, 0, 7, 4, 167, 0, 4, 3, 172]
theorem bs_x5_canBeOf : g_bs cX5_canBeOf L_x5_canBeOf := by unfold g_bs; decide +kernel
def L_x5_canBeOfAtMost : List Nat := [3, 61, 28, 27, 163, 0, 25, 28, 16, 24, 163, 0, 19, 42, 28, 182, 0, 98, 153, 0, 5, 4, 172, 132, 2, 1, 167, 255, 232, 3, 172]
theorem bs_x5_canBeOfAtMost : g_bs cX5_canBeOfAtMost L_x5_canBeOfAtMost := by unfold g_bs; decide +kernel
def L_x5_leastOfJust : List Nat := [42, 180, 0, 32, 27, 184, 0, 62, 61, 28, 2, 159, 0, 23, 42, 180, 0, 21, 28, 47, 9, 148, 158, 0, 12, 42, 180, 0, 9, 28, 46, 167, 0, 4, 2, 172]
theorem bs_x5_leastOfJust : g_bs cX5_leastOfJust L_x5_leastOfJust := by unfold g_bs; decide +kernel
def L_x5_bestSlot : List Nat := [2, 60, 3, 61, 28, 16, 24, 163, 0, 64, 42, 180, 0, 32, 28, 184, 0, 62, 62, 29, 2, 159, 0, 44, 42, 180, 0, 21, 29, 47, 9, 148, 154, 0, 6, 167, 0, 30, 27, 2, 159, 0, 23, 42, 42, 180, 0, 9, 29, 46, 42, 180, 0, 18, 29, 46, 27, 182, 0, 87, 153, 0, 5, 29, 60, 132, 2, 1, 167, 255, 192, 27, 172]
theorem bs_x5_bestSlot : g_bs cX5_bestSlot L_x5_bestSlot := by unfold g_bs; decide +kernel
def L_x5_bestCosts : List Nat := [42, 182, 0, 101, 60, 27, 2, 160, 0, 7, 2, 167, 0, 9, 42, 180, 0, 9, 27, 46, 172]
theorem bs_x5_bestCosts : g_bs cX5_bestCosts L_x5_bestCosts := by unfold g_bs; decide +kernel
def L_x5_bestPlace : List Nat := [42, 182, 0, 101, 61, 28, 2, 159, 0, 7, 27, 156, 0, 5, 2, 172, 27, 62, 3, 54, 4, 21, 4, 42, 180, 0, 32, 163, 0, 41, 21, 4, 16, 24, 162, 0, 34, 42, 180, 0, 18, 28, 46, 21, 4, 122, 4, 126, 4, 160, 0, 13, 29, 154, 0, 6, 21, 4, 172, 132, 3, 255, 132, 4, 1, 167, 255, 212, 2, 172]
theorem bs_x5_bestPlace : g_bs cX5_bestPlace L_x5_bestPlace := by unfold g_bs; decide +kernel
def L_x5_waysInAll : List Nat := [9, 64, 3, 62, 29, 16, 24, 163, 0, 39, 42, 180, 0, 32, 29, 184, 0, 62, 54, 4, 31, 21, 4, 2, 160, 0, 7, 9, 167, 0, 10, 42, 180, 0, 21, 21, 4, 47, 97, 64, 132, 3, 1, 167, 255, 217, 31, 173]
theorem bs_x5_waysInAll : g_bs cX5_waysInAll L_x5_waysInAll := by unfold g_bs; decide +kernel
def L_x5_mostPaid : List Nat := [2, 60, 3, 61, 28, 16, 24, 163, 0, 45, 42, 180, 0, 32, 28, 184, 0, 62, 62, 29, 2, 159, 0, 25, 42, 180, 0, 21, 29, 47, 9, 148, 158, 0, 14, 27, 42, 180, 0, 15, 29, 46, 184, 0, 93, 60, 132, 2, 1, 167, 255, 211, 27, 172]
theorem bs_x5_mostPaid : g_bs cX5_mostPaid L_x5_mostPaid := by unfold g_bs; decide +kernel
def L_x8_clear : List Nat := [42, 3, 181, 0, 49, 42, 3, 181, 0, 36, 42, 3, 181, 0, 52, 177]
theorem bs_x8_clear : g_bs cX8_clear L_x8_clear := by unfold g_bs; decide +kernel
def L_x6_sortOf : List Nat := [26, 16, 97, 161, 0, 11, 26, 16, 122, 163, 0, 5, 4, 172, 26, 16, 48, 161, 0, 13, 26, 16, 57, 163, 0, 7, 5, 167, 0, 4, 3, 172]
theorem bs_x6_sortOf : g_bs cX6_sortOf L_x6_sortOf := by unfold g_bs; decide +kernel
def L_x6_wordOf : List Nat := [17, 11, 184, 62, 27, 54, 4, 4, 54, 5, 3, 54, 6, 21, 6, 18, 79, 182, 0, 81, 162, 0, 87, 18, 79, 21, 6, 182, 0, 86, 54, 7, 21, 7, 16, 32, 159, 0, 43, 21, 5, 153, 0, 29, 21, 4, 28, 162, 0, 23, 21, 4, 42, 190, 162, 0, 16, 42, 21, 4, 51, 21, 7, 160, 0, 7, 4, 167, 0, 4, 3, 54, 5, 132, 4, 1, 167, 0, 25, 21, 5, 153, 0, 11, 21, 4, 28, 160, 0, 5, 29, 172, 132, 3, 1, 27, 54, 4, 4, 54, 5, 132, 6, 1, 167, 255, 165, 17, 15, 159, 172]
theorem bs_x6_wordOf : g_bs cX6_wordOf L_x6_wordOf := by unfold g_bs; decide +kernel
def L_x6_numberOf : List Nat := [3, 62, 27, 54, 4, 21, 4, 28, 162, 0, 35, 21, 4, 42, 190, 162, 0, 28, 29, 16, 10, 104, 42, 21, 4, 51, 96, 16, 48, 100, 17, 3, 233, 184, 0, 44, 62, 132, 4, 1, 167, 255, 221, 29, 172]
theorem bs_x6_numberOf : g_bs cX6_numberOf L_x6_numberOf := by unfold g_bs; decide +kernel
def L_x6_cut : List Nat := [3, 62, 3, 54, 4, 21, 4, 28, 162, 0, 133, 29, 17, 1, 144, 162, 0, 126, 21, 4, 4, 96, 54, 5, 43, 21, 4, 51, 184, 0, 68, 54, 6, 21, 5, 28, 162, 0, 26, 21, 6, 153, 0, 21, 43, 21, 5, 51, 184, 0, 68, 21, 6, 160, 0, 9, 132, 5, 1, 167, 255, 230, 43, 21, 4, 51, 16, 32, 159, 0, 66, 42, 180, 0, 24, 29, 21, 4, 79, 42, 180, 0, 20, 29, 21, 6, 4, 160, 0, 14, 43, 21, 4, 21, 5, 184, 0, 72, 167, 0, 32, 21, 6, 5, 160, 0, 14, 43, 21, 4, 21, 5, 184, 0, 76, 167, 0, 15, 17, 7, 208, 43, 21, 4, 51, 17, 0, 255, 126, 96, 79, 132, 3, 1, 21, 5, 54, 4, 167, 255, 123, 42, 180, 0, 24, 29, 28, 79, 42, 180, 0, 20, 29, 17, 15, 160, 79, 177]
theorem bs_x6_cut : g_bs cX6_cut L_x6_cut := by unfold g_bs; decide +kernel
def L_x6_failHere : List Nat := [42, 42, 180, 0, 35, 155, 0, 27, 42, 180, 0, 35, 42, 180, 0, 24, 190, 162, 0, 15, 42, 180, 0, 24, 42, 180, 0, 35, 46, 167, 0, 4, 3, 181, 0, 27, 3, 172]
theorem bs_x6_failHere : g_bs cX6_failHere L_x6_failHere := by unfold g_bs; decide +kernel
def L_x6_sign : List Nat := [42, 180, 0, 35, 155, 0, 27, 42, 180, 0, 35, 42, 180, 0, 20, 190, 162, 0, 15, 42, 180, 0, 20, 42, 180, 0, 35, 46, 167, 0, 6, 17, 15, 160, 172]
theorem bs_x6_sign : g_bs cX6_sign L_x6_sign := by unfold g_bs; decide +kernel
def L_x6_takeFrom : List Nat := [42, 182, 0, 61, 62, 29, 27, 161, 0, 8, 29, 28, 164, 0, 10, 42, 182, 0, 93, 87, 2, 172, 42, 89, 180, 0, 35, 4, 96, 181, 0, 35, 29, 172]
theorem bs_x6_takeFrom : g_bs cX6_takeFrom L_x6_takeFrom := by unfold g_bs; decide +kernel
def L_x8_emit : List Nat := [42, 180, 0, 36, 155, 0, 44, 42, 180, 0, 36, 42, 180, 0, 33, 190, 162, 0, 32, 42, 180, 0, 33, 42, 180, 0, 36, 27, 16, 12, 120, 28, 17, 15, 255, 126, 128, 79, 42, 89, 180, 0, 36, 4, 96, 181, 0, 36, 177]
theorem bs_x8_emit : g_bs cX8_emit L_x8_emit := by unfold g_bs; decide +kernel
def L_x6_takeOrderFact : List Nat := [42, 182, 0, 61, 17, 11, 209, 159, 0, 13, 42, 182, 0, 61, 17, 11, 210, 160, 0, 51, 42, 182, 0, 61, 17, 11, 209, 160, 0, 7, 8, 167, 0, 5, 16, 17, 60, 42, 89, 180, 0, 35, 4, 96, 181, 0, 35, 42, 3, 16, 11, 182, 0, 128, 61, 28, 2, 160, 0, 7, 2, 167, 0, 6, 27, 28, 96, 172, 42, 17, 11, 204, 17, 11, 208, 182, 0, 128, 60, 27, 2, 160, 0, 7, 2, 167, 0, 8, 27, 17, 11, 204, 100, 172]
theorem bs_x6_takeOrderFact : g_bs cX6_takeOrderFact L_x6_takeOrderFact := by unfold g_bs; decide +kernel
def L_x6_takeLawFact : List Nat := [42, 17, 11, 197, 17, 11, 204, 182, 0, 128, 60, 42, 180, 0, 14, 42, 180, 0, 14, 180, 0, 168, 154, 0, 10, 27, 17, 11, 197, 160, 0, 7, 4, 167, 0, 4, 3, 181, 0, 168, 27, 2, 160, 0, 7, 2, 167, 0, 8, 27, 17, 11, 197, 100, 172]
theorem bs_x6_takeLawFact : g_bs cX6_takeLawFact L_x6_takeLawFact := by unfold g_bs; decide +kernel
def L_x6_readPart : List Nat := [42, 182, 0, 61, 17, 8, 43, 160, 0, 9, 42, 27, 182, 0, 146, 172, 42, 180, 0, 38, 16, 50, 161, 0, 8, 42, 182, 0, 93, 172, 42, 89, 180, 0, 38, 4, 96, 181, 0, 38, 42, 182, 0, 61, 17, 3, 232, 163, 0, 27, 42, 180, 0, 14, 4, 42, 182, 0, 61, 182, 0, 121, 42, 89, 180, 0, 35, 4, 96, 181, 0, 35, 4, 172, 42, 180, 0, 31, 153, 0, 10, 42, 182, 0, 162, 167, 0, 7, 42, 182, 0, 165, 61, 42, 180, 0, 14, 5, 28, 182, 0, 121, 28, 2, 159, 0, 7, 4, 167, 0, 4, 3, 172]
theorem bs_x6_readPart : g_bs cX6_readPart L_x6_readPart := by unfold g_bs; decide +kernel
def L_x6_instructionOf : List Nat := [26, 170, 0, 0, 0, 0, 0, 143, 0, 0, 7, 245, 0, 0, 8, 14, 0, 0, 0, 131, 0, 0, 0, 143, 0, 0, 0, 143, 0, 0, 0, 143, 0, 0, 0, 143, 0, 0, 0, 125, 0, 0, 0, 119, 0, 0, 0, 143, 0, 0, 0, 122, 0, 0, 0, 143, 0, 0, 0, 128, 0, 0, 0, 143, 0, 0, 0, 143, 0, 0, 0, 143, 0, 0, 0, 143, 0, 0, 0, 143, 0, 0, 0, 143, 0, 0, 0, 143, 0, 0, 0, 143, 0, 0, 0, 143, 0, 0, 0, 143, 0, 0, 0, 143, 0, 0, 0, 143, 0, 0, 0, 134, 0, 0, 0, 140, 0, 0, 0, 137, 16, 7, 172, 16, 8, 172, 16, 9, 172, 16, 10, 172, 16, 11, 172, 16, 12, 172, 16, 13, 172, 16, 14, 172, 2, 172]
theorem bs_x6_instructionOf : g_bs cX6_instructionOf L_x6_instructionOf := by unfold g_bs; decide +kernel
def L_x6_readTerm : List Nat := [42, 27, 182, 0, 159, 61, 3, 62, 29, 17, 1, 144, 162, 0, 64, 28, 153, 0, 60, 42, 182, 0, 61, 184, 0, 152, 54, 4, 21, 4, 16, 9, 161, 0, 10, 21, 4, 16, 11, 164, 0, 5, 4, 172, 42, 89, 180, 0, 35, 4, 96, 181, 0, 35, 42, 27, 182, 0, 159, 61, 42, 180, 0, 14, 21, 4, 3, 182, 0, 121, 132, 3, 1, 167, 255, 191, 28, 172]
theorem bs_x6_readTerm : g_bs cX6_readTerm L_x6_readTerm := by unfold g_bs; decide +kernel
def L_x6_readSum : List Nat := [42, 27, 182, 0, 156, 61, 3, 62, 29, 17, 1, 144, 162, 0, 64, 28, 153, 0, 60, 42, 182, 0, 61, 184, 0, 152, 54, 4, 21, 4, 16, 7, 159, 0, 12, 21, 4, 16, 8, 159, 0, 5, 4, 172, 42, 89, 180, 0, 35, 4, 96, 181, 0, 35, 42, 27, 182, 0, 156, 61, 42, 180, 0, 14, 21, 4, 3, 182, 0, 121, 132, 3, 1, 167, 255, 191, 28, 172]
theorem bs_x6_readSum : g_bs cX6_readSum L_x6_readSum := by unfold g_bs; decide +kernel
def L_x6_take : List Nat := [42, 182, 0, 61, 27, 159, 0, 5, 3, 172, 42, 89, 180, 0, 35, 4, 96, 181, 0, 35, 4, 172]
theorem bs_x6_take : g_bs cX6_take L_x6_take := by unfold g_bs; decide +kernel
def L_x6_readComparison : List Nat := [42, 27, 182, 0, 134, 154, 0, 5, 3, 172, 42, 182, 0, 61, 184, 0, 152, 61, 28, 16, 12, 162, 0, 8, 42, 182, 0, 93, 172, 42, 89, 180, 0, 35, 4, 96, 181, 0, 35, 42, 27, 182, 0, 134, 62, 42, 180, 0, 14, 28, 3, 182, 0, 121, 29, 172]
theorem bs_x6_readComparison : g_bs cX6_readComparison L_x6_readComparison := by unfold g_bs; decide +kernel
def L_x6_readPlain : List Nat := [3, 61, 3, 62, 29, 17, 1, 144, 162, 0, 29, 42, 17, 11, 196, 182, 0, 90, 153, 0, 19, 28, 154, 0, 7, 4, 167, 0, 4, 3, 61, 132, 3, 1, 167, 255, 226, 42, 182, 0, 61, 17, 7, 248, 160, 0, 11, 42, 27, 182, 0, 146, 167, 0, 8, 42, 27, 182, 0, 149, 62, 28, 153, 0, 12, 42, 180, 0, 14, 6, 3, 182, 0, 121, 29, 172]
theorem bs_x6_readPlain : g_bs cX6_readPlain L_x6_readPlain := by unfold g_bs; decide +kernel
def L_x8_aim : List Nat := [27, 155, 0, 37, 27, 42, 180, 0, 33, 190, 162, 0, 28, 42, 180, 0, 33, 27, 42, 180, 0, 33, 27, 46, 17, 240, 0, 126, 42, 180, 0, 36, 17, 15, 255, 126, 128, 79, 177]
theorem bs_x8_aim : g_bs cX8_aim L_x8_aim := by unfold g_bs; decide +kernel
def L_x6_readBoth : List Nat := [42, 27, 182, 0, 143, 61, 3, 62, 29, 17, 1, 144, 162, 0, 56, 28, 153, 0, 52, 42, 17, 11, 195, 182, 0, 90, 153, 0, 42, 42, 180, 0, 14, 180, 0, 115, 54, 4, 42, 180, 0, 14, 7, 3, 182, 0, 121, 42, 27, 182, 0, 143, 61, 42, 180, 0, 14, 21, 4, 182, 0, 140, 132, 3, 1, 167, 255, 199, 28, 172]
theorem bs_x6_readBoth : g_bs cX6_readBoth L_x6_readBoth := by unfold g_bs; decide +kernel
def L_x6_readTest : List Nat := [42, 27, 182, 0, 137, 61, 3, 62, 29, 17, 1, 144, 162, 0, 56, 28, 153, 0, 52, 42, 17, 11, 194, 182, 0, 90, 153, 0, 42, 42, 180, 0, 14, 180, 0, 115, 54, 4, 42, 180, 0, 14, 8, 3, 182, 0, 121, 42, 27, 182, 0, 137, 61, 42, 180, 0, 14, 21, 4, 182, 0, 140, 132, 3, 1, 167, 255, 199, 28, 172]
theorem bs_x6_readTest : g_bs cX6_readTest L_x6_readTest := by unfold g_bs; decide +kernel
def L_x6_takeOrFail : List Nat := [42, 27, 182, 0, 90, 154, 0, 10, 42, 182, 0, 93, 153, 0, 7, 4, 167, 0, 4, 3, 172]
theorem bs_x6_takeOrFail : g_bs cX6_takeOrFail L_x6_takeOrFail := by unfold g_bs; decide +kernel
def L_x6_readBracketed : List Nat := [27, 16, 8, 161, 0, 8, 42, 182, 0, 93, 172, 42, 17, 7, 248, 182, 0, 90, 153, 0, 29, 42, 27, 4, 96, 182, 0, 118, 153, 0, 17, 42, 17, 7, 249, 182, 0, 65, 153, 0, 7, 4, 167, 0, 4, 3, 172, 42, 17, 8, 43, 182, 0, 65, 153, 0, 27, 42, 27, 4, 96, 182, 0, 134, 153, 0, 17, 42, 17, 8, 45, 182, 0, 65, 153, 0, 7, 4, 167, 0, 4, 3, 172]
theorem bs_x6_readBracketed : g_bs cX6_readBracketed L_x6_readBracketed := by unfold g_bs; decide +kernel
def L_x6_readOrder : List Nat := [42, 17, 11, 187, 17, 11, 190, 182, 0, 128, 61, 28, 2, 159, 0, 7, 4, 167, 0, 4, 3, 62, 42, 180, 0, 14, 180, 0, 131, 27, 28, 17, 11, 187, 100, 79, 29, 153, 0, 42, 28, 17, 11, 190, 159, 0, 35, 42, 180, 0, 14, 180, 0, 100, 27, 42, 180, 0, 14, 180, 0, 115, 79, 42, 3, 182, 0, 134, 62, 42, 180, 0, 14, 16, 6, 3, 182, 0, 121, 29, 153, 0, 62, 28, 17, 11, 189, 160, 0, 55, 42, 17, 11, 191, 182, 0, 65, 62, 42, 180, 0, 14, 180, 0, 103, 27, 42, 180, 0, 14, 180, 0, 115, 79, 29, 153, 0, 15, 42, 3, 182, 0, 134, 153, 0, 7, 4, 167, 0, 4, 3, 62, 42, 180, 0, 14, 16, 6, 3, 182, 0, 121, 29, 153, 0, 48, 42, 17, 11, 192, 182, 0, 90, 153, 0, 38, 42, 180, 0, 14, 180, 0, 97, 27, 42, 4, 16, 20, 182, 0, 128, 79, 42, 180, 0, 14, 180, 0, 97, 27, 46, 2, 159, 0, 7, 4, 167, 0, 4, 3, 62, 29, 172]
theorem bs_x6_readOrder : g_bs cX6_readOrder L_x6_readOrder := by unfold g_bs; decide +kernel
def L_x6_readRule : List Nat := [42, 17, 11, 184, 17, 11, 186, 182, 0, 128, 61, 28, 2, 160, 0, 5, 3, 172, 42, 180, 0, 14, 180, 0, 131, 27, 28, 17, 11, 184, 100, 79, 28, 17, 11, 186, 160, 0, 5, 4, 172, 42, 180, 0, 14, 180, 0, 100, 27, 42, 180, 0, 14, 180, 0, 115, 79, 42, 3, 182, 0, 134, 62, 42, 180, 0, 14, 16, 6, 3, 182, 0, 121, 29, 172]
theorem bs_x6_readRule : g_bs cX6_readRule L_x6_readRule := by unfold g_bs; decide +kernel
def L_x6_readClause : List Nat := [27, 155, 0, 9, 27, 16, 12, 161, 0, 8, 42, 182, 0, 93, 172, 42, 180, 0, 14, 180, 0, 97, 27, 4, 79, 42, 180, 0, 14, 180, 0, 100, 27, 2, 79, 42, 180, 0, 14, 180, 0, 103, 27, 2, 79, 42, 180, 0, 14, 180, 0, 106, 27, 2, 79, 42, 180, 0, 31, 153, 0, 11, 42, 27, 182, 0, 109, 167, 0, 8, 42, 27, 182, 0, 112, 61, 28, 153, 0, 45, 42, 17, 11, 193, 182, 0, 90, 153, 0, 35, 42, 180, 0, 14, 180, 0, 106, 27, 42, 180, 0, 14, 180, 0, 115, 79, 42, 3, 182, 0, 118, 61, 42, 180, 0, 14, 16, 6, 3, 182, 0, 121, 42, 180, 0, 14, 27, 4, 96, 181, 0, 125, 28, 172]
theorem bs_x6_readClause : g_bs cX6_readClause L_x6_readClause := by unfold g_bs; decide +kernel
def L_x6_readText : List Nat := [42, 29, 181, 0, 31, 42, 3, 181, 0, 35, 42, 3, 181, 0, 38, 42, 2, 181, 0, 27, 42, 180, 0, 14, 182, 0, 41, 42, 43, 3, 28, 43, 190, 184, 0, 44, 184, 0, 50, 182, 0, 53, 3, 54, 4, 21, 4, 16, 12, 163, 0, 40, 42, 21, 4, 182, 0, 57, 153, 0, 13, 42, 182, 0, 61, 17, 15, 160, 160, 0, 4, 177, 42, 17, 8, 11, 182, 0, 65, 154, 0, 4, 177, 132, 4, 1, 167, 255, 215, 177]
theorem bs_x6_readText : g_bs cX6_readText L_x6_readText := by unfold g_bs; decide +kernel
def L_x7_howManyFit : List Nat := [42, 43, 182, 0, 88, 42, 16, 6, 182, 0, 92, 172]
theorem bs_x7_howManyFit : g_bs cX7_howManyFit L_x7_howManyFit := by unfold g_bs; decide +kernel
def L_x7_tellFact : List Nat := [27, 155, 0, 24, 27, 178, 0, 112, 190, 162, 0, 16, 42, 178, 0, 112, 27, 46, 28, 182, 0, 84, 167, 0, 4, 2, 172]
theorem bs_x7_tellFact : g_bs cX7_tellFact L_x7_tellFact := by unfold g_bs; decide +kernel
def L_x7_isAsSeen : List Nat := [3, 62, 29, 43, 180, 0, 100, 162, 0, 37, 29, 16, 6, 162, 0, 31, 42, 43, 180, 0, 103, 29, 46, 28, 182, 0, 106, 43, 180, 0, 109, 29, 46, 159, 0, 5, 3, 172, 132, 3, 1, 167, 255, 217, 4, 172]
theorem bs_x7_isAsSeen : g_bs cX7_isAsSeen L_x7_isAsSeen := by unfold g_bs; decide +kernel
def L_x7_linesAsSeen : List Nat := [3, 61, 3, 62, 29, 42, 180, 0, 30, 162, 0, 24, 42, 43, 29, 182, 0, 96, 153, 0, 9, 28, 4, 29, 120, 128, 61, 132, 3, 1, 167, 255, 230, 28, 172]
theorem bs_x7_linesAsSeen : g_bs cX7_linesAsSeen L_x7_linesAsSeen := by unfold g_bs; decide +kernel
def L_x7_mostAlike : List Nat := [3, 62, 3, 54, 4, 21, 4, 42, 180, 0, 30, 162, 0, 77, 3, 54, 5, 3, 54, 6, 21, 6, 42, 180, 0, 30, 162, 0, 39, 27, 21, 6, 122, 4, 126, 4, 160, 0, 23, 42, 28, 21, 6, 182, 0, 106, 42, 28, 21, 4, 182, 0, 106, 160, 0, 6, 132, 5, 1, 132, 6, 1, 167, 255, 214, 27, 21, 4, 122, 4, 126, 4, 160, 0, 10, 29, 21, 5, 184, 0, 115, 62, 132, 4, 1, 167, 255, 176, 29, 172]
theorem bs_x7_mostAlike : g_bs cX7_mostAlike L_x7_mostAlike := by unfold g_bs; decide +kernel
def L_x7_flowThrough : List Nat := [3, 54, 4, 3, 54, 5, 42, 180, 0, 20, 3, 184, 0, 120, 28, 4, 96, 5, 108, 54, 6, 21, 6, 29, 5, 108, 162, 0, 107, 21, 5, 43, 21, 6, 28, 29, 182, 0, 130, 96, 54, 5, 21, 5, 4, 161, 0, 79, 21, 5, 4, 96, 42, 180, 0, 16, 190, 162, 0, 67, 21, 5, 42, 180, 0, 20, 190, 162, 0, 57, 42, 180, 0, 20, 21, 5, 4, 42, 180, 0, 16, 21, 5, 46, 42, 180, 0, 16, 21, 5, 4, 100, 46, 42, 180, 0, 16, 21, 5, 4, 96, 46, 184, 0, 115, 184, 0, 115, 96, 79, 21, 4, 42, 180, 0, 20, 21, 5, 46, 184, 0, 115, 54, 4, 132, 5, 1, 132, 6, 1, 167, 255, 147, 21, 4, 172]
theorem bs_x7_flowThrough : g_bs cX7_flowThrough L_x7_flowThrough := by unfold g_bs; decide +kernel
def L_x7_longestRiver : List Nat := [3, 61, 2, 62, 42, 180, 0, 16, 3, 184, 0, 120, 3, 54, 4, 21, 4, 42, 180, 0, 30, 162, 0, 54, 42, 3, 21, 4, 182, 0, 84, 54, 5, 28, 42, 43, 29, 21, 5, 182, 0, 126, 184, 0, 115, 61, 42, 180, 0, 16, 58, 6, 42, 42, 180, 0, 20, 181, 0, 16, 42, 25, 6, 181, 0, 20, 21, 5, 62, 132, 4, 1, 167, 255, 199, 28, 172]
theorem bs_x7_longestRiver : g_bs cX7_longestRiver L_x7_longestRiver := by unfold g_bs; decide +kernel
def L_x9_canBeWord : List Nat := [26, 4, 161, 0, 31, 26, 16, 20, 163, 0, 25, 27, 155, 0, 21, 27, 26, 162, 0, 16, 28, 155, 0, 12, 28, 6, 163, 0, 7, 4, 167, 0, 4, 3, 172]
theorem bs_x9_canBeWord : g_bs cX9_canBeWord L_x9_canBeWord := by unfold g_bs; decide +kernel
def L_x9_refuse : List Nat := [42, 27, 181, 1, 56, 27, 16, 251, 164, 0, 10, 27, 116, 4, 100, 167, 0, 7, 27, 116, 5, 100, 61, 28, 155, 0, 22, 28, 42, 180, 0, 72, 190, 162, 0, 13, 42, 180, 0, 72, 28, 92, 46, 4, 96, 79, 27, 172]
theorem bs_x9_refuse : g_bs cX9_refuse L_x9_refuse := by unfold g_bs; decide +kernel
def L_x9_answer : List Nat := [42, 3, 181, 1, 56, 27, 172]
theorem bs_x9_answer : g_bs cX9_answer L_x9_answer := by unfold g_bs; decide +kernel
def L_x9_word : List Nat := [27, 28, 29, 184, 0, 80, 154, 0, 9, 42, 2, 182, 0, 84, 172, 42, 180, 0, 20, 180, 0, 88, 16, 12, 161, 0, 10, 42, 16, 251, 182, 0, 84, 172, 42, 180, 0, 20, 27, 28, 29, 182, 0, 91, 42, 180, 0, 55, 3, 181, 0, 95, 42, 42, 180, 0, 20, 180, 0, 88, 4, 100, 182, 0, 100, 172]
theorem bs_x9_word : g_bs cX9_word L_x9_word := by unfold g_bs; decide +kernel
def L_x9_of : List Nat := [42, 180, 0, 20, 27, 182, 0, 103, 154, 0, 5, 2, 172, 28, 170, 0, 0, 0, 0, 98, 0, 0, 0, 0, 0, 0, 0, 4, 0, 0, 0, 34, 0, 0, 0, 44, 0, 0, 0, 54, 0, 0, 0, 64, 0, 0, 0, 81, 42, 180, 0, 20, 180, 0, 107, 27, 46, 172, 42, 180, 0, 20, 180, 0, 110, 27, 46, 172, 42, 180, 0, 20, 180, 0, 113, 27, 46, 172, 42, 180, 0, 20, 27, 182, 0, 116, 153, 0, 7, 4, 167, 0, 4, 3, 172, 42, 180, 0, 20, 27, 182, 0, 119, 153, 0, 7, 4, 167, 0, 4, 3, 172, 2, 172]
theorem bs_x9_of : g_bs cX9_of L_x9_of := by unfold g_bs; decide +kernel
def L_x9_line : List Nat := [28, 155, 0, 9, 28, 16, 7, 161, 0, 5, 2, 172, 42, 180, 0, 60, 42, 180, 0, 20, 182, 0, 122, 27, 155, 0, 26, 27, 42, 180, 0, 60, 180, 0, 128, 162, 0, 15, 42, 180, 0, 60, 28, 27, 182, 0, 131, 167, 0, 4, 2, 172]
theorem bs_x9_line : g_bs cX9_line L_x9_line := by unfold g_bs; decide +kernel
def L_x9_all : List Nat := [42, 180, 0, 60, 42, 180, 0, 20, 182, 0, 122, 27, 170, 0, 0, 0, 0, 0, 0, 56, 0, 0, 0, 0, 0, 0, 0, 2, 0, 0, 0, 28, 0, 0, 0, 37, 0, 0, 0, 46, 42, 180, 0, 60, 6, 182, 0, 135, 172, 42, 180, 0, 60, 7, 182, 0, 135, 172, 42, 180, 0, 60, 16, 6, 182, 0, 135, 172, 2, 172]
theorem bs_x9_all : g_bs cX9_all L_x9_all := by unfold g_bs; decide +kernel
def L_x9_terms : List Nat := [27, 155, 0, 26, 27, 6, 163, 0, 21, 28, 178, 0, 138, 27, 46, 161, 0, 12, 28, 178, 0, 141, 27, 46, 164, 0, 9, 42, 2, 182, 0, 84, 172, 42, 180, 0, 20, 180, 0, 144, 27, 46, 62, 42, 180, 0, 20, 180, 0, 144, 27, 28, 79, 42, 180, 0, 55, 3, 181, 0, 95, 42, 29, 182, 0, 100, 172]
theorem bs_x9_terms : g_bs cX9_terms L_x9_terms := by unfold g_bs; decide +kernel
def L_x9_putFour : List Nat := [16, 24, 61, 28, 155, 0, 42, 42, 180, 0, 147, 17, 1, 144, 162, 0, 32, 42, 180, 0, 40, 42, 180, 0, 147, 27, 28, 122, 145, 84, 42, 89, 180, 0, 147, 4, 96, 181, 0, 147, 132, 2, 248, 167, 255, 216, 177]
theorem bs_x9_putFour : g_bs cX9_putFour L_x9_putFour := by unfold g_bs; decide +kernel
def L_x9_feed : List Nat := [42, 180, 0, 147, 16, 20, 96, 17, 1, 144, 164, 0, 5, 2, 172, 42, 27, 182, 0, 150, 42, 28, 182, 0, 150, 42, 29, 182, 0, 150, 42, 21, 4, 182, 0, 150, 42, 21, 5, 182, 0, 150, 42, 180, 0, 147, 172]
theorem bs_x9_feed : g_bs cX9_feed L_x9_feed := by unfold g_bs; decide +kernel
def L_x9_end : List Nat := [27, 155, 0, 11, 27, 42, 180, 0, 147, 164, 0, 5, 2, 172, 42, 27, 181, 0, 147, 27, 172]
theorem bs_x9_end : g_bs cX9_end L_x9_end := by unfold g_bs; decide +kernel
def L_x9_takeWordAt : List Nat := [27, 155, 0, 34, 27, 6, 96, 42, 180, 0, 147, 163, 0, 24, 27, 6, 96, 17, 1, 144, 163, 0, 15, 42, 180, 0, 20, 180, 0, 88, 16, 12, 161, 0, 5, 3, 172, 42, 180, 0, 40, 27, 51, 17, 0, 255, 126, 61, 42, 180, 0, 40, 27, 4, 96, 51, 17, 0, 255, 126, 62, 42, 180, 0, 40, 27, 5, 96, 51, 17, 0, 255, 126, 54, 4, 28, 29, 21, 4, 184, 0, 80, 154, 0, 5, 3, 172, 42, 180, 0, 20, 28, 29, 21, 4, 182, 0, 91, 4, 172]
theorem bs_x9_takeWordAt : g_bs cX9_takeWordAt L_x9_takeWordAt := by unfold g_bs; decide +kernel
def L_x9_row : List Nat := [42, 180, 0, 147, 154, 0, 10, 42, 16, 250, 182, 0, 84, 172, 3, 60, 42, 3, 181, 0, 154, 3, 61, 28, 42, 180, 0, 147, 162, 0, 33, 42, 28, 182, 0, 157, 153, 0, 9, 132, 1, 1, 167, 0, 13, 42, 89, 180, 0, 154, 4, 96, 181, 0, 154, 132, 2, 3, 167, 255, 221, 42, 3, 181, 0, 147, 42, 180, 0, 55, 3, 181, 0, 95, 42, 27, 182, 0, 100, 172]
theorem bs_x9_row : g_bs cX9_row L_x9_row := by unfold g_bs; decide +kernel
def L_x9_turned : List Nat := [42, 180, 0, 154, 172]
theorem bs_x9_turned : g_bs cX9_turned L_x9_turned := by unfold g_bs; decide +kernel
def L_x9_law : List Nat := [42, 180, 0, 20, 180, 0, 160, 16, 6, 161, 0, 15, 42, 3, 181, 0, 147, 42, 16, 251, 182, 0, 84, 172, 42, 180, 0, 47, 42, 180, 0, 40, 42, 180, 0, 147, 3, 182, 0, 163, 42, 3, 181, 0, 147, 42, 180, 0, 47, 180, 0, 167, 2, 159, 0, 10, 42, 16, 250, 182, 0, 84, 172, 42, 180, 0, 20, 180, 0, 170, 42, 180, 0, 20, 180, 0, 160, 42, 180, 0, 47, 180, 0, 174, 182, 0, 178, 83, 42, 180, 0, 20, 89, 180, 0, 160, 4, 96, 181, 0, 160, 42, 42, 180, 0, 20, 180, 0, 160, 4, 100, 182, 0, 100, 172]
theorem bs_x9_law : g_bs cX9_law L_x9_law := by unfold g_bs; decide +kernel
def L_x9_orders : List Nat := [42, 2, 181, 0, 76, 42, 180, 0, 47, 42, 180, 0, 40, 42, 180, 0, 147, 4, 182, 0, 163, 42, 3, 181, 0, 147, 42, 180, 0, 47, 180, 0, 167, 2, 159, 0, 10, 42, 16, 250, 182, 0, 84, 172, 42, 180, 0, 47, 180, 0, 174, 76, 42, 180, 0, 10, 182, 0, 184, 3, 61, 28, 43, 180, 0, 187, 162, 0, 70, 28, 16, 12, 162, 0, 64, 3, 62, 29, 43, 180, 0, 190, 28, 46, 162, 0, 46, 29, 16, 20, 162, 0, 40, 42, 180, 0, 10, 43, 28, 182, 0, 193, 154, 0, 22, 42, 180, 0, 10, 182, 0, 197, 42, 28, 181, 0, 76, 42, 16, 253, 182, 0, 84, 172, 132, 3, 1, 167, 255, 206, 132, 2, 1, 167, 255, 184, 42, 42, 180, 0, 10, 180, 0, 200, 182, 0, 100, 172]
theorem bs_x9_orders : g_bs cX9_orders L_x9_orders := by unfold g_bs; decide +kernel
def L_x9_fault : List Nat := [42, 180, 0, 47, 180, 0, 167, 172]
theorem bs_x9_fault : g_bs cX9_fault L_x9_fault := by unfold g_bs; decide +kernel
def L_x9_stopped : List Nat := [42, 180, 0, 76, 172]
theorem bs_x9_stopped : g_bs cX9_stopped L_x9_stopped := by unfold g_bs; decide +kernel
def L_x9_force : List Nat := [42, 180, 0, 20, 27, 182, 0, 203, 154, 0, 10, 42, 16, 254, 182, 0, 84, 172, 42, 180, 0, 20, 180, 0, 206, 61, 42, 180, 0, 20, 27, 181, 0, 206, 42, 28, 182, 0, 100, 172]
theorem bs_x9_force : g_bs cX9_force L_x9_force := by unfold g_bs; decide +kernel
def L_x9_stop : List Nat := [42, 180, 0, 10, 3, 27, 3, 182, 0, 209, 61, 28, 153, 0, 11, 42, 28, 182, 0, 84, 167, 0, 23, 42, 42, 180, 0, 20, 27, 182, 0, 116, 153, 0, 7, 4, 167, 0, 4, 3, 182, 0, 100, 172]
theorem bs_x9_stop : g_bs cX9_stop L_x9_stop := by unfold g_bs; decide +kernel
def L_x9_split : List Nat := [42, 180, 0, 10, 4, 27, 3, 182, 0, 209, 61, 28, 153, 0, 11, 42, 28, 182, 0, 84, 167, 0, 23, 42, 42, 180, 0, 20, 27, 182, 0, 119, 153, 0, 7, 4, 167, 0, 4, 3, 182, 0, 100, 172]
theorem bs_x9_split : g_bs cX9_split L_x9_split := by unfold g_bs; decide +kernel
def L_x9_swell : List Nat := [42, 180, 0, 20, 27, 182, 0, 213, 62, 42, 180, 0, 10, 5, 27, 28, 182, 0, 209, 54, 4, 21, 4, 153, 0, 12, 42, 21, 4, 182, 0, 84, 167, 0, 8, 42, 29, 182, 0, 100, 172]
theorem bs_x9_swell : g_bs cX9_swell L_x9_swell := by unfold g_bs; decide +kernel
def L_x9_pass : List Nat := [42, 180, 0, 60, 42, 180, 0, 20, 182, 0, 216, 60, 42, 180, 0, 10, 6, 3, 3, 182, 0, 209, 61, 28, 153, 0, 11, 42, 28, 182, 0, 84, 167, 0, 8, 42, 27, 182, 0, 100, 172]
theorem bs_x9_pass : g_bs cX9_pass L_x9_pass := by unfold g_bs; decide +kernel
def L_x9_undo : List Nat := [42, 180, 0, 55, 42, 180, 0, 20, 182, 0, 220, 60, 27, 2, 160, 0, 12, 42, 16, 253, 182, 0, 84, 167, 0, 8, 42, 27, 182, 0, 100, 172]
theorem bs_x9_undo : g_bs cX9_undo L_x9_undo := by unfold g_bs; decide +kernel
def L_x9_layPaper : List Nat := [42, 180, 0, 64, 43, 44, 43, 180, 0, 144, 6, 46, 3, 182, 0, 250, 177]
theorem bs_x9_layPaper : g_bs cX9_layPaper L_x9_layPaper := by unfold g_bs; decide +kernel
def L_x9_best : List Nat := [42, 42, 180, 0, 20, 42, 180, 0, 20, 182, 0, 223, 182, 0, 226, 27, 2, 160, 0, 13, 42, 180, 0, 64, 182, 0, 230, 167, 0, 11, 42, 180, 0, 64, 27, 182, 0, 234, 172]
theorem bs_x9_best : g_bs cX9_best L_x9_best := by unfold g_bs; decide +kernel
def L_x9_just : List Nat := [42, 42, 180, 0, 20, 42, 180, 0, 20, 182, 0, 223, 182, 0, 226, 42, 180, 0, 64, 27, 182, 0, 237, 172]
theorem bs_x9_just : g_bs cX9_just L_x9_just := by unfold g_bs; decide +kernel
def L_x9_fewest : List Nat := [42, 42, 180, 0, 20, 42, 180, 0, 20, 182, 0, 223, 182, 0, 226, 3, 60, 27, 16, 24, 163, 0, 22, 42, 180, 0, 64, 27, 182, 0, 240, 153, 0, 5, 27, 172, 132, 1, 1, 167, 255, 234, 2, 172]
theorem bs_x9_fewest : g_bs cX9_fewest L_x9_fewest := by unfold g_bs; decide +kernel
def L_x9_most : List Nat := [42, 42, 180, 0, 20, 42, 180, 0, 20, 182, 0, 223, 182, 0, 226, 16, 24, 60, 27, 155, 0, 22, 42, 180, 0, 64, 27, 182, 0, 240, 153, 0, 5, 27, 172, 132, 1, 255, 167, 255, 236, 2, 172]
theorem bs_x9_most : g_bs cX9_most L_x9_most := by unfold g_bs; decide +kernel
def L_x9_ways : List Nat := [42, 42, 180, 0, 20, 42, 180, 0, 20, 182, 0, 223, 182, 0, 226, 42, 180, 0, 64, 182, 0, 243, 173]
theorem bs_x9_ways : g_bs cX9_ways L_x9_ways := by unfold g_bs; decide +kernel
def L_x9_richest : List Nat := [42, 42, 180, 0, 20, 42, 180, 0, 20, 182, 0, 223, 182, 0, 226, 42, 180, 0, 64, 182, 0, 247, 172]
theorem bs_x9_richest : g_bs cX9_richest L_x9_richest := by unfold g_bs; decide +kernel
def L_x9_narrow : List Nat := [27, 155, 0, 9, 27, 16, 24, 164, 0, 5, 2, 172, 178, 0, 138, 6, 46, 61, 28, 178, 0, 141, 6, 46, 163, 0, 42, 42, 180, 0, 64, 42, 180, 0, 20, 42, 180, 0, 20, 182, 0, 223, 28, 4, 182, 0, 250, 42, 180, 0, 64, 27, 182, 0, 254, 153, 0, 5, 28, 172, 132, 2, 1, 167, 255, 211, 2, 172]
theorem bs_x9_narrow : g_bs cX9_narrow L_x9_narrow := by unfold g_bs; decide +kernel
def L_x9_leaveOut : List Nat := [27, 155, 0, 8, 27, 4, 164, 0, 5, 2, 172, 2, 61, 2, 62, 3, 54, 4, 21, 4, 42, 180, 0, 20, 180, 0, 88, 162, 0, 76, 42, 180, 0, 26, 42, 180, 0, 20, 182, 1, 1, 42, 180, 0, 26, 21, 4, 182, 1, 4, 42, 42, 180, 0, 26, 42, 180, 0, 20, 182, 0, 223, 182, 0, 226, 42, 180, 0, 64, 182, 0, 230, 54, 5, 21, 5, 2, 159, 0, 20, 28, 2, 159, 0, 9, 21, 5, 29, 162, 0, 9, 21, 4, 61, 21, 5, 62, 132, 4, 1, 167, 255, 174, 27, 154, 0, 7, 28, 167, 0, 4, 29, 172]
theorem bs_x9_leaveOut : g_bs cX9_leaveOut L_x9_leaveOut := by unfold g_bs; decide +kernel
def L_x9_river : List Nat := [42, 180, 0, 60, 42, 180, 0, 20, 182, 0, 122, 42, 180, 0, 60, 42, 180, 0, 20, 182, 1, 7, 172]
theorem bs_x9_river : g_bs cX9_river L_x9_river := by unfold g_bs; decide +kernel
def L_x9_seen : List Nat := [27, 155, 0, 22, 27, 178, 1, 10, 190, 162, 0, 14, 28, 155, 0, 10, 28, 17, 3, 231, 164, 0, 9, 42, 2, 182, 0, 84, 172, 42, 180, 0, 20, 180, 1, 13, 16, 6, 161, 0, 10, 42, 16, 251, 182, 0, 84, 172, 42, 180, 0, 20, 180, 1, 16, 42, 180, 0, 20, 180, 1, 13, 27, 79, 42, 180, 0, 20, 180, 1, 19, 42, 180, 0, 20, 180, 1, 13, 28, 79, 42, 180, 0, 20, 89, 180, 1, 13, 4, 96, 181, 1, 13, 42, 42, 180, 0, 20, 180, 1, 13, 182, 0, 100, 172]
theorem bs_x9_seen : g_bs cX9_seen L_x9_seen := by unfold g_bs; decide +kernel
def L_x9_forget : List Nat := [42, 180, 0, 20, 180, 1, 13, 60, 42, 180, 0, 20, 3, 181, 1, 13, 27, 172]
theorem bs_x9_forget : g_bs cX9_forget L_x9_forget := by unfold g_bs; decide +kernel
def L_x9_canBe : List Nat := [42, 180, 0, 60, 42, 180, 0, 20, 182, 0, 122, 42, 180, 0, 60, 42, 180, 0, 20, 182, 1, 22, 172]
theorem bs_x9_canBe : g_bs cX9_canBe L_x9_canBe := by unfold g_bs; decide +kernel
def L_x9_look : List Nat := [27, 155, 0, 8, 27, 4, 164, 0, 5, 2, 172, 42, 180, 0, 60, 42, 180, 0, 20, 182, 0, 122, 42, 180, 0, 60, 42, 180, 0, 20, 182, 1, 22, 61, 28, 154, 0, 5, 2, 172, 3, 62, 42, 180, 0, 60, 28, 3, 182, 1, 25, 54, 4, 4, 54, 5, 21, 5, 178, 1, 10, 190, 162, 0, 35, 42, 180, 0, 60, 28, 21, 5, 182, 1, 25, 54, 6, 21, 6, 21, 4, 162, 0, 10, 21, 5, 62, 21, 6, 54, 4, 132, 5, 1, 167, 255, 218, 27, 154, 0, 7, 29, 167, 0, 5, 21, 4, 172]
theorem bs_x9_look : g_bs cX9_look L_x9_look := by unfold g_bs; decide +kernel
def L_x9_few : List Nat := [27, 4, 161, 0, 19, 27, 16, 20, 163, 0, 13, 28, 155, 0, 9, 28, 16, 99, 164, 0, 7, 20, 1, 28, 173, 42, 180, 0, 68, 9, 184, 1, 30, 42, 180, 0, 68, 3, 20, 1, 36, 80, 42, 180, 0, 20, 180, 0, 144, 4, 46, 62, 3, 54, 4, 21, 4, 28, 162, 0, 79, 27, 4, 100, 54, 5, 21, 5, 155, 0, 63, 21, 5, 158, 0, 22, 42, 180, 0, 68, 21, 5, 4, 100, 47, 29, 133, 105, 20, 1, 38, 109, 167, 0, 4, 9, 55, 6, 42, 180, 0, 68, 21, 5, 42, 180, 0, 68, 21, 5, 47, 16, 10, 29, 100, 133, 105, 20, 1, 38, 109, 22, 6, 97, 80, 132, 5, 255, 167, 255, 194, 132, 4, 1, 167, 255, 177, 9, 55, 4, 3, 54, 6, 21, 6, 27, 162, 0, 21, 22, 4, 42, 180, 0, 68, 21, 6, 47, 97, 55, 4, 132, 6, 1, 167, 255, 235, 22, 4, 173]
theorem bs_x9_few : g_bs cX9_few L_x9_few := by unfold g_bs; decide +kernel
def L_x9_compare : List Nat := [42, 180, 0, 20, 27, 182, 0, 203, 154, 0, 5, 2, 172, 42, 42, 180, 0, 20, 42, 180, 0, 20, 27, 182, 1, 40, 182, 0, 226, 42, 180, 0, 64, 182, 0, 230, 172]
theorem bs_x9_compare : g_bs cX9_compare L_x9_compare := by unfold g_bs; decide +kernel
def L_x9_nextDraw : List Nat := [26, 17, 4, 79, 104, 17, 48, 57, 96, 19, 1, 59, 112, 172]
theorem bs_x9_nextDraw : g_bs cX9_nextDraw L_x9_nextDraw := by unfold g_bs; decide +kernel
def L_x9_weeks : List Nat := [27, 155, 0, 21, 27, 19, 1, 44, 163, 0, 14, 28, 4, 161, 0, 9, 28, 16, 60, 164, 0, 9, 42, 2, 182, 0, 84, 172, 42, 180, 0, 20, 180, 0, 88, 154, 0, 10, 42, 16, 253, 182, 0, 84, 172, 42, 180, 0, 29, 42, 180, 0, 20, 182, 1, 1, 27, 62, 3, 54, 4, 3, 54, 5, 21, 5, 28, 162, 0, 111, 42, 180, 0, 29, 180, 0, 144, 3, 46, 17, 3, 231, 162, 0, 96, 29, 184, 1, 45, 62, 29, 4, 42, 180, 0, 29, 180, 0, 88, 184, 1, 48, 112, 54, 6, 29, 184, 1, 45, 62, 29, 16, 20, 112, 4, 96, 54, 7, 29, 184, 1, 45, 62, 42, 180, 0, 29, 3, 29, 7, 112, 4, 100, 184, 1, 48, 21, 6, 21, 7, 182, 1, 53, 21, 4, 42, 180, 0, 60, 42, 180, 0, 29, 182, 0, 216, 96, 54, 4, 42, 180, 0, 29, 180, 0, 144, 3, 92, 46, 4, 96, 79, 132, 5, 1, 167, 255, 145, 42, 21, 4, 182, 0, 100, 172]
theorem bs_x9_weeks : g_bs cX9_weeks L_x9_weeks := by unfold g_bs; decide +kernel
def L_x9_drawn : List Nat := [42, 180, 0, 29, 27, 182, 0, 103, 154, 0, 5, 2, 172, 28, 170, 0, 0, 0, 0, 70, 0, 0, 0, 0, 0, 0, 0, 2, 0, 0, 0, 26, 0, 0, 0, 36, 0, 0, 0, 53, 42, 180, 0, 29, 180, 0, 107, 27, 46, 172, 42, 180, 0, 29, 27, 182, 0, 116, 153, 0, 7, 4, 167, 0, 4, 3, 172, 42, 180, 0, 29, 27, 182, 0, 119, 153, 0, 7, 4, 167, 0, 4, 3, 172, 2, 172]
theorem bs_x9_drawn : g_bs cX9_drawn L_x9_drawn := by unfold g_bs; decide +kernel
def L_x9_image : List Nat := [27, 155, 0, 8, 27, 5, 161, 0, 9, 42, 2, 182, 0, 84, 172, 42, 180, 0, 32, 27, 50, 42, 180, 0, 20, 182, 1, 1, 42, 180, 0, 36, 27, 4, 84, 42, 3, 182, 0, 100, 172]
theorem bs_x9_image : g_bs cX9_image L_x9_image := by unfold g_bs; decide +kernel
def L_x9_back : List Nat := [27, 155, 0, 8, 27, 5, 161, 0, 9, 42, 2, 182, 0, 84, 172, 42, 180, 0, 36, 27, 51, 154, 0, 10, 42, 16, 254, 182, 0, 84, 172, 42, 180, 0, 20, 42, 180, 0, 32, 27, 50, 182, 1, 1, 42, 180, 0, 55, 3, 181, 0, 95, 42, 3, 182, 0, 100, 172]
theorem bs_x9_back : g_bs cX9_back L_x9_back := by unfold g_bs; decide +kernel
def L_x9_count : List Nat := [27, 16, 7, 161, 0, 19, 27, 16, 11, 163, 0, 13, 42, 180, 0, 72, 27, 16, 7, 100, 46, 172, 27, 16, 13, 161, 0, 22, 27, 16, 16, 163, 0, 16, 42, 180, 0, 20, 180, 0, 144, 27, 16, 13, 100, 46, 172, 27, 170, 0, 0, 0, 0, 0, 0, 144, 0, 0, 0, 0, 0, 0, 0, 12, 0, 0, 0, 68, 0, 0, 0, 76, 0, 0, 0, 95, 0, 0, 0, 107, 0, 0, 0, 115, 0, 0, 0, 123, 0, 0, 0, 131, 0, 0, 0, 144, 0, 0, 0, 144, 0, 0, 0, 144, 0, 0, 0, 144, 0, 0, 0, 144, 0, 0, 0, 136, 42, 180, 0, 20, 180, 0, 88, 172, 42, 180, 0, 60, 42, 180, 0, 20, 182, 0, 122, 42, 180, 0, 60, 180, 0, 128, 172, 42, 180, 0, 60, 42, 180, 0, 20, 182, 0, 216, 172, 42, 180, 0, 20, 180, 1, 13, 172, 42, 180, 0, 20, 180, 0, 160, 172, 42, 180, 0, 55, 180, 0, 95, 172, 42, 180, 0, 147, 172, 42, 180, 0, 20, 180, 0, 206, 172, 2, 172]
theorem bs_x9_count : g_bs cX9_count L_x9_count := by unfold g_bs; decide +kernel
def L_x9_status : List Nat := [42, 180, 1, 56, 172]
theorem bs_x9_status : g_bs cX9_status L_x9_status := by unfold g_bs; decide +kernel
def L_m_lies : List Nat := [26, 27, 161, 0, 12, 26, 28, 163, 0, 7, 4, 167, 0, 4, 3, 172]
theorem bs_m_lies : g_bs cX10_lies L_m_lies := by unfold g_bs; decide +kernel
def L_m_lesser : List Nat := [26, 27, 162, 0, 7, 26, 167, 0, 4, 27, 172]
theorem bs_m_lesser : g_bs cX10_lesser L_m_lesser := by unfold g_bs; decide +kernel
def L_m_greater : List Nat := [26, 27, 164, 0, 7, 26, 167, 0, 4, 27, 172]
theorem bs_m_greater : g_bs cX10_greater L_m_greater := by unfold g_bs; decide +kernel
def L_m_refuses : List Nat := [42, 27, 181, 0, 3, 42, 180, 0, 7, 27, 116, 92, 46, 4, 96, 79, 27, 172]
theorem bs_m_refuses : g_bs cX10_refuses L_m_refuses := by unfold g_bs; decide +kernel
def L_m_good : List Nat := [42, 3, 181, 0, 3, 27, 172]
theorem bs_m_good : g_bs cX10_good L_m_good := by unfold g_bs; decide +kernel
def L_m_settled : List Nat := [42, 3, 181, 0, 11, 42, 27, 182, 0, 14, 172]
theorem bs_m_settled : g_bs cX10_settled L_m_settled := by unfold g_bs; decide +kernel
def L_m_isIn : List Nat := [26, 27, 122, 4, 126, 4, 160, 0, 7, 4, 167, 0, 4, 3, 172]
theorem bs_m_isIn : g_bs cX10_isIn L_m_isIn := by unfold g_bs; decide +kernel
def L_m_laysAside : List Nat := [3, 61, 28, 16, 15, 162, 0, 26, 42, 180, 0, 34, 16, 15, 27, 104, 28, 96, 42, 180, 0, 24, 28, 46, 79, 132, 2, 1, 167, 255, 230, 177]
theorem bs_m_laysAside : g_bs cX10_laysAside L_m_laysAside := by unfold g_bs; decide +kernel
def L_m_takesBack : List Nat := [3, 61, 28, 16, 15, 162, 0, 26, 42, 180, 0, 24, 28, 42, 180, 0, 34, 16, 15, 27, 104, 28, 96, 46, 79, 132, 2, 1, 167, 255, 230, 177]
theorem bs_m_takesBack : g_bs cX10_takesBack L_m_takesBack := by unfold g_bs; decide +kernel
def L_m_image : List Nat := [27, 3, 4, 184, 0, 132, 154, 0, 9, 42, 2, 182, 0, 136, 172, 3, 61, 28, 17, 22, 33, 162, 0, 27, 42, 180, 0, 27, 17, 22, 33, 27, 104, 28, 96, 42, 180, 0, 24, 28, 46, 79, 132, 2, 1, 167, 255, 228, 42, 180, 0, 30, 27, 4, 84, 42, 3, 182, 0, 14, 172]
theorem bs_m_image : g_bs cX10_image L_m_image := by unfold g_bs; decide +kernel
def L_m_wordMany : List Nat := [42, 180, 0, 24, 16, 54, 46, 172]
theorem bs_m_wordMany : g_bs cX10_wordMany L_m_wordMany := by unfold g_bs; decide +kernel
def L_m_laysAllWords : List Nat := [42, 42, 182, 0, 142, 181, 1, 104, 3, 60, 27, 42, 180, 1, 104, 162, 0, 16, 42, 180, 0, 72, 27, 27, 79, 132, 1, 1, 167, 255, 238, 177]
theorem bs_m_laysAllWords : g_bs cX10_laysAllWords L_m_laysAllWords := by unfold g_bs; decide +kernel
def L_m_back : List Nat := [27, 3, 4, 184, 0, 132, 154, 0, 9, 42, 2, 182, 0, 136, 172, 42, 180, 0, 30, 27, 51, 154, 0, 10, 42, 16, 254, 182, 0, 136, 172, 3, 61, 28, 17, 22, 33, 162, 0, 27, 42, 180, 0, 24, 28, 42, 180, 0, 27, 17, 22, 33, 27, 104, 28, 96, 46, 79, 132, 2, 1, 167, 255, 228, 42, 182, 0, 129, 42, 3, 182, 0, 139, 172]
theorem bs_m_back : g_bs cX10_back L_m_back := by unfold g_bs; decide +kernel
def L_m_isWord : List Nat := [27, 3, 42, 182, 0, 142, 4, 100, 184, 0, 132, 172]
theorem bs_m_isWord : g_bs cX10_isWord L_m_isWord := by unfold g_bs; decide +kernel
def L_m_isLast : List Nat := [27, 42, 182, 0, 142, 4, 100, 160, 0, 7, 4, 167, 0, 4, 3, 172]
theorem bs_m_isLast : g_bs cX10_isLast L_m_isLast := by unfold g_bs; decide +kernel
def L_m_endsAfter : List Nat := [42, 27, 182, 0, 146, 154, 0, 16, 42, 180, 0, 24, 3, 46, 27, 184, 0, 150, 153, 0, 7, 4, 167, 0, 4, 3, 172]
theorem bs_m_endsAfter : g_bs cX10_endsAfter L_m_endsAfter := by unfold g_bs; decide +kernel
def L_m_isSplit : List Nat := [42, 180, 0, 24, 4, 46, 27, 184, 0, 150, 172]
theorem bs_m_isSplit : g_bs cX10_isSplit L_m_isSplit := by unfold g_bs; decide +kernel
def L_m_canWord : List Nat := [26, 4, 16, 20, 184, 0, 132, 153, 0, 27, 27, 3, 26, 4, 100, 184, 0, 132, 153, 0, 16, 28, 3, 6, 184, 0, 132, 153, 0, 7, 4, 167, 0, 4, 3, 172]
theorem bs_m_canWord : g_bs cX10_canWord L_m_canWord := by unfold g_bs; decide +kernel
def L_m_adds : List Nat := [42, 182, 0, 142, 54, 4, 42, 180, 0, 24, 5, 21, 4, 96, 27, 79, 42, 180, 0, 24, 16, 15, 21, 4, 96, 28, 79, 42, 180, 0, 24, 16, 27, 21, 4, 96, 29, 79, 42, 180, 0, 24, 3, 92, 46, 4, 21, 4, 120, 2, 130, 126, 79, 42, 180, 0, 24, 4, 92, 46, 4, 21, 4, 120, 2, 130, 126, 79, 42, 180, 0, 24, 16, 54, 92, 46, 4, 96, 79, 42, 182, 0, 129, 177]
theorem bs_m_adds : g_bs cX10_adds L_m_adds := by unfold g_bs; decide +kernel
def L_m_word : List Nat := [27, 28, 29, 184, 0, 154, 154, 0, 9, 42, 2, 182, 0, 136, 172, 42, 182, 0, 142, 16, 12, 160, 0, 10, 42, 16, 251, 182, 0, 136, 172, 42, 27, 28, 29, 182, 0, 157, 42, 42, 182, 0, 142, 4, 100, 182, 0, 139, 172]
theorem bs_m_word : g_bs cX10_word L_m_word := by unfold g_bs; decide +kernel
def L_m_of : List Nat := [42, 27, 182, 0, 161, 154, 0, 5, 2, 172, 28, 170, 0, 0, 0, 90, 0, 0, 0, 0, 0, 0, 0, 4, 0, 0, 0, 33, 0, 0, 0, 42, 0, 0, 0, 52, 0, 0, 0, 62, 0, 0, 0, 76, 42, 180, 0, 24, 5, 27, 96, 46, 172, 42, 180, 0, 24, 16, 15, 27, 96, 46, 172, 42, 180, 0, 24, 16, 27, 27, 96, 46, 172, 42, 27, 182, 0, 164, 153, 0, 7, 4, 167, 0, 4, 3, 172, 42, 27, 182, 0, 167, 153, 0, 7, 4, 167, 0, 4, 3, 172, 2, 172]
theorem bs_m_of : g_bs cX10_of L_m_of := by unfold g_bs; decide +kernel
def L_m_isTerm : List Nat := [26, 170, 0, 0, 0, 0, 0, 65, 0, 0, 0, 0, 0, 0, 0, 3, 0, 0, 0, 31, 0, 0, 0, 40, 0, 0, 0, 48, 0, 0, 0, 56, 27, 3, 17, 3, 231, 184, 0, 132, 172, 27, 3, 16, 10, 184, 0, 132, 172, 27, 3, 16, 9, 184, 0, 132, 172, 27, 16, 10, 16, 60, 184, 0, 132, 172, 3, 172]
theorem bs_m_isTerm : g_bs cX10_isTerm L_m_isTerm := by unfold g_bs; decide +kernel
def L_m_termAt : List Nat := [26, 154, 0, 8, 16, 14, 167, 0, 25, 26, 4, 160, 0, 8, 16, 51, 167, 0, 15, 26, 5, 160, 0, 8, 16, 52, 167, 0, 5, 16, 53, 172]
theorem bs_m_termAt : g_bs cX10_termAt L_m_termAt := by unfold g_bs; decide +kernel
def L_m_terms : List Nat := [27, 28, 184, 0, 170, 154, 0, 9, 42, 2, 182, 0, 136, 172, 42, 180, 0, 24, 27, 184, 0, 173, 46, 62, 42, 180, 0, 24, 27, 184, 0, 173, 28, 79, 42, 29, 182, 0, 139, 172]
theorem bs_m_terms : g_bs cX10_terms L_m_terms := by unfold g_bs; decide +kernel
def L_m_row : List Nat := [42, 180, 0, 176, 60, 42, 3, 181, 0, 176, 27, 154, 0, 10, 42, 16, 250, 182, 0, 136, 172, 3, 61, 42, 27, 6, 112, 154, 0, 7, 3, 167, 0, 4, 4, 181, 0, 179, 3, 62, 29, 6, 96, 27, 163, 0, 116, 42, 182, 0, 142, 16, 12, 162, 0, 35, 42, 180, 0, 41, 29, 51, 42, 180, 0, 41, 29, 4, 96, 51, 42, 180, 0, 41, 29, 5, 96, 51, 184, 0, 154, 153, 0, 7, 4, 167, 0, 4, 3, 54, 4, 21, 4, 153, 0, 29, 42, 42, 180, 0, 41, 29, 51, 42, 180, 0, 41, 29, 4, 96, 51, 42, 180, 0, 41, 29, 5, 96, 51, 182, 0, 157, 28, 21, 4, 153, 0, 7, 4, 167, 0, 4, 3, 96, 61, 42, 89, 180, 0, 179, 21, 4, 153, 0, 7, 3, 167, 0, 4, 4, 96, 181, 0, 179, 132, 3, 3, 167, 255, 139, 42, 28, 182, 0, 139, 172]
theorem bs_m_row : g_bs cX10_row L_m_row := by unfold g_bs; decide +kernel
def L_m_turned : List Nat := [42, 180, 0, 179, 172]
theorem bs_m_turned : g_bs cX10_turned L_m_turned := by unfold g_bs; decide +kernel
def L_m_feed : List Nat := [42, 180, 0, 176, 16, 20, 96, 17, 1, 144, 164, 0, 5, 2, 172, 42, 180, 0, 44, 3, 27, 79, 42, 180, 0, 44, 4, 28, 79, 42, 180, 0, 44, 5, 29, 79, 42, 180, 0, 44, 6, 21, 4, 79, 42, 180, 0, 44, 7, 21, 5, 79, 3, 54, 6, 21, 6, 16, 20, 162, 0, 42, 42, 180, 0, 41, 42, 180, 0, 176, 21, 6, 96, 42, 180, 0, 44, 21, 6, 7, 108, 46, 16, 24, 16, 8, 21, 6, 7, 112, 104, 100, 122, 145, 84, 132, 6, 1, 167, 255, 213, 42, 89, 180, 0, 176, 16, 20, 96, 181, 0, 176, 42, 180, 0, 176, 172]
theorem bs_m_feed : g_bs cX10_feed L_m_feed := by unfold g_bs; decide +kernel
def L_m_end : List Nat := [27, 3, 42, 180, 0, 176, 184, 0, 132, 154, 0, 5, 2, 172, 42, 27, 181, 0, 176, 27, 172]
theorem bs_m_end : g_bs cX10_end L_m_end := by unfold g_bs; decide +kernel
def L_m_isSmall : List Nat := [26, 16, 97, 161, 0, 13, 26, 16, 122, 163, 0, 7, 4, 167, 0, 4, 3, 172]
theorem bs_m_isSmall : g_bs cX10_isSmall L_m_isSmall := by unfold g_bs; decide +kernel
def L_m_isDigit : List Nat := [26, 16, 48, 161, 0, 13, 26, 16, 57, 163, 0, 7, 4, 167, 0, 4, 3, 172]
theorem bs_m_isDigit : g_bs cX10_isDigit L_m_isDigit := by unfold g_bs; decide +kernel
def L_m_wordOf : List Nat := [4, 62, 3, 54, 4, 21, 4, 42, 180, 0, 37, 190, 162, 0, 114, 3, 54, 5, 42, 180, 0, 37, 21, 4, 21, 5, 96, 51, 16, 32, 159, 0, 9, 132, 5, 1, 167, 255, 238, 21, 5, 28, 27, 100, 160, 0, 7, 4, 167, 0, 4, 3, 54, 6, 3, 54, 7, 21, 7, 21, 5, 162, 0, 43, 21, 6, 153, 0, 38, 42, 180, 0, 37, 21, 4, 21, 7, 96, 51, 42, 180, 0, 41, 27, 21, 7, 96, 51, 160, 0, 7, 4, 167, 0, 4, 3, 54, 6, 132, 7, 1, 167, 255, 212, 21, 6, 153, 0, 5, 29, 172, 21, 4, 21, 5, 4, 96, 96, 54, 4, 132, 3, 1, 167, 255, 138, 3, 172]
theorem bs_m_wordOf : g_bs cX10_wordOf L_m_wordOf := by unfold g_bs; decide +kernel
def L_m_splits : List Nat := [42, 3, 181, 0, 182, 3, 61, 28, 27, 162, 0, 254, 42, 180, 0, 41, 28, 51, 62, 29, 16, 32, 160, 0, 9, 132, 2, 1, 167, 255, 235, 28, 4, 96, 54, 4, 29, 184, 0, 185, 153, 0, 28, 21, 4, 27, 162, 0, 22, 42, 180, 0, 41, 21, 4, 51, 184, 0, 185, 153, 0, 9, 132, 4, 1, 167, 255, 234, 29, 184, 0, 188, 153, 0, 28, 21, 4, 27, 162, 0, 22, 42, 180, 0, 41, 21, 4, 51, 184, 0, 188, 153, 0, 9, 132, 4, 1, 167, 255, 234, 42, 180, 0, 56, 42, 180, 0, 182, 28, 79, 42, 180, 0, 53, 42, 180, 0, 182, 3, 79, 42, 180, 0, 50, 42, 180, 0, 182, 29, 184, 0, 185, 153, 0, 13, 42, 28, 21, 4, 182, 0, 191, 167, 0, 23, 29, 184, 0, 188, 153, 0, 8, 16, 50, 167, 0, 11, 16, 100, 29, 17, 0, 255, 126, 96, 79, 28, 54, 5, 21, 5, 21, 4, 162, 0, 74, 29, 184, 0, 188, 153, 0, 67, 42, 180, 0, 53, 42, 180, 0, 182, 42, 180, 0, 53, 42, 180, 0, 182, 46, 18, 195, 164, 0, 15, 42, 180, 0, 53, 42, 180, 0, 182, 46, 167, 0, 26, 16, 10, 42, 180, 0, 53, 42, 180, 0, 182, 46, 104, 42, 180, 0, 41, 21, 5, 51, 96, 16, 48, 100, 79, 132, 5, 1, 167, 255, 181, 42, 89, 180, 0, 182, 4, 96, 181, 0, 182, 21, 4, 61, 167, 255, 3, 42, 180, 0, 56, 42, 180, 0, 182, 27, 79, 42, 180, 0, 50, 42, 180, 0, 182, 3, 79, 42, 180, 0, 53, 42, 180, 0, 182, 3, 79, 177]
theorem bs_m_splits : g_bs cX10_splits L_m_splits := by unfold g_bs; decide +kernel
def L_m_fine : List Nat := [42, 180, 0, 196, 2, 160, 0, 7, 4, 167, 0, 4, 3, 172]
theorem bs_m_fine : g_bs cX10_fine L_m_fine := by unfold g_bs; decide +kernel
def L_m_faults : List Nat := [42, 182, 0, 199, 153, 0, 16, 42, 42, 180, 0, 56, 42, 180, 0, 203, 46, 181, 0, 196, 177]
theorem bs_m_faults : g_bs cX10_faults L_m_faults := by unfold g_bs; decide +kernel
def L_m_tellsOp : List Nat := [42, 182, 0, 199, 154, 0, 5, 3, 172, 42, 180, 0, 59, 42, 180, 0, 206, 27, 79, 42, 180, 0, 62, 42, 180, 0, 206, 28, 79, 42, 89, 180, 0, 206, 4, 96, 181, 0, 206, 42, 180, 0, 206, 4, 100, 172]
theorem bs_m_tellsOp : g_bs cX10_tellsOp L_m_tellsOp := by unfold g_bs; decide +kernel
def L_m_takes0 : List Nat := [42, 182, 0, 199, 153, 0, 20, 42, 180, 0, 50, 42, 180, 0, 203, 46, 27, 160, 0, 7, 4, 167, 0, 4, 3, 61, 28, 153, 0, 13, 42, 89, 180, 0, 203, 4, 96, 181, 0, 203, 28, 172]
theorem bs_m_takes0 : g_bs cX10_takes0 L_m_takes0 := by unfold g_bs; decide +kernel
def L_m_must : List Nat := [42, 27, 182, 0, 209, 154, 0, 7, 42, 182, 0, 212, 177]
theorem bs_m_must : g_bs cX10_must L_m_must := by unfold g_bs; decide +kernel
def L_m_leaf : List Nat := [42, 180, 0, 215, 16, 50, 160, 0, 7, 42, 182, 0, 212, 42, 89, 180, 0, 215, 4, 96, 181, 0, 215, 42, 182, 0, 199, 153, 0, 13, 42, 89, 180, 0, 203, 4, 96, 181, 0, 203, 177]
theorem bs_m_leaf : g_bs cX10_leaf L_m_leaf := by unfold g_bs; decide +kernel
def L_m_sign : List Nat := [16, 100, 26, 96, 172]
theorem bs_m_sign : g_bs cX10_sign L_m_sign := by unfold g_bs; decide +kernel
def L_m_mustNumber : List Nat := [42, 182, 0, 199, 153, 0, 38, 42, 180, 0, 50, 42, 180, 0, 203, 46, 16, 50, 160, 0, 20, 42, 180, 0, 53, 42, 180, 0, 203, 46, 27, 28, 184, 0, 132, 154, 0, 7, 42, 182, 0, 212, 42, 182, 0, 199, 153, 0, 13, 42, 89, 180, 0, 203, 4, 96, 181, 0, 203, 177]
theorem bs_m_mustNumber : g_bs cX10_mustNumber L_m_mustNumber := by unfold g_bs; decide +kernel
def L_m_readPart : List Nat := [42, 182, 0, 199, 154, 0, 4, 177, 42, 180, 0, 50, 42, 180, 0, 203, 46, 61, 28, 16, 91, 184, 0, 251, 160, 0, 50, 27, 16, 8, 160, 0, 7, 42, 182, 0, 212, 42, 182, 0, 199, 154, 0, 4, 177, 42, 89, 180, 0, 203, 4, 96, 181, 0, 203, 42, 27, 4, 96, 182, 0, 221, 42, 16, 93, 184, 0, 251, 182, 0, 225, 167, 0, 92, 28, 16, 50, 160, 0, 18, 42, 180, 0, 53, 42, 180, 0, 203, 46, 17, 3, 232, 164, 0, 19, 28, 42, 180, 1, 5, 161, 0, 59, 28, 42, 180, 1, 8, 163, 0, 51, 42, 28, 42, 180, 0, 53, 42, 180, 0, 203, 46, 182, 0, 218, 87, 42, 182, 1, 11, 42, 180, 0, 235, 153, 0, 29, 28, 16, 20, 159, 0, 9, 28, 16, 21, 160, 0, 17, 42, 3, 16, 11, 182, 0, 231, 167, 0, 7, 42, 182, 0, 212, 177]
theorem bs_m_readPart : g_bs cX10_readPart L_m_readPart := by unfold g_bs; decide +kernel
def L_m_readTerm : List Nat := [42, 27, 182, 1, 2, 42, 16, 42, 184, 0, 251, 182, 0, 209, 154, 0, 27, 42, 16, 47, 184, 0, 251, 182, 0, 209, 154, 0, 15, 42, 16, 37, 184, 0, 251, 182, 0, 209, 153, 0, 30, 42, 180, 0, 50, 42, 180, 0, 203, 4, 100, 46, 61, 42, 27, 182, 1, 2, 42, 28, 3, 182, 0, 218, 87, 167, 255, 196, 177]
theorem bs_m_readTerm : g_bs cX10_readTerm L_m_readTerm := by unfold g_bs; decide +kernel
def L_m_readSum : List Nat := [42, 27, 182, 0, 255, 42, 16, 43, 184, 0, 251, 182, 0, 209, 154, 0, 15, 42, 16, 45, 184, 0, 251, 182, 0, 209, 153, 0, 30, 42, 180, 0, 50, 42, 180, 0, 203, 4, 100, 46, 61, 42, 27, 182, 0, 255, 42, 28, 3, 182, 0, 218, 87, 167, 255, 208, 177]
theorem bs_m_readSum : g_bs cX10_readSum L_m_readSum := by unfold g_bs; decide +kernel
def L_m_readPlain : List Nat := [3, 61, 42, 16, 7, 182, 0, 209, 153, 0, 16, 28, 154, 0, 7, 4, 167, 0, 4, 3, 61, 167, 255, 237, 42, 182, 0, 199, 154, 0, 4, 177, 42, 180, 0, 50, 42, 180, 0, 203, 46, 62, 29, 16, 40, 184, 0, 251, 160, 0, 50, 27, 16, 8, 160, 0, 7, 42, 182, 0, 212, 42, 182, 0, 199, 154, 0, 4, 177, 42, 89, 180, 0, 203, 4, 96, 181, 0, 203, 42, 27, 4, 96, 182, 0, 228, 42, 16, 41, 184, 0, 251, 182, 0, 225, 167, 0, 65, 42, 27, 182, 0, 221, 42, 180, 0, 50, 42, 180, 0, 203, 46, 54, 4, 42, 16, 60, 184, 0, 251, 182, 0, 209, 154, 0, 24, 42, 16, 62, 184, 0, 251, 182, 0, 209, 154, 0, 12, 42, 16, 61, 184, 0, 251, 182, 0, 225, 42, 27, 182, 0, 221, 42, 21, 4, 3, 182, 0, 218, 87, 28, 153, 0, 11, 42, 16, 7, 3, 182, 0, 218, 87, 177]
theorem bs_m_readPlain : g_bs cX10_readPlain L_m_readPlain := by unfold g_bs; decide +kernel
def L_m_readBoth : List Nat := [42, 27, 182, 0, 248, 42, 16, 6, 182, 0, 209, 153, 0, 29, 42, 16, 6, 3, 182, 0, 218, 61, 42, 27, 182, 0, 248, 42, 180, 0, 62, 28, 42, 180, 0, 206, 79, 167, 255, 224, 177]
theorem bs_m_readBoth : g_bs cX10_readBoth L_m_readBoth := by unfold g_bs; decide +kernel
def L_m_readTest : List Nat := [42, 27, 182, 0, 245, 42, 8, 182, 0, 209, 153, 0, 28, 42, 8, 3, 182, 0, 218, 61, 42, 27, 182, 0, 245, 42, 180, 0, 62, 28, 42, 180, 0, 206, 79, 167, 255, 226, 177]
theorem bs_m_readTest : g_bs cX10_readTest L_m_readTest := by unfold g_bs; decide +kernel
def L_m_readClause : List Nat := [42, 42, 180, 0, 50, 42, 180, 0, 203, 46, 3, 182, 0, 218, 60, 42, 4, 182, 0, 209, 154, 0, 11, 42, 5, 182, 0, 209, 153, 0, 11, 42, 3, 182, 0, 221, 167, 0, 8, 42, 6, 182, 0, 225, 42, 7, 182, 0, 209, 153, 0, 15, 42, 7, 3, 182, 0, 218, 87, 42, 3, 182, 0, 228, 42, 180, 0, 62, 27, 42, 180, 0, 206, 79, 177]
theorem bs_m_readClause : g_bs cX10_readClause L_m_readClause := by unfold g_bs; decide +kernel
def L_m_readOrder : List Nat := [42, 16, 24, 182, 0, 209, 153, 0, 22, 42, 3, 182, 0, 221, 42, 16, 25, 182, 0, 225, 42, 3, 182, 0, 221, 167, 0, 35, 42, 16, 22, 182, 0, 209, 154, 0, 12, 42, 16, 23, 182, 0, 209, 153, 0, 11, 42, 3, 182, 0, 221, 167, 0, 9, 42, 16, 26, 182, 0, 225, 42, 16, 27, 182, 0, 209, 153, 0, 10, 42, 4, 16, 20, 182, 0, 231, 42, 7, 182, 0, 209, 153, 0, 8, 42, 3, 182, 0, 228, 177]
theorem bs_m_readOrder : g_bs cX10_readOrder L_m_readOrder := by unfold g_bs; decide +kernel
def L_m_readOne : List Nat := [42, 180, 0, 235, 153, 0, 10, 42, 182, 0, 239, 167, 0, 7, 42, 182, 0, 242, 177]
theorem bs_m_readOne : g_bs cX10_readOne L_m_readOne := by unfold g_bs; decide +kernel
def L_m_reads : List Nat := [42, 42, 180, 0, 176, 182, 1, 14, 42, 3, 181, 0, 176, 42, 3, 181, 0, 203, 42, 3, 181, 0, 215, 42, 3, 181, 0, 206, 42, 2, 181, 0, 196, 42, 182, 1, 17, 4, 60, 42, 16, 59, 184, 0, 251, 182, 0, 209, 153, 0, 30, 27, 16, 12, 160, 0, 7, 42, 182, 0, 212, 42, 182, 0, 199, 153, 0, 7, 42, 182, 1, 17, 132, 1, 1, 167, 255, 220, 42, 182, 0, 199, 153, 0, 18, 42, 180, 0, 203, 42, 180, 0, 182, 162, 0, 7, 42, 182, 0, 212, 42, 42, 180, 0, 196, 181, 0, 47, 42, 182, 0, 199, 172]
theorem bs_m_reads : g_bs cX10_reads L_m_reads := by unfold g_bs; decide +kernel
def L_m_readsAs : List Nat := [42, 27, 181, 0, 235, 42, 27, 153, 0, 8, 16, 15, 167, 0, 5, 16, 8, 181, 1, 5, 42, 27, 153, 0, 8, 16, 21, 167, 0, 5, 16, 15, 181, 1, 8, 42, 182, 1, 20, 172]
theorem bs_m_readsAs : g_bs cX10_readsAs L_m_readsAs := by unfold g_bs; decide +kernel
def L_m_lays : List Nat := [42, 180, 0, 24, 16, 58, 27, 96, 42, 180, 0, 182, 79, 3, 61, 28, 42, 180, 0, 182, 162, 0, 52, 42, 180, 0, 24, 16, 65, 17, 1, 144, 27, 104, 96, 28, 96, 42, 180, 0, 50, 28, 46, 79, 42, 180, 0, 24, 17, 11, 49, 17, 1, 144, 27, 104, 96, 28, 96, 42, 180, 0, 53, 28, 46, 79, 132, 2, 1, 167, 255, 202, 177]
theorem bs_m_lays : g_bs cX10_lays L_m_lays := by unfold g_bs; decide +kernel
def L_m_laysOps : List Nat := [42, 180, 0, 24, 16, 58, 27, 96, 42, 180, 0, 206, 79, 3, 61, 28, 42, 180, 0, 206, 162, 0, 52, 42, 180, 0, 24, 16, 65, 17, 1, 144, 27, 104, 96, 28, 96, 42, 180, 0, 59, 28, 46, 79, 42, 180, 0, 24, 17, 11, 49, 17, 1, 144, 27, 104, 96, 28, 96, 42, 180, 0, 62, 28, 46, 79, 132, 2, 1, 167, 255, 202, 177]
theorem bs_m_laysOps : g_bs cX10_laysOps L_m_laysOps := by unfold g_bs; decide +kernel
def L_m_law : List Nat := [42, 180, 0, 24, 16, 56, 46, 16, 6, 160, 0, 15, 42, 3, 181, 0, 176, 42, 16, 251, 182, 0, 136, 172, 42, 3, 182, 1, 23, 154, 0, 10, 42, 16, 250, 182, 0, 136, 172, 42, 42, 180, 0, 24, 16, 56, 46, 182, 1, 27, 42, 180, 0, 24, 16, 56, 92, 46, 4, 96, 79, 42, 42, 180, 0, 24, 16, 56, 46, 4, 100, 182, 0, 14, 172]
theorem bs_m_law : g_bs cX10_law L_m_law := by unfold g_bs; decide +kernel
def L_m_fault : List Nat := [42, 180, 0, 47, 172]
theorem bs_m_fault : g_bs cX10_fault L_m_fault := by unfold g_bs; decide +kernel
def L_m_isLaw : List Nat := [27, 2, 42, 180, 0, 24, 16, 56, 46, 4, 100, 184, 0, 132, 172]
theorem bs_m_isLaw : g_bs cX10_isLaw L_m_isLaw := by unfold g_bs; decide +kernel
def L_m_force : List Nat := [42, 27, 182, 1, 30, 154, 0, 10, 42, 16, 254, 182, 0, 136, 172, 42, 180, 0, 24, 16, 57, 46, 61, 42, 180, 0, 24, 16, 57, 27, 79, 42, 28, 182, 0, 14, 172]
theorem bs_m_force : g_bs cX10_force L_m_force := by unfold g_bs; decide +kernel
def L_m_codeAt : List Nat := [27, 42, 180, 1, 33, 162, 0, 15, 42, 180, 0, 24, 16, 65, 27, 96, 46, 167, 0, 4, 3, 172]
theorem bs_m_codeAt : g_bs cX10_codeAt L_m_codeAt := by unfold g_bs; decide +kernel
def L_m_passes0 : List Nat := [42, 42, 180, 1, 36, 182, 1, 39, 27, 160, 0, 7, 4, 167, 0, 4, 3, 61, 28, 153, 0, 13, 42, 89, 180, 1, 36, 4, 96, 181, 1, 36, 28, 172]
theorem bs_m_passes0 : g_bs cX10_passes0 L_m_passes0 := by unfold g_bs; decide +kernel
def L_m_bounded : List Nat := [29, 153, 0, 24, 31, 20, 1, 42, 148, 157, 0, 11, 31, 20, 1, 44, 148, 156, 0, 8, 42, 4, 181, 1, 46, 42, 180, 1, 46, 153, 0, 7, 9, 167, 0, 4, 31, 173]
theorem bs_m_bounded : g_bs cX10_bounded L_m_bounded := by unfold g_bs; decide +kernel
def L_m_orderValue : List Nat := [27, 170, 0, 0, 0, 0, 0, 88, 0, 0, 0, 15, 0, 0, 0, 20, 0, 0, 0, 39, 0, 0, 0, 47, 0, 0, 0, 52, 0, 0, 0, 57, 0, 0, 0, 62, 0, 0, 0, 67, 42, 180, 0, 24, 16, 14, 46, 172, 42, 180, 1, 69, 172, 42, 180, 1, 72, 172, 42, 180, 1, 75, 172, 42, 180, 1, 78, 172, 42, 28, 182, 0, 161, 153, 0, 14, 42, 180, 0, 24, 5, 28, 96, 46, 167, 0, 4, 2, 172, 42, 28, 182, 0, 161, 153, 0, 33, 42, 28, 182, 0, 164, 153, 0, 7, 4, 167, 0, 4, 3, 42, 28, 182, 0, 167, 153, 0, 7, 5, 167, 0, 4, 3, 96, 167, 0, 4, 2, 172]
theorem bs_m_orderValue : g_bs cX10_orderValue L_m_orderValue := by unfold g_bs; decide +kernel
def L_m_partOf : List Nat := [42, 16, 91, 184, 0, 251, 182, 1, 60, 153, 0, 21, 42, 27, 182, 1, 63, 65, 42, 89, 180, 1, 36, 4, 96, 181, 1, 36, 32, 173, 42, 42, 180, 1, 36, 182, 1, 39, 61, 3, 62, 42, 89, 180, 1, 36, 4, 96, 181, 1, 36, 28, 16, 20, 159, 0, 9, 28, 16, 21, 160, 0, 27, 42, 180, 0, 24, 17, 11, 49, 42, 180, 1, 36, 96, 46, 62, 42, 89, 180, 1, 36, 4, 96, 181, 1, 36, 27, 153, 0, 10, 42, 180, 1, 46, 153, 0, 5, 9, 173, 28, 16, 50, 160, 0, 20, 42, 180, 0, 24, 17, 11, 49, 42, 180, 1, 36, 96, 4, 100, 46, 133, 173, 42, 28, 29, 182, 1, 66, 133, 173]
theorem bs_m_partOf : g_bs cX10_partOf L_m_partOf := by unfold g_bs; decide +kernel
def L_m_termOf : List Nat := [42, 27, 182, 1, 57, 65, 42, 42, 180, 1, 36, 182, 1, 39, 16, 42, 184, 0, 251, 159, 0, 35, 42, 42, 180, 1, 36, 182, 1, 39, 16, 47, 184, 0, 251, 159, 0, 19, 42, 42, 180, 1, 36, 182, 1, 39, 16, 37, 184, 0, 251, 160, 0, 117, 42, 42, 180, 1, 36, 182, 1, 39, 54, 4, 42, 89, 180, 1, 36, 4, 96, 181, 1, 36, 42, 27, 182, 1, 57, 55, 5, 21, 4, 16, 42, 184, 0, 251, 159, 0, 33, 22, 5, 9, 148, 154, 0, 26, 42, 42, 180, 1, 46, 154, 0, 7, 27, 153, 0, 7, 4, 167, 0, 4, 3, 181, 1, 46, 10, 55, 5, 42, 21, 4, 16, 42, 184, 0, 251, 160, 0, 10, 32, 22, 5, 105, 167, 0, 24, 21, 4, 16, 47, 184, 0, 251, 160, 0, 10, 32, 22, 5, 109, 167, 0, 7, 32, 22, 5, 113, 27, 182, 1, 53, 65, 167, 255, 97, 32, 173]
theorem bs_m_termOf : g_bs cX10_termOf L_m_termOf := by unfold g_bs; decide +kernel
def L_m_sumOf : List Nat := [42, 27, 182, 1, 49, 65, 42, 42, 180, 1, 36, 182, 1, 39, 16, 43, 184, 0, 251, 159, 0, 19, 42, 42, 180, 1, 36, 182, 1, 39, 16, 45, 184, 0, 251, 160, 0, 68, 42, 42, 180, 1, 36, 182, 1, 39, 16, 43, 184, 0, 251, 160, 0, 7, 4, 167, 0, 4, 3, 54, 4, 42, 89, 180, 1, 36, 4, 96, 181, 1, 36, 42, 27, 182, 1, 49, 55, 5, 42, 21, 4, 153, 0, 10, 32, 22, 5, 97, 167, 0, 7, 32, 22, 5, 101, 27, 182, 1, 53, 65, 167, 255, 162, 32, 173]
theorem bs_m_sumOf : g_bs cX10_sumOf L_m_sumOf := by unfold g_bs; decide +kernel
def L_m_positiveOf : List Nat := [42, 16, 40, 184, 0, 251, 182, 1, 60, 153, 0, 21, 42, 27, 182, 1, 90, 61, 42, 89, 180, 1, 36, 4, 96, 181, 1, 36, 28, 172, 42, 27, 182, 1, 63, 65, 42, 42, 180, 1, 36, 182, 1, 39, 54, 4, 42, 89, 180, 1, 36, 4, 96, 181, 1, 36, 42, 27, 182, 1, 63, 55, 5, 27, 153, 0, 61, 42, 180, 1, 46, 154, 0, 54, 21, 4, 16, 60, 184, 0, 251, 160, 0, 13, 32, 22, 5, 148, 156, 0, 37, 167, 0, 30, 21, 4, 16, 62, 184, 0, 251, 160, 0, 13, 32, 22, 5, 148, 158, 0, 17, 167, 0, 10, 32, 22, 5, 148, 154, 0, 7, 4, 167, 0, 4, 3, 172]
theorem bs_m_positiveOf : g_bs cX10_positiveOf L_m_positiveOf := by unfold g_bs; decide +kernel
def L_m_plainOf : List Nat := [3, 61, 42, 16, 7, 182, 1, 60, 153, 0, 16, 28, 154, 0, 7, 4, 167, 0, 4, 3, 61, 167, 255, 237, 42, 27, 182, 1, 87, 28, 159, 0, 7, 4, 167, 0, 4, 3, 172]
theorem bs_m_plainOf : g_bs cX10_plainOf L_m_plainOf := by unfold g_bs; decide +kernel
def L_m_bothOf : List Nat := [42, 27, 182, 1, 84, 61, 42, 16, 6, 182, 1, 60, 153, 0, 38, 42, 27, 153, 0, 11, 28, 153, 0, 7, 4, 167, 0, 4, 3, 182, 1, 84, 62, 28, 153, 0, 11, 29, 153, 0, 7, 4, 167, 0, 4, 3, 61, 167, 255, 215, 28, 172]
theorem bs_m_bothOf : g_bs cX10_bothOf L_m_bothOf := by unfold g_bs; decide +kernel
def L_m_testOf : List Nat := [42, 27, 182, 1, 81, 61, 42, 8, 182, 1, 60, 153, 0, 38, 42, 27, 153, 0, 11, 28, 154, 0, 7, 4, 167, 0, 4, 3, 182, 1, 81, 62, 28, 154, 0, 7, 29, 153, 0, 7, 4, 167, 0, 4, 3, 61, 167, 255, 216, 28, 172]
theorem bs_m_testOf : g_bs cX10_testOf L_m_testOf := by unfold g_bs; decide +kernel
def L_m_workedOff : List Nat := [27, 16, 43, 184, 0, 251, 160, 0, 8, 32, 22, 4, 97, 173, 27, 16, 45, 184, 0, 251, 160, 0, 8, 32, 22, 4, 101, 173, 27, 16, 42, 184, 0, 251, 160, 0, 8, 32, 22, 4, 105, 173, 27, 16, 60, 184, 0, 251, 160, 0, 16, 32, 22, 4, 148, 156, 0, 7, 10, 167, 0, 4, 9, 173, 27, 16, 62, 184, 0, 251, 160, 0, 16, 32, 22, 4, 148, 158, 0, 7, 10, 167, 0, 4, 9, 173, 27, 16, 61, 184, 0, 251, 160, 0, 16, 32, 22, 4, 148, 154, 0, 7, 10, 167, 0, 4, 9, 173, 22, 4, 9, 148, 154, 0, 10, 42, 4, 181, 1, 46, 9, 173, 27, 16, 47, 184, 0, 251, 160, 0, 10, 32, 22, 4, 109, 167, 0, 7, 32, 22, 4, 113, 173]
theorem bs_m_workedOff : g_bs cX10_workedOff L_m_workedOff := by unfold g_bs; decide +kernel
def L_m_holds : List Nat := [3, 54, 4, 3, 54, 5, 42, 3, 181, 1, 46, 42, 10, 181, 1, 93, 28, 54, 6, 21, 6, 29, 162, 1, 16, 42, 180, 1, 46, 154, 1, 9, 42, 180, 0, 24, 16, 65, 21, 6, 96, 46, 54, 7, 21, 7, 16, 50, 160, 0, 28, 42, 180, 0, 68, 21, 4, 42, 180, 0, 24, 17, 11, 49, 21, 6, 96, 46, 133, 80, 132, 4, 1, 167, 0, 215, 21, 7, 16, 8, 161, 0, 34, 21, 7, 16, 16, 162, 0, 27, 42, 180, 0, 68, 21, 4, 42, 180, 0, 65, 21, 7, 16, 8, 100, 46, 133, 80, 132, 4, 1, 167, 0, 177, 21, 7, 7, 160, 0, 32, 42, 21, 4, 4, 160, 0, 12, 42, 180, 0, 68, 3, 47, 167, 0, 4, 10, 181, 1, 93, 3, 54, 4, 4, 54, 5, 167, 0, 142, 21, 7, 16, 7, 160, 0, 26, 42, 180, 0, 68, 21, 4, 4, 100, 10, 42, 180, 0, 68, 21, 4, 4, 100, 47, 101, 80, 167, 0, 112, 21, 7, 8, 159, 0, 10, 21, 7, 16, 6, 160, 0, 60, 42, 180, 0, 68, 21, 4, 4, 100, 47, 10, 148, 154, 0, 7, 4, 167, 0, 4, 3, 21, 7, 8, 160, 0, 7, 4, 167, 0, 4, 3, 160, 0, 21, 27, 42, 180, 0, 24, 17, 11, 49, 21, 6, 96, 46, 96, 54, 6, 167, 255, 35, 132, 4, 255, 167, 0, 42, 132, 4, 255, 42, 180, 0, 68, 21, 4, 4, 100, 42, 42, 21, 7, 42, 180, 0, 68, 21, 4, 4, 100, 47, 42, 180, 0, 68, 21, 4, 47, 182, 1, 97, 4, 182, 1, 53, 80, 132, 6, 1, 167, 254, 240, 42, 180, 1, 46, 153, 0, 5, 3, 172, 21, 5, 153, 0, 20, 42, 180, 0, 68, 3, 47, 10, 148, 154, 0, 7, 4, 167, 0, 4, 3, 172, 42, 21, 4, 4, 160, 0, 12, 42, 180, 0, 68, 3, 47, 167, 0, 4, 10, 181, 1, 93, 4, 172]
theorem bs_m_holds : g_bs cX10_holds L_m_holds := by unfold g_bs; decide +kernel
def L_m_tells : List Nat := [42, 180, 0, 24, 16, 57, 46, 2, 160, 0, 5, 29, 172, 29, 133, 55, 4, 17, 1, 144, 42, 180, 0, 24, 16, 57, 46, 104, 54, 6, 21, 6, 54, 7, 21, 7, 21, 6, 42, 180, 0, 24, 16, 58, 42, 180, 0, 24, 16, 57, 46, 96, 46, 96, 162, 0, 89, 21, 6, 42, 180, 0, 24, 17, 11, 49, 21, 7, 96, 46, 96, 54, 8, 42, 180, 0, 24, 16, 65, 21, 7, 96, 46, 27, 160, 0, 52, 42, 21, 6, 21, 7, 4, 96, 21, 8, 182, 1, 101, 153, 0, 37, 42, 180, 1, 93, 9, 148, 156, 0, 7, 9, 167, 0, 22, 42, 180, 1, 93, 28, 133, 148, 158, 0, 8, 28, 133, 167, 0, 7, 42, 180, 1, 93, 55, 4, 21, 8, 54, 7, 167, 255, 150, 22, 4, 136, 172]
theorem bs_m_tells : g_bs cX10_tells L_m_tells := by unfold g_bs; decide +kernel
def L_m_leavesOut : List Nat := [42, 3, 181, 1, 104, 3, 61, 28, 42, 182, 0, 142, 162, 0, 37, 28, 27, 160, 0, 6, 167, 0, 23, 42, 180, 0, 72, 42, 180, 1, 104, 28, 79, 42, 89, 180, 1, 104, 4, 96, 181, 1, 104, 132, 2, 1, 167, 255, 217, 177]
theorem bs_m_leavesOut : g_bs cX10_leavesOut L_m_leavesOut := by unfold g_bs; decide +kernel
def L_m_lastPlace : List Nat := [5, 42, 180, 1, 104, 104, 4, 100, 172]
theorem bs_m_lastPlace : g_bs cX10_lastPlace L_m_lastPlace := by unfold g_bs; decide +kernel
def L_m_isWithin : List Nat := [26, 155, 0, 13, 26, 5, 112, 154, 0, 7, 4, 167, 0, 4, 3, 172]
theorem bs_m_isWithin : g_bs cX10_isWithin L_m_isWithin := by unfold g_bs; decide +kernel
def L_m_isPlace : List Nat := [27, 5, 112, 4, 159, 0, 22, 42, 180, 0, 24, 16, 15, 42, 180, 0, 72, 27, 5, 108, 46, 96, 46, 158, 0, 7, 4, 167, 0, 4, 3, 172]
theorem bs_m_isPlace : g_bs cX10_isPlace L_m_isPlace := by unfold g_bs; decide +kernel
def L_m_addsPiece : List Nat := [42, 89, 180, 1, 107, 42, 180, 1, 110, 158, 0, 9, 27, 4, 96, 167, 0, 4, 27, 96, 181, 1, 107, 42, 89, 180, 1, 110, 4, 96, 181, 1, 110, 177]
theorem bs_m_addsPiece : g_bs cX10_addsPiece L_m_addsPiece := by unfold g_bs; decide +kernel
def L_m_takesLine : List Nat := [42, 3, 181, 1, 110, 42, 3, 181, 1, 107, 42, 27, 181, 1, 113, 42, 29, 181, 1, 116, 42, 21, 4, 181, 1, 119, 28, 184, 1, 122, 153, 0, 39, 42, 42, 180, 0, 24, 5, 42, 180, 0, 72, 28, 5, 108, 46, 96, 46, 42, 180, 0, 24, 16, 15, 42, 180, 0, 72, 28, 5, 108, 46, 96, 46, 100, 182, 1, 125, 29, 4, 96, 5, 108, 54, 5, 28, 2, 160, 0, 7, 3, 167, 0, 8, 28, 5, 108, 4, 96, 54, 6, 21, 6, 21, 5, 162, 0, 27, 42, 42, 180, 0, 24, 5, 42, 180, 0, 72, 21, 6, 46, 96, 46, 182, 1, 125, 132, 6, 1, 167, 255, 228, 29, 184, 1, 122, 154, 0, 4, 177, 42, 42, 180, 0, 24, 16, 15, 42, 180, 0, 72, 29, 5, 108, 46, 96, 46, 182, 1, 125, 42, 89, 180, 1, 107, 4, 96, 181, 1, 107, 177]
theorem bs_m_takesLine : g_bs cX10_takesLine L_m_takesLine := by unfold g_bs; decide +kernel
def L_m_isLastLine : List Nat := [42, 180, 1, 116, 42, 182, 1, 128, 160, 0, 7, 4, 167, 0, 4, 3, 172]
theorem bs_m_isLastLine : g_bs cX10_isLastLine L_m_isLastLine := by unfold g_bs; decide +kernel
def L_m_setsAsked : List Nat := [42, 180, 0, 65, 3, 42, 180, 1, 113, 79, 42, 180, 0, 65, 4, 42, 180, 1, 110, 79, 42, 180, 0, 65, 5, 42, 180, 1, 119, 42, 180, 1, 107, 100, 79, 42, 180, 0, 65, 6, 42, 180, 1, 116, 184, 1, 122, 153, 0, 7, 4, 167, 0, 4, 3, 79, 42, 180, 0, 65, 7, 42, 182, 1, 131, 153, 0, 7, 4, 167, 0, 4, 3, 79, 42, 180, 0, 65, 8, 42, 180, 0, 24, 16, 27, 42, 180, 0, 72, 42, 180, 1, 116, 5, 108, 46, 96, 46, 79, 42, 180, 0, 65, 16, 6, 42, 180, 0, 24, 16, 52, 46, 79, 42, 180, 0, 65, 16, 7, 42, 180, 0, 24, 16, 14, 46, 79, 177]
theorem bs_m_setsAsked : g_bs cX10_setsAsked L_m_setsAsked := by unfold g_bs; decide +kernel
def L_m_costsNow : List Nat := [42, 182, 1, 134, 42, 4, 17, 3, 231, 42, 182, 1, 131, 153, 0, 7, 3, 167, 0, 16, 3, 42, 180, 1, 119, 42, 180, 1, 107, 100, 184, 1, 137, 182, 1, 140, 172]
theorem bs_m_costsNow : g_bs cX10_costsNow L_m_costsNow := by unfold g_bs; decide +kernel
def L_m_paysNow : List Nat := [42, 182, 1, 134, 42, 5, 16, 99, 42, 180, 1, 110, 182, 1, 140, 172]
theorem bs_m_paysNow : g_bs cX10_paysNow L_m_paysNow := by unfold g_bs; decide +kernel
def L_m_isBarred : List Nat := [42, 182, 1, 134, 42, 6, 4, 3, 182, 1, 140, 4, 160, 0, 7, 4, 167, 0, 4, 3, 172]
theorem bs_m_isBarred : g_bs cX10_isBarred L_m_isBarred := by unfold g_bs; decide +kernel
def L_m_fitsNow : List Nat := [42, 180, 1, 107, 42, 180, 1, 119, 163, 0, 14, 42, 182, 1, 144, 154, 0, 7, 4, 167, 0, 4, 3, 172]
theorem bs_m_fitsNow : g_bs cX10_fitsNow L_m_fitsNow := by unfold g_bs; decide +kernel
def L_m_laysSetting : List Nat := [42, 3, 181, 1, 147, 3, 60, 27, 42, 182, 0, 142, 162, 0, 71, 42, 27, 182, 0, 167, 153, 0, 25, 42, 180, 0, 75, 42, 180, 1, 147, 5, 27, 104, 79, 42, 89, 180, 1, 147, 4, 96, 181, 1, 147, 42, 27, 182, 0, 164, 153, 0, 27, 42, 180, 0, 75, 42, 180, 1, 147, 5, 27, 104, 4, 96, 79, 42, 89, 180, 1, 147, 4, 96, 181, 1, 147, 132, 1, 1, 167, 255, 183, 177]
theorem bs_m_laysSetting : g_bs cX10_laysSetting L_m_laysSetting := by unfold g_bs; decide +kernel
def L_m_takesSet : List Nat := [42, 27, 27, 154, 0, 7, 2, 167, 0, 11, 42, 180, 0, 75, 27, 4, 100, 46, 42, 180, 0, 75, 27, 46, 42, 180, 0, 24, 16, 53, 46, 182, 1, 150, 177]
theorem bs_m_takesSet : g_bs cX10_takesSet L_m_takesSet := by unfold g_bs; decide +kernel
def L_m_line : List Nat := [42, 182, 1, 154, 27, 3, 42, 180, 1, 147, 4, 100, 184, 0, 132, 154, 0, 5, 2, 172, 42, 27, 182, 1, 157, 28, 170, 0, 0, 0, 0, 95, 0, 0, 0, 0, 0, 0, 0, 6, 0, 0, 0, 42, 0, 0, 0, 49, 0, 0, 0, 54, 0, 0, 0, 59, 0, 0, 0, 64, 0, 0, 0, 69, 0, 0, 0, 82, 42, 180, 0, 75, 27, 46, 172, 42, 180, 1, 107, 172, 42, 180, 1, 110, 172, 42, 182, 1, 160, 172, 42, 182, 1, 163, 172, 42, 182, 1, 144, 153, 0, 7, 4, 167, 0, 4, 3, 172, 42, 182, 1, 166, 153, 0, 7, 4, 167, 0, 4, 3, 172, 2, 172]
theorem bs_m_line : g_bs cX10_line L_m_line := by unfold g_bs; decide +kernel
def L_m_allOf : List Nat := [42, 182, 1, 154, 3, 61, 3, 62, 29, 42, 180, 1, 147, 162, 0, 52, 42, 29, 182, 1, 157, 28, 27, 154, 0, 10, 42, 182, 1, 160, 167, 0, 27, 27, 4, 160, 0, 10, 42, 182, 1, 163, 167, 0, 15, 42, 182, 1, 166, 153, 0, 7, 4, 167, 0, 4, 3, 96, 61, 132, 3, 1, 167, 255, 202, 28, 172]
theorem bs_m_allOf : g_bs cX10_allOf L_m_allOf := by unfold g_bs; decide +kernel
def L_m_all : List Nat := [27, 3, 5, 184, 0, 132, 153, 0, 11, 42, 27, 182, 1, 169, 167, 0, 4, 2, 172]
theorem bs_m_all : g_bs cX10_all L_m_all := by unfold g_bs; decide +kernel
def L_m_settingLines : List Nat := [42, 182, 1, 154, 42, 180, 1, 147, 172]
theorem bs_m_settingLines : g_bs cX10_settingLines L_m_settingLines := by unfold g_bs; decide +kernel
def L_m_keeps : List Nat := [16, 16, 61, 42, 180, 0, 11, 16, 16, 160, 0, 43, 3, 62, 29, 16, 15, 28, 104, 162, 0, 23, 42, 180, 0, 78, 29, 42, 180, 0, 78, 29, 28, 96, 46, 79, 132, 3, 1, 167, 255, 231, 42, 89, 180, 0, 11, 4, 100, 181, 0, 11, 3, 62, 29, 16, 15, 162, 0, 28, 42, 180, 0, 78, 28, 42, 180, 0, 11, 104, 29, 96, 42, 180, 0, 24, 29, 46, 79, 132, 3, 1, 167, 255, 228, 42, 180, 0, 78, 28, 42, 180, 0, 11, 104, 16, 15, 96, 27, 79, 42, 89, 180, 0, 11, 4, 96, 181, 0, 11, 177]
theorem bs_m_keeps : g_bs cX10_keeps L_m_keeps := by unfold g_bs; decide +kernel
def L_m_undo : List Nat := [42, 180, 0, 11, 154, 0, 10, 42, 16, 253, 182, 0, 136, 172, 42, 89, 180, 0, 11, 4, 100, 181, 0, 11, 16, 16, 42, 180, 0, 11, 104, 60, 3, 61, 28, 16, 15, 162, 0, 23, 42, 180, 0, 24, 28, 42, 180, 0, 78, 27, 28, 96, 46, 79, 132, 2, 1, 167, 255, 233, 42, 42, 180, 0, 78, 27, 16, 15, 96, 46, 182, 0, 14, 172]
theorem bs_m_undo : g_bs cX10_undo L_m_undo := by unfold g_bs; decide +kernel
def L_m_goodOr : List Nat := [27, 156, 0, 11, 42, 27, 182, 0, 136, 167, 0, 8, 42, 27, 182, 0, 14, 172]
theorem bs_m_goodOr : g_bs cX10_goodOr L_m_goodOr := by unfold g_bs; decide +kernel
def L_m_stopsKept : List Nat := [42, 27, 182, 0, 161, 154, 0, 6, 16, 254, 172, 42, 27, 182, 0, 146, 153, 0, 6, 16, 253, 172, 42, 3, 182, 1, 172, 42, 180, 0, 24, 3, 92, 46, 4, 27, 120, 130, 79, 42, 27, 182, 0, 164, 153, 0, 7, 4, 167, 0, 4, 3, 172]
theorem bs_m_stopsKept : g_bs cX10_stopsKept L_m_stopsKept := by unfold g_bs; decide +kernel
def L_m_splitsKept : List Nat := [42, 27, 182, 0, 161, 154, 0, 6, 16, 254, 172, 42, 180, 0, 24, 16, 15, 27, 96, 46, 154, 0, 6, 16, 253, 172, 42, 4, 182, 1, 172, 42, 180, 0, 24, 4, 92, 46, 4, 27, 120, 130, 79, 42, 27, 182, 0, 167, 153, 0, 7, 4, 167, 0, 4, 3, 172]
theorem bs_m_splitsKept : g_bs cX10_splitsKept L_m_splitsKept := by unfold g_bs; decide +kernel
def L_m_canSwell : List Nat := [28, 42, 180, 0, 24, 5, 27, 96, 46, 159, 0, 20, 28, 42, 180, 0, 24, 16, 15, 27, 96, 46, 164, 0, 7, 4, 167, 0, 4, 3, 172]
theorem bs_m_canSwell : g_bs cX10_canSwell L_m_canSwell := by unfold g_bs; decide +kernel
def L_m_swellsKept : List Nat := [28, 4, 16, 20, 184, 0, 132, 154, 0, 5, 2, 172, 42, 27, 182, 0, 161, 154, 0, 6, 16, 254, 172, 42, 180, 0, 24, 5, 27, 96, 46, 62, 42, 27, 28, 182, 1, 175, 154, 0, 6, 16, 253, 172, 42, 5, 182, 1, 172, 42, 180, 0, 24, 5, 27, 96, 28, 79, 29, 172]
theorem bs_m_swellsKept : g_bs cX10_swellsKept L_m_swellsKept := by unfold g_bs; decide +kernel
def L_m_passesKept : List Nat := [42, 180, 0, 24, 16, 14, 46, 17, 3, 231, 160, 0, 6, 16, 253, 172, 42, 5, 182, 1, 169, 60, 42, 6, 182, 1, 172, 42, 180, 0, 24, 16, 14, 92, 46, 4, 96, 79, 27, 172]
theorem bs_m_passesKept : g_bs cX10_passesKept L_m_passesKept := by unfold g_bs; decide +kernel
def L_m_stop : List Nat := [42, 42, 27, 182, 1, 178, 182, 1, 181, 172]
theorem bs_m_stop : g_bs cX10_stop L_m_stop := by unfold g_bs; decide +kernel
def L_m_split : List Nat := [42, 42, 27, 182, 1, 184, 182, 1, 181, 172]
theorem bs_m_split : g_bs cX10_split L_m_split := by unfold g_bs; decide +kernel
def L_m_swell : List Nat := [42, 42, 27, 28, 182, 1, 187, 182, 1, 181, 172]
theorem bs_m_swell : g_bs cX10_swell L_m_swell := by unfold g_bs; decide +kernel
def L_m_pass : List Nat := [42, 42, 182, 1, 190, 182, 1, 181, 172]
theorem bs_m_pass : g_bs cX10_pass L_m_pass := by unfold g_bs; decide +kernel
def L_m_lineAt : List Nat := [26, 16, 25, 104, 27, 96, 4, 96, 16, 25, 104, 28, 96, 172]
theorem bs_m_lineAt : g_bs cX10_lineAt L_m_lineAt := by unfold g_bs; decide +kernel
def L_m_stateAt : List Nat := [26, 16, 25, 104, 27, 96, 4, 96, 172]
theorem bs_m_stateAt : g_bs cX10_stateAt L_m_stateAt := by unfold g_bs; decide +kernel
def L_m_laysLine : List Nat := [27, 28, 29, 184, 1, 200, 54, 6, 42, 27, 28, 29, 21, 4, 182, 1, 150, 42, 180, 0, 84, 21, 6, 42, 182, 1, 166, 84, 42, 180, 0, 84, 21, 6, 51, 153, 0, 8, 21, 5, 154, 0, 4, 177, 42, 180, 0, 87, 21, 6, 42, 182, 1, 160, 79, 42, 180, 0, 90, 21, 6, 42, 182, 1, 163, 79, 177]
theorem bs_m_laysLine : g_bs cX10_laysLine L_m_laysLine := by unfold g_bs; decide +kernel
def L_m_laysLines : List Nat := [2, 62, 29, 42, 182, 1, 128, 162, 0, 82, 29, 2, 159, 0, 14, 42, 29, 182, 1, 193, 154, 0, 6, 167, 0, 60, 29, 4, 96, 54, 4, 21, 4, 42, 182, 1, 128, 163, 0, 46, 3, 54, 5, 21, 5, 29, 4, 96, 163, 0, 29, 42, 21, 4, 182, 1, 193, 153, 0, 20, 42, 21, 5, 29, 21, 4, 27, 28, 182, 1, 196, 132, 5, 1, 167, 255, 225, 132, 4, 1, 167, 255, 207, 132, 3, 1, 167, 255, 172, 177]
theorem bs_m_laysLines : g_bs cX10_laysLines L_m_laysLines := by unfold g_bs; decide +kernel
def L_m_canLine : List Nat := [42, 29, 182, 1, 193, 153, 0, 21, 42, 180, 0, 84, 27, 28, 29, 184, 1, 200, 51, 153, 0, 7, 4, 167, 0, 4, 3, 172]
theorem bs_m_canLine : g_bs cX10_canLine L_m_canLine := by unfold g_bs; decide +kernel
def L_m_isStart : List Nat := [27, 2, 159, 0, 11, 42, 27, 182, 1, 193, 153, 0, 7, 4, 167, 0, 4, 3, 172]
theorem bs_m_isStart : g_bs cX10_isStart L_m_isStart := by unfold g_bs; decide +kernel
def L_m_laysLeast : List Nat := [42, 182, 1, 128, 60, 27, 2, 161, 0, 121, 3, 61, 28, 27, 4, 96, 163, 0, 106, 27, 42, 182, 1, 128, 160, 0, 7, 3, 167, 0, 6, 19, 1, 203, 62, 27, 4, 96, 54, 4, 21, 4, 42, 182, 1, 128, 163, 0, 59, 42, 27, 182, 1, 204, 153, 0, 51, 42, 28, 27, 21, 4, 182, 1, 207, 153, 0, 34, 29, 42, 180, 0, 87, 28, 27, 21, 4, 184, 1, 200, 46, 42, 180, 0, 93, 28, 4, 96, 21, 4, 184, 1, 210, 46, 96, 184, 1, 213, 62, 132, 4, 1, 167, 255, 194, 42, 180, 0, 93, 28, 27, 184, 1, 210, 29, 79, 132, 2, 1, 167, 255, 149, 132, 1, 255, 167, 255, 136, 177]
theorem bs_m_laysLeast : g_bs cX10_laysLeast L_m_laysLeast := by unfold g_bs; decide +kernel
def L_m_bestNow : List Nat := [42, 42, 180, 0, 24, 16, 53, 46, 4, 182, 1, 216, 42, 182, 1, 220, 42, 180, 0, 93, 3, 2, 184, 1, 210, 46, 60, 27, 19, 1, 203, 161, 0, 7, 2, 167, 0, 4, 27, 172]
theorem bs_m_bestNow : g_bs cX10_bestNow L_m_bestNow := by unfold g_bs; decide +kernel
def L_m_best : List Nat := [27, 2, 162, 0, 5, 2, 172, 42, 182, 1, 223, 61, 28, 2, 159, 0, 8, 27, 2, 160, 0, 5, 28, 172, 2, 62, 3, 54, 4, 21, 4, 27, 163, 0, 87, 29, 42, 182, 1, 128, 160, 0, 5, 2, 172, 29, 4, 96, 54, 5, 42, 21, 4, 29, 21, 5, 182, 1, 207, 153, 0, 45, 42, 180, 0, 87, 21, 4, 29, 21, 5, 184, 1, 200, 46, 42, 180, 0, 93, 21, 4, 4, 96, 21, 5, 184, 1, 210, 46, 96, 42, 180, 0, 93, 21, 4, 29, 184, 1, 210, 46, 159, 0, 9, 132, 5, 1, 167, 255, 199, 21, 5, 62, 132, 4, 1, 167, 255, 169, 29, 172]
theorem bs_m_best : g_bs cX10_best L_m_best := by unfold g_bs; decide +kernel
def L_m_takesSum : List Nat := [42, 180, 0, 93, 27, 28, 184, 1, 210, 46, 54, 5, 27, 4, 96, 29, 184, 1, 210, 54, 6, 21, 4, 153, 0, 37, 42, 180, 0, 93, 21, 6, 42, 180, 0, 93, 21, 6, 46, 21, 5, 42, 180, 0, 90, 27, 28, 29, 184, 1, 200, 46, 96, 184, 1, 137, 79, 167, 0, 34, 42, 180, 0, 93, 21, 6, 42, 180, 0, 93, 21, 6, 46, 21, 5, 42, 180, 0, 87, 27, 28, 29, 184, 1, 200, 46, 96, 184, 1, 213, 79, 177]
theorem bs_m_takesSum : g_bs cX10_takesSum L_m_takesSum := by unfold g_bs; decide +kernel
def L_m_laysSums : List Nat := [3, 61, 28, 17, 2, 113, 162, 0, 28, 42, 180, 0, 93, 28, 27, 153, 0, 9, 19, 1, 226, 167, 0, 6, 19, 1, 203, 79, 132, 2, 1, 167, 255, 227, 42, 180, 0, 93, 3, 2, 184, 1, 210, 3, 79, 2, 61, 28, 42, 182, 1, 128, 162, 0, 100, 3, 62, 29, 28, 4, 96, 163, 0, 85, 42, 28, 182, 1, 204, 153, 0, 77, 42, 180, 0, 93, 29, 28, 184, 1, 210, 46, 54, 4, 28, 4, 96, 54, 5, 21, 5, 42, 182, 1, 128, 163, 0, 45, 21, 4, 19, 1, 203, 159, 0, 37, 21, 4, 19, 1, 226, 159, 0, 29, 42, 29, 28, 21, 5, 182, 1, 207, 153, 0, 12, 42, 29, 28, 21, 5, 27, 182, 1, 227, 132, 5, 1, 167, 255, 208, 132, 3, 1, 167, 255, 170, 132, 2, 1, 167, 255, 154, 177]
theorem bs_m_laysSums : g_bs cX10_laysSums L_m_laysSums := by unfold g_bs; decide +kernel
def L_m_laysCosts : List Nat := [42, 42, 180, 0, 24, 16, 53, 46, 4, 182, 1, 216, 42, 3, 182, 1, 231, 177]
theorem bs_m_laysCosts : g_bs cX10_laysCosts L_m_laysCosts := by unfold g_bs; decide +kernel
def L_m_costsBy : List Nat := [42, 180, 0, 93, 27, 42, 182, 1, 128, 184, 1, 210, 46, 172]
theorem bs_m_costsBy : g_bs cX10_costsBy L_m_costsBy := by unfold g_bs; decide +kernel
def L_m_just : List Nat := [27, 3, 16, 24, 184, 0, 132, 154, 0, 5, 2, 172, 42, 182, 1, 235, 42, 27, 182, 1, 238, 19, 1, 203, 160, 0, 7, 2, 167, 0, 8, 42, 27, 182, 1, 238, 172]
theorem bs_m_just : g_bs cX10_just L_m_just := by unfold g_bs; decide +kernel
def L_m_fewest : List Nat := [42, 182, 1, 235, 3, 60, 27, 16, 24, 163, 0, 22, 42, 27, 182, 1, 238, 19, 1, 203, 159, 0, 5, 27, 172, 132, 1, 1, 167, 255, 234, 2, 172]
theorem bs_m_fewest : g_bs cX10_fewest L_m_fewest := by unfold g_bs; decide +kernel
def L_m_most : List Nat := [42, 182, 1, 235, 16, 24, 60, 27, 155, 0, 22, 42, 27, 182, 1, 238, 19, 1, 203, 159, 0, 5, 27, 172, 132, 1, 255, 167, 255, 236, 2, 172]
theorem bs_m_most : g_bs cX10_most L_m_most := by unfold g_bs; decide +kernel
def L_m_ways : List Nat := [42, 42, 180, 0, 24, 16, 53, 46, 3, 182, 1, 216, 3, 60, 27, 17, 2, 113, 162, 0, 16, 42, 180, 0, 96, 27, 9, 80, 132, 1, 1, 167, 255, 239, 42, 180, 0, 96, 3, 2, 184, 1, 210, 10, 80, 2, 60, 27, 42, 182, 1, 128, 162, 0, 85, 3, 61, 28, 27, 4, 96, 163, 0, 70, 42, 27, 182, 1, 204, 153, 0, 62, 27, 4, 96, 62, 29, 42, 182, 1, 128, 163, 0, 44, 42, 28, 27, 29, 182, 1, 207, 153, 0, 28, 42, 180, 0, 96, 28, 4, 96, 29, 184, 1, 210, 92, 47, 42, 180, 0, 96, 28, 27, 184, 1, 210, 47, 97, 80, 132, 3, 1, 167, 255, 210, 132, 2, 1, 167, 255, 185, 132, 1, 1, 167, 255, 169, 9, 64, 3, 62, 29, 16, 24, 163, 0, 25, 31, 42, 180, 0, 96, 29, 42, 182, 1, 128, 184, 1, 210, 47, 97, 64, 132, 3, 1, 167, 255, 231, 31, 173]
theorem bs_m_ways : g_bs cX10_ways L_m_ways := by unfold g_bs; decide +kernel
def L_m_richest : List Nat := [42, 42, 180, 0, 24, 16, 53, 46, 4, 182, 1, 216, 42, 4, 182, 1, 231, 19, 1, 226, 60, 3, 61, 28, 16, 24, 163, 0, 19, 27, 42, 28, 182, 1, 238, 184, 1, 137, 60, 132, 2, 1, 167, 255, 237, 27, 19, 1, 226, 160, 0, 7, 2, 167, 0, 4, 27, 172]
theorem bs_m_richest : g_bs cX10_richest L_m_richest := by unfold g_bs; decide +kernel
def L_m_isBy : List Nat := [3, 61, 28, 17, 2, 113, 162, 0, 16, 42, 180, 0, 99, 28, 3, 84, 132, 2, 1, 167, 255, 239, 42, 180, 0, 99, 3, 2, 184, 1, 210, 4, 84, 2, 61, 28, 42, 182, 1, 128, 162, 0, 98, 3, 62, 29, 28, 4, 96, 163, 0, 83, 29, 27, 162, 0, 78, 42, 28, 182, 1, 204, 153, 0, 70, 42, 180, 0, 99, 29, 28, 184, 1, 210, 51, 154, 0, 6, 167, 0, 48, 28, 4, 96, 54, 4, 21, 4, 42, 182, 1, 128, 163, 0, 34, 42, 29, 28, 21, 4, 182, 1, 207, 153, 0, 17, 42, 180, 0, 99, 29, 4, 96, 21, 4, 184, 1, 210, 4, 84, 132, 4, 1, 167, 255, 219, 132, 3, 1, 167, 255, 172, 132, 2, 1, 167, 255, 156, 3, 61, 3, 62, 29, 27, 163, 0, 35, 28, 154, 0, 19, 42, 180, 0, 99, 29, 42, 182, 1, 128, 184, 1, 210, 51, 153, 0, 7, 4, 167, 0, 4, 3, 61, 132, 3, 1, 167, 255, 222, 28, 172]
theorem bs_m_isBy : g_bs cX10_isBy L_m_isBy := by unfold g_bs; decide +kernel
def L_m_narrow : List Nat := [27, 3, 16, 24, 184, 0, 132, 154, 0, 5, 2, 172, 16, 10, 61, 28, 16, 60, 163, 0, 25, 42, 28, 3, 182, 1, 216, 42, 27, 182, 1, 241, 153, 0, 5, 28, 172, 132, 2, 1, 167, 255, 231, 2, 172]
theorem bs_m_narrow : g_bs cX10_narrow L_m_narrow := by unfold g_bs; decide +kernel
def L_m_leaveOut : List Nat := [27, 3, 4, 184, 0, 132, 154, 0, 5, 2, 172, 2, 61, 19, 1, 203, 62, 3, 54, 4, 21, 4, 42, 182, 0, 142, 162, 0, 42, 42, 21, 4, 182, 1, 244, 42, 182, 1, 223, 54, 5, 21, 5, 2, 159, 0, 18, 21, 5, 29, 161, 0, 6, 167, 0, 9, 21, 5, 62, 21, 4, 61, 132, 4, 1, 167, 255, 211, 42, 182, 0, 129, 28, 2, 159, 0, 7, 27, 154, 0, 7, 28, 167, 0, 4, 29, 172]
theorem bs_m_leaveOut : g_bs cX10_leaveOut L_m_leaveOut := by unfold g_bs; decide +kernel
def L_m_compare : List Nat := [42, 27, 182, 1, 30, 154, 0, 5, 2, 172, 42, 180, 0, 24, 16, 57, 46, 61, 42, 180, 0, 24, 16, 57, 27, 79, 42, 182, 1, 223, 62, 42, 180, 0, 24, 16, 57, 28, 79, 29, 172]
theorem bs_m_compare : g_bs cX10_compare L_m_compare := by unfold g_bs; decide +kernel
def L_m_addsSpaced : List Nat := [29, 153, 0, 6, 21, 4, 172, 42, 180, 0, 102, 16, 13, 27, 104, 42, 180, 0, 108, 27, 46, 96, 28, 79, 42, 180, 0, 108, 27, 92, 46, 4, 96, 79, 28, 4, 96, 21, 4, 96, 172]
theorem bs_m_addsSpaced : g_bs cX10_addsSpaced L_m_addsSpaced := by unfold g_bs; decide +kernel
def L_m_laysSpaces : List Nat := [28, 154, 0, 7, 2, 167, 0, 11, 42, 180, 0, 75, 28, 4, 100, 46, 62, 42, 180, 0, 75, 28, 46, 54, 4, 3, 54, 5, 4, 54, 6, 42, 180, 0, 108, 27, 3, 79, 29, 184, 1, 122, 153, 0, 38, 42, 27, 21, 5, 4, 42, 180, 0, 24, 5, 29, 5, 108, 96, 46, 42, 180, 0, 24, 16, 15, 29, 5, 108, 96, 46, 100, 182, 1, 247, 54, 5, 3, 54, 6, 29, 2, 160, 0, 7, 3, 167, 0, 8, 29, 5, 108, 4, 96, 54, 7, 21, 7, 21, 4, 4, 96, 5, 108, 162, 0, 32, 42, 27, 21, 5, 21, 6, 42, 180, 0, 24, 5, 21, 7, 96, 46, 182, 1, 247, 54, 5, 3, 54, 6, 132, 7, 1, 167, 255, 219, 21, 4, 184, 1, 122, 153, 0, 25, 42, 27, 21, 5, 21, 6, 42, 180, 0, 24, 16, 15, 21, 4, 5, 108, 96, 46, 182, 1, 247, 87, 177]
theorem bs_m_laysSpaces : g_bs cX10_laysSpaces L_m_laysSpaces := by unfold g_bs; decide +kernel
def L_m_riverTo : List Nat := [42, 180, 0, 102, 16, 13, 27, 104, 28, 96, 46, 62, 3, 54, 4, 3, 54, 5, 21, 5, 42, 180, 0, 108, 4, 27, 100, 46, 162, 0, 51, 16, 13, 4, 27, 100, 104, 21, 5, 96, 54, 6, 42, 180, 0, 102, 21, 6, 46, 29, 100, 2, 4, 184, 0, 132, 153, 0, 17, 21, 4, 42, 180, 0, 105, 21, 6, 46, 184, 1, 137, 54, 4, 132, 5, 1, 167, 255, 198, 21, 4, 4, 96, 172]
theorem bs_m_riverTo : g_bs cX10_riverTo L_m_riverTo := by unfold g_bs; decide +kernel
def L_m_river : List Nat := [42, 182, 1, 154, 42, 180, 0, 108, 4, 3, 79, 3, 60, 3, 61, 28, 42, 180, 1, 147, 162, 0, 75, 28, 5, 112, 62, 42, 29, 28, 182, 1, 251, 3, 54, 4, 21, 4, 42, 180, 0, 108, 29, 46, 162, 0, 45, 42, 180, 0, 105, 16, 13, 29, 104, 21, 4, 96, 42, 29, 21, 4, 182, 1, 254, 79, 27, 42, 180, 0, 105, 16, 13, 29, 104, 21, 4, 96, 46, 184, 1, 137, 60, 132, 4, 1, 167, 255, 206, 132, 2, 1, 167, 255, 179, 27, 172]
theorem bs_m_river : g_bs cX10_river L_m_river := by unfold g_bs; decide +kernel
def L_m_seen : List Nat := [27, 3, 6, 184, 0, 132, 153, 0, 14, 28, 3, 17, 3, 231, 184, 0, 132, 154, 0, 9, 42, 2, 182, 0, 136, 172, 16, 39, 5, 42, 180, 0, 24, 16, 55, 46, 104, 96, 62, 42, 180, 0, 24, 16, 55, 46, 16, 6, 160, 0, 10, 42, 16, 251, 182, 0, 136, 172, 42, 180, 0, 24, 29, 27, 79, 42, 180, 0, 24, 29, 4, 96, 28, 79, 42, 180, 0, 24, 16, 55, 92, 46, 4, 96, 79, 42, 42, 180, 0, 24, 16, 55, 46, 182, 0, 14, 172]
theorem bs_m_seen : g_bs cX10_seen L_m_seen := by unfold g_bs; decide +kernel
def L_m_forget : List Nat := [42, 180, 0, 24, 16, 55, 46, 60, 42, 180, 0, 24, 16, 55, 3, 79, 27, 172]
theorem bs_m_forget : g_bs cX10_forget L_m_forget := by unfold g_bs; decide +kernel
def L_m_laysFacts : List Nat := [42, 182, 1, 154, 3, 60, 27, 42, 180, 1, 147, 162, 0, 68, 42, 27, 182, 1, 157, 42, 180, 0, 111, 7, 27, 104, 42, 180, 1, 107, 79, 42, 180, 0, 111, 7, 27, 104, 4, 96, 42, 182, 1, 160, 79, 42, 180, 0, 111, 7, 27, 104, 5, 96, 42, 182, 1, 163, 79, 42, 180, 0, 111, 7, 27, 104, 6, 96, 42, 180, 1, 110, 79, 132, 1, 1, 167, 255, 186, 177]
theorem bs_m_laysFacts : g_bs cX10_laysFacts L_m_laysFacts := by unfold g_bs; decide +kernel
def L_m_isSo : List Nat := [4, 61, 3, 62, 29, 42, 180, 0, 24, 16, 55, 46, 162, 0, 55, 28, 153, 0, 43, 42, 180, 0, 111, 7, 27, 104, 42, 180, 0, 24, 16, 39, 5, 29, 104, 96, 46, 96, 46, 42, 180, 0, 24, 16, 39, 5, 29, 104, 96, 4, 96, 46, 160, 0, 7, 4, 167, 0, 4, 3, 61, 132, 3, 1, 167, 255, 196, 28, 172]
theorem bs_m_isSo : g_bs cX10_isSo L_m_isSo := by unfold g_bs; decide +kernel
def L_m_canBe : List Nat := [42, 182, 2, 1, 3, 60, 3, 61, 28, 42, 180, 1, 147, 162, 0, 27, 27, 42, 28, 182, 2, 4, 153, 0, 9, 4, 28, 120, 167, 0, 4, 3, 128, 60, 132, 2, 1, 167, 255, 227, 27, 172]
theorem bs_m_canBe : g_bs cX10_canBe L_m_canBe := by unfold g_bs; decide +kernel
def L_m_mostAlike : List Nat := [3, 62, 3, 54, 4, 21, 4, 42, 180, 1, 147, 162, 0, 94, 3, 54, 5, 3, 54, 6, 21, 6, 42, 180, 1, 147, 162, 0, 53, 21, 5, 27, 21, 6, 184, 0, 150, 153, 0, 32, 42, 180, 0, 111, 7, 21, 4, 104, 28, 96, 46, 42, 180, 0, 111, 7, 21, 6, 104, 28, 96, 46, 160, 0, 7, 4, 167, 0, 4, 3, 96, 54, 5, 132, 6, 1, 167, 255, 200, 27, 21, 4, 184, 0, 150, 153, 0, 12, 29, 21, 5, 184, 1, 137, 167, 0, 4, 29, 62, 132, 4, 1, 167, 255, 159, 29, 172]
theorem bs_m_mostAlike : g_bs cX10_mostAlike L_m_mostAlike := by unfold g_bs; decide +kernel
def L_m_look : List Nat := [27, 3, 4, 184, 0, 132, 154, 0, 5, 2, 172, 42, 182, 2, 7, 61, 2, 62, 19, 1, 203, 54, 4, 3, 54, 5, 21, 5, 7, 162, 0, 39, 28, 153, 0, 35, 42, 28, 21, 5, 182, 2, 10, 54, 6, 21, 6, 21, 4, 161, 0, 6, 167, 0, 10, 21, 6, 54, 4, 21, 5, 62, 132, 5, 1, 167, 255, 217, 29, 2, 159, 0, 7, 27, 154, 0, 7, 29, 167, 0, 5, 21, 4, 172]
theorem bs_m_look : g_bs cX10_look L_m_look := by unfold g_bs; decide +kernel
def L_m_few : List Nat := [27, 4, 16, 20, 184, 0, 132, 153, 0, 13, 28, 3, 16, 99, 184, 0, 132, 154, 0, 7, 20, 2, 13, 173, 3, 62, 29, 16, 20, 163, 0, 26, 42, 180, 0, 114, 29, 29, 154, 0, 9, 20, 2, 15, 167, 0, 4, 9, 80, 132, 3, 1, 167, 255, 230, 3, 62, 29, 28, 162, 0, 87, 27, 4, 100, 54, 4, 21, 4, 155, 0, 71, 42, 180, 0, 114, 21, 4, 4, 96, 92, 47, 42, 180, 0, 114, 21, 4, 47, 42, 180, 0, 24, 16, 51, 46, 133, 105, 20, 2, 17, 109, 97, 80, 42, 180, 0, 114, 21, 4, 42, 180, 0, 114, 21, 4, 47, 16, 10, 42, 180, 0, 24, 16, 51, 46, 100, 133, 105, 20, 2, 17, 109, 80, 132, 4, 255, 167, 255, 186, 132, 3, 1, 167, 255, 170, 9, 66, 3, 54, 5, 21, 5, 27, 162, 0, 19, 33, 42, 180, 0, 114, 21, 5, 47, 97, 66, 132, 5, 1, 167, 255, 237, 33, 173]
theorem bs_m_few : g_bs cX10_few L_m_few := by unfold g_bs; decide +kernel
def L_m_stopped : List Nat := [42, 180, 0, 117, 172]
theorem bs_m_stopped : g_bs cX10_stopped L_m_stopped := by unfold g_bs; decide +kernel
def L_m_goesAlong : List Nat := [42, 28, 153, 0, 11, 42, 5, 182, 1, 169, 167, 0, 4, 3, 181, 1, 78, 42, 28, 153, 0, 10, 42, 182, 2, 34, 167, 0, 4, 3, 181, 1, 75, 42, 27, 181, 1, 33, 42, 42, 180, 2, 25, 181, 1, 36, 42, 42, 42, 180, 1, 36, 182, 1, 39, 181, 2, 37, 42, 89, 180, 1, 36, 4, 96, 181, 1, 36, 42, 4, 181, 2, 40, 42, 180, 2, 37, 16, 26, 160, 0, 7, 3, 167, 0, 17, 42, 180, 2, 37, 16, 24, 160, 0, 7, 5, 167, 0, 4, 4, 62, 3, 54, 4, 21, 4, 29, 162, 0, 64, 21, 4, 158, 0, 13, 42, 89, 180, 1, 36, 4, 96, 181, 1, 36, 42, 3, 181, 1, 46, 42, 180, 0, 120, 21, 4, 42, 28, 182, 1, 63, 80, 42, 42, 180, 2, 40, 153, 0, 14, 42, 180, 1, 46, 154, 0, 7, 4, 167, 0, 4, 3, 181, 2, 40, 132, 4, 1, 167, 255, 192, 42, 4, 181, 2, 43, 42, 16, 27, 182, 1, 60, 153, 0, 30, 42, 42, 180, 0, 24, 17, 11, 49, 42, 180, 1, 36, 96, 46, 181, 2, 43, 42, 89, 180, 1, 36, 4, 96, 181, 1, 36, 42, 3, 181, 1, 46, 42, 42, 7, 182, 1, 60, 153, 0, 11, 42, 28, 182, 1, 90, 153, 0, 7, 4, 167, 0, 4, 3, 181, 2, 46, 42, 42, 180, 2, 46, 153, 0, 14, 42, 180, 1, 46, 154, 0, 7, 4, 167, 0, 4, 3, 181, 2, 46, 42, 89, 180, 1, 36, 4, 96, 181, 1, 36, 177]
theorem bs_m_goesAlong : g_bs cX10_goesAlong L_m_goesAlong := by unfold g_bs; decide +kernel
def L_m_small : List Nat := [30, 9, 148, 155, 0, 11, 30, 20, 2, 49, 148, 158, 0, 7, 2, 167, 0, 5, 30, 136, 172]
theorem bs_m_small : g_bs cX10_small L_m_small := by unfold g_bs; decide +kernel
def L_m_obeys : List Nat := [42, 180, 0, 120, 3, 47, 184, 2, 51, 60, 42, 180, 2, 37, 170, 0, 0, 0, 0, 74, 0, 0, 0, 23, 0, 0, 0, 26, 0, 0, 0, 30, 0, 0, 0, 36, 0, 0, 0, 74, 0, 0, 0, 51, 42, 27, 182, 1, 184, 172, 42, 27, 42, 180, 0, 120, 4, 47, 184, 2, 51, 182, 1, 187, 172, 42, 182, 1, 190, 61, 42, 28, 156, 0, 10, 42, 180, 1, 72, 167, 0, 4, 28, 181, 1, 72, 28, 172, 42, 27, 182, 1, 178, 172]
theorem bs_m_obeys : g_bs cX10_obeys L_m_obeys := by unfold g_bs; decide +kernel
def L_m_runs : List Nat := [42, 27, 3, 182, 2, 55, 42, 180, 2, 43, 61, 42, 180, 1, 36, 62, 3, 54, 4, 21, 4, 28, 162, 0, 51, 42, 27, 4, 182, 2, 55, 42, 180, 2, 46, 154, 0, 6, 167, 0, 29, 42, 180, 2, 40, 153, 0, 10, 42, 182, 2, 58, 156, 0, 5, 3, 172, 42, 89, 180, 1, 69, 4, 96, 181, 1, 69, 132, 4, 1, 167, 255, 205, 42, 29, 181, 2, 25, 4, 172]
theorem bs_m_runs : g_bs cX10_runs L_m_runs := by unfold g_bs; decide +kernel
def L_m_orders : List Nat := [42, 2, 181, 0, 117, 42, 4, 182, 1, 23, 154, 0, 10, 42, 16, 250, 182, 0, 136, 172, 42, 4, 182, 2, 19, 3, 60, 27, 17, 1, 0, 162, 0, 21, 42, 180, 0, 81, 27, 42, 180, 0, 78, 27, 46, 79, 132, 1, 1, 167, 255, 234, 42, 180, 0, 11, 60, 42, 16, 6, 182, 2, 22, 42, 3, 181, 1, 69, 42, 2, 181, 1, 72, 42, 17, 9, 96, 181, 2, 25, 42, 180, 2, 25, 42, 180, 0, 24, 16, 64, 46, 96, 61, 3, 62, 42, 180, 2, 25, 28, 162, 0, 73, 42, 28, 182, 2, 28, 153, 0, 6, 167, 0, 56, 42, 4, 182, 2, 31, 3, 54, 4, 21, 4, 17, 1, 0, 162, 0, 23, 42, 180, 0, 78, 21, 4, 42, 180, 0, 81, 21, 4, 46, 79, 132, 4, 1, 167, 255, 231, 42, 27, 181, 0, 11, 42, 29, 181, 0, 117, 42, 16, 253, 182, 0, 136, 172, 132, 3, 1, 167, 255, 181, 42, 42, 180, 1, 69, 182, 0, 14, 172]
theorem bs_m_orders : g_bs cX10_orders L_m_orders := by unfold g_bs; decide +kernel
def L_m_draws : List Nat := [42, 20, 2, 61, 42, 180, 2, 63, 133, 105, 20, 2, 66, 97, 20, 2, 68, 113, 136, 181, 2, 63, 42, 180, 2, 63, 27, 112, 172]
theorem bs_m_draws : g_bs cX10_draws L_m_draws := by unfold g_bs; decide +kernel
def L_m_drawnAct : List Nat := [42, 42, 182, 0, 142, 182, 2, 70, 60, 42, 16, 20, 182, 2, 70, 4, 96, 61, 42, 7, 182, 2, 70, 62, 29, 5, 162, 0, 23, 42, 27, 182, 0, 146, 154, 0, 15, 42, 180, 0, 24, 3, 92, 46, 4, 27, 120, 130, 79, 29, 5, 160, 0, 27, 42, 180, 0, 24, 16, 15, 27, 96, 46, 158, 0, 15, 42, 180, 0, 24, 4, 92, 46, 4, 27, 120, 130, 79, 29, 6, 160, 0, 21, 42, 27, 28, 182, 1, 175, 153, 0, 12, 42, 180, 0, 24, 5, 27, 96, 28, 79, 177]
theorem bs_m_drawnAct : g_bs cX10_drawnAct L_m_drawnAct := by unfold g_bs; decide +kernel
def L_m_weeks : List Nat := [27, 3, 18, 195, 184, 0, 132, 153, 0, 13, 28, 4, 16, 60, 184, 0, 132, 154, 0, 9, 42, 2, 182, 0, 136, 172, 42, 182, 0, 142, 154, 0, 10, 42, 16, 253, 182, 0, 136, 172, 42, 27, 181, 2, 63, 42, 42, 182, 0, 142, 181, 0, 126, 42, 3, 182, 2, 19, 3, 62, 3, 54, 4, 21, 4, 28, 162, 0, 45, 42, 180, 0, 24, 16, 14, 46, 17, 3, 231, 162, 0, 32, 42, 182, 2, 73, 29, 42, 5, 182, 1, 169, 96, 62, 42, 180, 0, 24, 16, 14, 92, 46, 4, 96, 79, 132, 4, 1, 167, 255, 211, 3, 54, 4, 21, 4, 16, 15, 162, 0, 23, 42, 180, 0, 123, 21, 4, 42, 180, 0, 24, 21, 4, 46, 79, 132, 4, 1, 167, 255, 232, 42, 3, 182, 2, 31, 42, 29, 182, 0, 14, 172]
theorem bs_m_weeks : g_bs cX10_weeks L_m_weeks := by unfold g_bs; decide +kernel
def L_m_drawn : List Nat := [27, 3, 42, 180, 0, 126, 4, 100, 184, 0, 132, 154, 0, 5, 2, 172, 28, 170, 0, 0, 0, 0, 0, 84, 0, 0, 0, 0, 0, 0, 0, 2, 0, 0, 0, 27, 0, 0, 0, 36, 0, 0, 0, 65, 42, 180, 0, 123, 5, 27, 96, 46, 172, 27, 42, 180, 0, 126, 4, 100, 159, 0, 16, 42, 180, 0, 123, 3, 46, 27, 184, 0, 150, 153, 0, 7, 4, 167, 0, 4, 3, 172, 42, 180, 0, 123, 4, 46, 27, 184, 0, 150, 153, 0, 7, 4, 167, 0, 4, 3, 172, 2, 172]
theorem bs_m_drawn : g_bs cX10_drawn L_m_drawn := by unfold g_bs; decide +kernel
def L_m_count : List Nat := [27, 170, 0, 0, 0, 0, 0, 171, 0, 0, 0, 0, 0, 0, 0, 16, 0, 0, 0, 83, 0, 0, 0, 88, 0, 0, 0, 93, 0, 0, 0, 99, 0, 0, 0, 107, 0, 0, 0, 115, 0, 0, 0, 120, 0, 0, 0, 125, 0, 0, 0, 125, 0, 0, 0, 125, 0, 0, 0, 135, 0, 0, 0, 142, 0, 0, 0, 150, 0, 0, 0, 158, 0, 0, 0, 158, 0, 0, 0, 158, 0, 0, 0, 158, 42, 182, 0, 142, 172, 42, 182, 2, 34, 172, 42, 5, 182, 1, 169, 172, 42, 180, 0, 24, 16, 55, 46, 172, 42, 180, 0, 24, 16, 56, 46, 172, 42, 180, 0, 11, 172, 42, 180, 0, 176, 172, 42, 180, 0, 7, 27, 16, 6, 100, 46, 172, 42, 180, 0, 7, 8, 46, 172, 42, 180, 0, 7, 16, 6, 46, 172, 42, 180, 0, 24, 16, 57, 46, 172, 42, 180, 0, 24, 27, 16, 13, 100, 184, 0, 173, 46, 172, 2, 172]
theorem bs_m_count : g_bs cX10_count L_m_count := by unfold g_bs; decide +kernel
def L_m_status : List Nat := [42, 180, 0, 3, 172]
theorem bs_m_status : g_bs cX10_status L_m_status := by unfold g_bs; decide +kernel
theorem wd1_65 : (Cond.fieldLink "GalleyRoom$Galley" (46 : Nat) "GalleyRoom$Galley" "words" "I") ∈ lwG := lwG_1 (List.mem_of_getElem? (i := 65) rfl) rfl
theorem fl_1_46 : g_Fl RX1 46 1 7 := ⟨rfl, by decide, RX1, TX1, rfl, inX1, wd1_65⟩
theorem wd2_208 : (Cond.methodLink "GalleyRoom$Galley" (61 : Nat) ({ cls := "GalleyRoom$Galley", name := "has", desc := "(I)Z" } : Jvm.MethodName)) ∈ lwG := lwG_2 (List.mem_of_getElem? (i := 208) rfl) rfl
theorem wd2_203 : (Cond.code ({ cls := "GalleyRoom$Galley", name := "has", desc := "(I)Z" } : Jvm.MethodName) prog_3_method_3_code (2 : Nat) (Option.some Jvm.ClassFile.FieldType.boolean)) ∈ lwG := lwG_2 (List.mem_of_getElem? (i := 203) rfl) rfl
theorem wd1_3 : (Cond.initialized "GalleyRoom$Galley") ∈ lwG := lwG_1 (List.mem_of_getElem? (i := 3) rfl) rfl
theorem wd2_201 : (Cond.instanceMethod ({ cls := "GalleyRoom$Galley", name := "has", desc := "(I)Z" } : Jvm.MethodName)) ∈ lwG := lwG_2 (List.mem_of_getElem? (i := 201) rfl) rfl
theorem wd2_202 : (Cond.selects "GalleyRoom$Galley" ({ cls := "GalleyRoom$Galley", name := "has", desc := "(I)Z" } : Jvm.MethodName) ({ cls := "GalleyRoom$Galley", name := "has", desc := "(I)Z" } : Jvm.MethodName)) ∈ lwG := lwG_2 (List.mem_of_getElem? (i := 202) rfl) rfl
theorem wd1_43 : (Cond.fieldLink "GalleyRoom$Galley" (15 : Nat) "GalleyRoom$Galley" "splits" "[I") ∈ lwG := lwG_1 (List.mem_of_getElem? (i := 43) rfl) rfl
theorem fl_1_15 : g_Fl RX1 15 1 1 := ⟨rfl, by decide, RX1, TX1, rfl, inX1, wd1_43⟩
theorem wd1_41 : (Cond.fieldLink "GalleyRoom$Galley" (9 : Nat) "GalleyRoom$Galley" "wide" "[I") ∈ lwG := lwG_1 (List.mem_of_getElem? (i := 41) rfl) rfl
theorem fl_1_9 : g_Fl RX1 9 1 0 := ⟨rfl, by decide, RX1, TX1, rfl, inX1, wd1_41⟩
theorem wd1_48 : (Cond.fieldLink "GalleyRoom$Galley" (21 : Nat) "GalleyRoom$Galley" "terms" "[I") ∈ lwG := lwG_1 (List.mem_of_getElem? (i := 48) rfl) rfl
theorem fl_1_21 : g_Fl RX1 21 1 3 := ⟨rfl, by decide, RX1, TX1, rfl, inX1, wd1_48⟩
theorem wd1_110 : (Cond.fieldLink "GalleyRoom$Log" (9 : Nat) "GalleyRoom$Log" "verb" "[I") ∈ lwG := lwG_1 (List.mem_of_getElem? (i := 110) rfl) rfl
theorem fl_3_9 : g_Fl RX3 9 3 0 := ⟨rfl, by decide, RX3, TX3, rfl, inX3, wd1_110⟩
theorem wd4_29 : (Cond.methodLink "GalleyRoom$Log" (21 : Nat) ({ cls := "java/lang/System", name := "arraycopy", desc := "(Ljava/lang/Object;ILjava/lang/Object;II)V" } : Jvm.MethodName)) ∈ lwG := lwG_4 (List.mem_of_getElem? (i := 29) rfl) rfl
theorem wd4_11 : (Cond.native ({ cls := "java/lang/System", name := "arraycopy", desc := "(Ljava/lang/Object;ILjava/lang/Object;II)V" } : Jvm.MethodName)) ∈ lwG := lwG_4 (List.mem_of_getElem? (i := 11) rfl) rfl
theorem wd4_10 : (Cond.static ({ cls := "java/lang/System", name := "arraycopy", desc := "(Ljava/lang/Object;ILjava/lang/Object;II)V" } : Jvm.MethodName)) ∈ lwG := lwG_4 (List.mem_of_getElem? (i := 10) rfl) rfl
theorem wd1_17 : (Cond.initialized "java/lang/System") ∈ lwG := lwG_1 (List.mem_of_getElem? (i := 17) rfl) rfl
theorem wd1_111 : (Cond.fieldLink "GalleyRoom$Log" (15 : Nat) "GalleyRoom$Log" "word" "[I") ∈ lwG := lwG_1 (List.mem_of_getElem? (i := 111) rfl) rfl
theorem fl_3_15 : g_Fl RX3 15 3 1 := ⟨rfl, by decide, RX3, TX3, rfl, inX3, wd1_111⟩
theorem wd1_112 : (Cond.fieldLink "GalleyRoom$Log" (18 : Nat) "GalleyRoom$Log" "wasWide" "[I") ∈ lwG := lwG_1 (List.mem_of_getElem? (i := 112) rfl) rfl
theorem fl_3_18 : g_Fl RX3 18 3 2 := ⟨rfl, by decide, RX3, TX3, rfl, inX3, wd1_112⟩
theorem wd1_113 : (Cond.fieldLink "GalleyRoom$Log" (27 : Nat) "GalleyRoom$Log" "held" "I") ∈ lwG := lwG_1 (List.mem_of_getElem? (i := 113) rfl) rfl
theorem fp_3_27 : g_Fp RX3 27 3 3 .int := ⟨rfl, by decide, RX3, TX3, tyX3, rfl, inX3, wd1_113, tyX3_ok, nmX3, rfl, tyX3_ok 3 (by decide)⟩
theorem fl_3_27 : g_Fl RX3 27 3 3 := ⟨rfl, by decide, RX3, TX3, rfl, inX3, wd1_113⟩
theorem wd4_64 : (Cond.methodLink "GalleyRoom$Log" (31 : Nat) ({ cls := "GalleyRoom$Log", name := "dropOldest", desc := "()V" } : Jvm.MethodName)) ∈ lwG := lwG_4 (List.mem_of_getElem? (i := 64) rfl) rfl
theorem wd4_67 : (Cond.code ({ cls := "GalleyRoom$Log", name := "dropOldest", desc := "()V" } : Jvm.MethodName) prog_5_method_4_code (1 : Nat) (Option.none : Option Jvm.ClassFile.FieldType)) ∈ lwG := lwG_4 (List.mem_of_getElem? (i := 67) rfl) rfl
theorem wd1_4 : (Cond.initialized "GalleyRoom$Log") ∈ lwG := lwG_1 (List.mem_of_getElem? (i := 4) rfl) rfl
theorem wd4_66 : (Cond.instanceMethod ({ cls := "GalleyRoom$Log", name := "dropOldest", desc := "()V" } : Jvm.MethodName)) ∈ lwG := lwG_4 (List.mem_of_getElem? (i := 66) rfl) rfl
theorem sel_GalleyRoom_Log_dropOldest___V : Cond.selects "GalleyRoom$Log" ({ cls := "GalleyRoom$Log", name := "dropOldest", desc := "()V" } : Jvm.MethodName) ({ cls := "GalleyRoom$Log", name := "dropOldest", desc := "()V" } : Jvm.MethodName) ∈ lwG := lwG_mem (List.mem_append_left _ (List.mem_of_getElem? (i := 28) rfl)) rfl
theorem wd4_72 : (Cond.methodLink "GalleyRoom$Galley" (78 : Nat) ({ cls := "GalleyRoom$Galley", name := "whyNot", desc := "(III)I" } : Jvm.MethodName)) ∈ lwG := lwG_4 (List.mem_of_getElem? (i := 72) rfl) rfl
theorem wd4_59 : (Cond.code ({ cls := "GalleyRoom$Galley", name := "whyNot", desc := "(III)I" } : Jvm.MethodName) prog_3_method_16_code (4 : Nat) (Option.some Jvm.ClassFile.FieldType.int)) ∈ lwG := lwG_4 (List.mem_of_getElem? (i := 59) rfl) rfl
theorem wd4_57 : (Cond.instanceMethod ({ cls := "GalleyRoom$Galley", name := "whyNot", desc := "(III)I" } : Jvm.MethodName)) ∈ lwG := lwG_4 (List.mem_of_getElem? (i := 57) rfl) rfl
theorem wd4_58 : (Cond.selects "GalleyRoom$Galley" ({ cls := "GalleyRoom$Galley", name := "whyNot", desc := "(III)I" } : Jvm.MethodName) ({ cls := "GalleyRoom$Galley", name := "whyNot", desc := "(III)I" } : Jvm.MethodName)) ∈ lwG := lwG_4 (List.mem_of_getElem? (i := 58) rfl) rfl
theorem wd1_67 : (Cond.fieldLink "GalleyRoom$Galley" (49 : Nat) "GalleyRoom$Galley" "endBits" "I") ∈ lwG := lwG_1 (List.mem_of_getElem? (i := 67) rfl) rfl
theorem fl_1_49 : g_Fl RX1 49 1 8 := ⟨rfl, by decide, RX1, TX1, rfl, inX1, wd1_67⟩
theorem fp_1_49 : g_Fp RX1 49 1 8 .int := ⟨rfl, by decide, RX1, TX1, tyX1, rfl, inX1, wd1_67, tyX1_ok, nmX1, rfl, tyX1_ok 8 (by decide)⟩
theorem wd1_68 : (Cond.fieldLink "GalleyRoom$Galley" (52 : Nat) "GalleyRoom$Galley" "splitBits" "I") ∈ lwG := lwG_1 (List.mem_of_getElem? (i := 68) rfl) rfl
theorem fl_1_52 : g_Fl RX1 52 1 9 := ⟨rfl, by decide, RX1, TX1, rfl, inX1, wd1_68⟩
theorem fp_1_52 : g_Fp RX1 52 1 9 .int := ⟨rfl, by decide, RX1, TX1, tyX1, rfl, inX1, wd1_68, tyX1_ok, nmX1, rfl, tyX1_ok 9 (by decide)⟩
theorem wd1_214 : (Cond.fieldLink "GalleyRoom$Desk" (12 : Nat) "GalleyRoom$Desk" "galley" "LGalleyRoom$Galley;") ∈ lwG := lwG_1 (List.mem_of_getElem? (i := 214) rfl) rfl
theorem fl_0_12 : g_Fl RX0 12 0 0 := ⟨rfl, by decide, RX0, TX0, rfl, inX0, wd1_214⟩
theorem wd4_56 : (Cond.methodLink "GalleyRoom$Desk" (53 : Nat) ({ cls := "GalleyRoom$Galley", name := "whyNot", desc := "(III)I" } : Jvm.MethodName)) ∈ lwG := lwG_4 (List.mem_of_getElem? (i := 56) rfl) rfl
theorem wd1_216 : (Cond.fieldLink "GalleyRoom$Desk" (21 : Nat) "GalleyRoom$Desk" "log" "LGalleyRoom$Log;") ∈ lwG := lwG_1 (List.mem_of_getElem? (i := 216) rfl) rfl
theorem fl_0_21 : g_Fl RX0 21 0 1 := ⟨rfl, by decide, RX0, TX0, rfl, inX0, wd1_216⟩
theorem wd4_40 : (Cond.methodLink "GalleyRoom$Desk" (57 : Nat) ({ cls := "GalleyRoom$Galley", name := "wideOf", desc := "(I)I" } : Jvm.MethodName)) ∈ lwG := lwG_4 (List.mem_of_getElem? (i := 40) rfl) rfl
theorem wd4_43 : (Cond.code ({ cls := "GalleyRoom$Galley", name := "wideOf", desc := "(I)I" } : Jvm.MethodName) prog_3_method_4_code (2 : Nat) (Option.some Jvm.ClassFile.FieldType.int)) ∈ lwG := lwG_4 (List.mem_of_getElem? (i := 43) rfl) rfl
theorem wd4_41 : (Cond.instanceMethod ({ cls := "GalleyRoom$Galley", name := "wideOf", desc := "(I)I" } : Jvm.MethodName)) ∈ lwG := lwG_4 (List.mem_of_getElem? (i := 41) rfl) rfl
theorem wd4_42 : (Cond.selects "GalleyRoom$Galley" ({ cls := "GalleyRoom$Galley", name := "wideOf", desc := "(I)I" } : Jvm.MethodName) ({ cls := "GalleyRoom$Galley", name := "wideOf", desc := "(I)I" } : Jvm.MethodName)) ∈ lwG := lwG_4 (List.mem_of_getElem? (i := 42) rfl) rfl
theorem wd4_60 : (Cond.methodLink "GalleyRoom$Desk" (61 : Nat) ({ cls := "GalleyRoom$Log", name := "note", desc := "(III)V" } : Jvm.MethodName)) ∈ lwG := lwG_4 (List.mem_of_getElem? (i := 60) rfl) rfl
theorem wd4_63 : (Cond.code ({ cls := "GalleyRoom$Log", name := "note", desc := "(III)V" } : Jvm.MethodName) prog_5_method_3_code (4 : Nat) (Option.none : Option Jvm.ClassFile.FieldType)) ∈ lwG := lwG_4 (List.mem_of_getElem? (i := 63) rfl) rfl
theorem wd4_61 : (Cond.instanceMethod ({ cls := "GalleyRoom$Log", name := "note", desc := "(III)V" } : Jvm.MethodName)) ∈ lwG := lwG_4 (List.mem_of_getElem? (i := 61) rfl) rfl
theorem wd4_62 : (Cond.selects "GalleyRoom$Log" ({ cls := "GalleyRoom$Log", name := "note", desc := "(III)V" } : Jvm.MethodName) ({ cls := "GalleyRoom$Log", name := "note", desc := "(III)V" } : Jvm.MethodName)) ∈ lwG := lwG_4 (List.mem_of_getElem? (i := 62) rfl) rfl
theorem wd4_68 : (Cond.methodLink "GalleyRoom$Desk" (65 : Nat) ({ cls := "GalleyRoom$Galley", name := "carryOutIfItCanBe", desc := "(III)V" } : Jvm.MethodName)) ∈ lwG := lwG_4 (List.mem_of_getElem? (i := 68) rfl) rfl
theorem wd4_71 : (Cond.code ({ cls := "GalleyRoom$Galley", name := "carryOutIfItCanBe", desc := "(III)V" } : Jvm.MethodName) prog_3_method_17_code (4 : Nat) (Option.none : Option Jvm.ClassFile.FieldType)) ∈ lwG := lwG_4 (List.mem_of_getElem? (i := 71) rfl) rfl
theorem wd4_69 : (Cond.instanceMethod ({ cls := "GalleyRoom$Galley", name := "carryOutIfItCanBe", desc := "(III)V" } : Jvm.MethodName)) ∈ lwG := lwG_4 (List.mem_of_getElem? (i := 69) rfl) rfl
theorem wd4_70 : (Cond.selects "GalleyRoom$Galley" ({ cls := "GalleyRoom$Galley", name := "carryOutIfItCanBe", desc := "(III)V" } : Jvm.MethodName) ({ cls := "GalleyRoom$Galley", name := "carryOutIfItCanBe", desc := "(III)V" } : Jvm.MethodName)) ∈ lwG := lwG_4 (List.mem_of_getElem? (i := 70) rfl) rfl
theorem wd1_60 : (Cond.fieldLink "GalleyRoom$Galley" (32 : Nat) "GalleyRoom$Galley" "law" "[LGalleyRoom$Text;") ∈ lwG := lwG_1 (List.mem_of_getElem? (i := 60) rfl) rfl
theorem fl_1_32 : g_Fl RX1 32 1 6 := ⟨rfl, by decide, RX1, TX1, rfl, inX1, wd1_60⟩
theorem fp_1_46 : g_Fp RX1 46 1 7 .int := ⟨rfl, by decide, RX1, TX1, tyX1, rfl, inX1, wd1_65, tyX1_ok, nmX1, rfl, tyX1_ok 7 (by decide)⟩
theorem wd1_69 : (Cond.fieldLink "GalleyRoom$Galley" (55 : Nat) "GalleyRoom$Galley" "seen" "I") ∈ lwG := lwG_1 (List.mem_of_getElem? (i := 69) rfl) rfl
theorem fl_1_55 : g_Fl RX1 55 1 10 := ⟨rfl, by decide, RX1, TX1, rfl, inX1, wd1_69⟩
theorem fp_1_55 : g_Fp RX1 55 1 10 .int := ⟨rfl, by decide, RX1, TX1, tyX1, rfl, inX1, wd1_69, tyX1_ok, nmX1, rfl, tyX1_ok 10 (by decide)⟩
theorem wd1_72 : (Cond.fieldLink "GalleyRoom$Galley" (58 : Nat) "GalleyRoom$Galley" "laws" "I") ∈ lwG := lwG_1 (List.mem_of_getElem? (i := 72) rfl) rfl
theorem fl_1_58 : g_Fl RX1 58 1 11 := ⟨rfl, by decide, RX1, TX1, rfl, inX1, wd1_72⟩
theorem fp_1_58 : g_Fp RX1 58 1 11 .int := ⟨rfl, by decide, RX1, TX1, tyX1, rfl, inX1, wd1_72, tyX1_ok, nmX1, rfl, tyX1_ok 11 (by decide)⟩
theorem wd1_74 : (Cond.fieldLink "GalleyRoom$Galley" (36 : Nat) "GalleyRoom$Galley" "force" "I") ∈ lwG := lwG_1 (List.mem_of_getElem? (i := 74) rfl) rfl
theorem fl_1_36 : g_Fl RX1 36 1 12 := ⟨rfl, by decide, RX1, TX1, rfl, inX1, wd1_74⟩
theorem fp_1_36 : g_Fp RX1 36 1 12 .int := ⟨rfl, by decide, RX1, TX1, tyX1, rfl, inX1, wd1_74, tyX1_ok, nmX1, rfl, tyX1_ok 12 (by decide)⟩
theorem wd4_24 : (Cond.methodLink "GalleyRoom$Galley" (40 : Nat) ({ cls := "java/lang/System", name := "arraycopy", desc := "(Ljava/lang/Object;ILjava/lang/Object;II)V" } : Jvm.MethodName)) ∈ lwG := lwG_4 (List.mem_of_getElem? (i := 24) rfl) rfl
theorem wd1_45 : (Cond.fieldLink "GalleyRoom$Galley" (18 : Nat) "GalleyRoom$Galley" "kind" "[I") ∈ lwG := lwG_1 (List.mem_of_getElem? (i := 45) rfl) rfl
theorem fl_1_18 : g_Fl RX1 18 1 2 := ⟨rfl, by decide, RX1, TX1, rfl, inX1, wd1_45⟩
theorem wd1_54 : (Cond.fieldLink "GalleyRoom$Galley" (24 : Nat) "GalleyRoom$Galley" "seenFact" "[I") ∈ lwG := lwG_1 (List.mem_of_getElem? (i := 54) rfl) rfl
theorem fl_1_24 : g_Fl RX1 24 1 4 := ⟨rfl, by decide, RX1, TX1, rfl, inX1, wd1_54⟩
theorem wd1_57 : (Cond.fieldLink "GalleyRoom$Galley" (27 : Nat) "GalleyRoom$Galley" "seenNumber" "[I") ∈ lwG := lwG_1 (List.mem_of_getElem? (i := 57) rfl) rfl
theorem fl_1_27 : g_Fl RX1 27 1 5 := ⟨rfl, by decide, RX1, TX1, rfl, inX1, wd1_57⟩
theorem wd1_221 : (Cond.fieldLink "GalleyRoom$Desk" (39 : Nat) "GalleyRoom$Desk" "galleyAhead" "LGalleyRoom$Galley;") ∈ lwG := lwG_1 (List.mem_of_getElem? (i := 221) rfl) rfl
theorem fl_0_39 : g_Fl RX0 39 0 4 := ⟨rfl, by decide, RX0, TX0, rfl, inX0, wd1_221⟩
theorem wd4_20 : (Cond.methodLink "GalleyRoom$Desk" (68 : Nat) ({ cls := "GalleyRoom$Galley", name := "copyFrom", desc := "(LGalleyRoom$Galley;)V" } : Jvm.MethodName)) ∈ lwG := lwG_4 (List.mem_of_getElem? (i := 20) rfl) rfl
theorem wd4_23 : (Cond.code ({ cls := "GalleyRoom$Galley", name := "copyFrom", desc := "(LGalleyRoom$Galley;)V" } : Jvm.MethodName) prog_3_method_2_code (3 : Nat) (Option.none : Option Jvm.ClassFile.FieldType)) ∈ lwG := lwG_4 (List.mem_of_getElem? (i := 23) rfl) rfl
theorem wd4_21 : (Cond.instanceMethod ({ cls := "GalleyRoom$Galley", name := "copyFrom", desc := "(LGalleyRoom$Galley;)V" } : Jvm.MethodName)) ∈ lwG := lwG_4 (List.mem_of_getElem? (i := 21) rfl) rfl
theorem wd4_22 : (Cond.selects "GalleyRoom$Galley" ({ cls := "GalleyRoom$Galley", name := "copyFrom", desc := "(LGalleyRoom$Galley;)V" } : Jvm.MethodName) ({ cls := "GalleyRoom$Galley", name := "copyFrom", desc := "(LGalleyRoom$Galley;)V" } : Jvm.MethodName)) ∈ lwG := lwG_4 (List.mem_of_getElem? (i := 22) rfl) rfl
theorem wd1_222 : (Cond.fieldLink "GalleyRoom$Desk" (42 : Nat) "GalleyRoom$Desk" "logAhead" "LGalleyRoom$Log;") ∈ lwG := lwG_1 (List.mem_of_getElem? (i := 222) rfl) rfl
theorem fl_0_42 : g_Fl RX0 42 0 5 := ⟨rfl, by decide, RX0, TX0, rfl, inX0, wd1_222⟩
theorem wd4_25 : (Cond.methodLink "GalleyRoom$Desk" (72 : Nat) ({ cls := "GalleyRoom$Log", name := "copyFrom", desc := "(LGalleyRoom$Log;)V" } : Jvm.MethodName)) ∈ lwG := lwG_4 (List.mem_of_getElem? (i := 25) rfl) rfl
theorem wd4_28 : (Cond.code ({ cls := "GalleyRoom$Log", name := "copyFrom", desc := "(LGalleyRoom$Log;)V" } : Jvm.MethodName) prog_5_method_2_code (2 : Nat) (Option.none : Option Jvm.ClassFile.FieldType)) ∈ lwG := lwG_4 (List.mem_of_getElem? (i := 28) rfl) rfl
theorem wd4_26 : (Cond.instanceMethod ({ cls := "GalleyRoom$Log", name := "copyFrom", desc := "(LGalleyRoom$Log;)V" } : Jvm.MethodName)) ∈ lwG := lwG_4 (List.mem_of_getElem? (i := 26) rfl) rfl
theorem wd4_27 : (Cond.selects "GalleyRoom$Log" ({ cls := "GalleyRoom$Log", name := "copyFrom", desc := "(LGalleyRoom$Log;)V" } : Jvm.MethodName) ({ cls := "GalleyRoom$Log", name := "copyFrom", desc := "(LGalleyRoom$Log;)V" } : Jvm.MethodName)) ∈ lwG := lwG_4 (List.mem_of_getElem? (i := 27) rfl) rfl
theorem wd1_225 : (Cond.fieldLink "GalleyRoom$Desk" (75 : Nat) "GalleyRoom$Desk" "done" "I") ∈ lwG := lwG_1 (List.mem_of_getElem? (i := 225) rfl) rfl
theorem fp_0_75 : g_Fp RX0 75 0 8 .int := ⟨rfl, by decide, RX0, TX0, tyX0, rfl, inX0, wd1_225, tyX0_ok, nmX0, rfl, tyX0_ok 8 (by decide)⟩
theorem wd1_224 : (Cond.fieldLink "GalleyRoom$Desk" (49 : Nat) "GalleyRoom$Desk" "latestTold" "I") ∈ lwG := lwG_1 (List.mem_of_getElem? (i := 224) rfl) rfl
theorem fp_0_49 : g_Fp RX0 49 0 7 .int := ⟨rfl, by decide, RX0, TX0, tyX0, rfl, inX0, wd1_224, tyX0_ok, nmX0, rfl, tyX0_ok 7 (by decide)⟩
theorem wd2_225 : (Cond.methodLink "GalleyRoom$Galley" (65 : Nat) ({ cls := "GalleyRoom$Galley", name := "isSplit", desc := "(I)Z" } : Jvm.MethodName)) ∈ lwG := lwG_2 (List.mem_of_getElem? (i := 225) rfl) rfl
theorem wd2_212 : (Cond.code ({ cls := "GalleyRoom$Galley", name := "isSplit", desc := "(I)Z" } : Jvm.MethodName) prog_3_method_6_code (2 : Nat) (Option.some Jvm.ClassFile.FieldType.boolean)) ∈ lwG := lwG_2 (List.mem_of_getElem? (i := 212) rfl) rfl
theorem wd2_210 : (Cond.instanceMethod ({ cls := "GalleyRoom$Galley", name := "isSplit", desc := "(I)Z" } : Jvm.MethodName)) ∈ lwG := lwG_2 (List.mem_of_getElem? (i := 210) rfl) rfl
theorem wd2_211 : (Cond.selects "GalleyRoom$Galley" ({ cls := "GalleyRoom$Galley", name := "isSplit", desc := "(I)Z" } : Jvm.MethodName) ({ cls := "GalleyRoom$Galley", name := "isSplit", desc := "(I)Z" } : Jvm.MethodName)) ∈ lwG := lwG_2 (List.mem_of_getElem? (i := 211) rfl) rfl
theorem wd2_226 : (Cond.methodLink "GalleyRoom$Galley" (68 : Nat) ({ cls := "GalleyRoom$Galley", name := "endsAfter", desc := "(I)Z" } : Jvm.MethodName)) ∈ lwG := lwG_2 (List.mem_of_getElem? (i := 226) rfl) rfl
theorem wd2_207 : (Cond.code ({ cls := "GalleyRoom$Galley", name := "endsAfter", desc := "(I)Z" } : Jvm.MethodName) prog_3_method_7_code (2 : Nat) (Option.some Jvm.ClassFile.FieldType.boolean)) ∈ lwG := lwG_2 (List.mem_of_getElem? (i := 207) rfl) rfl
theorem wd2_205 : (Cond.instanceMethod ({ cls := "GalleyRoom$Galley", name := "endsAfter", desc := "(I)Z" } : Jvm.MethodName)) ∈ lwG := lwG_2 (List.mem_of_getElem? (i := 205) rfl) rfl
theorem wd2_206 : (Cond.selects "GalleyRoom$Galley" ({ cls := "GalleyRoom$Galley", name := "endsAfter", desc := "(I)Z" } : Jvm.MethodName) ({ cls := "GalleyRoom$Galley", name := "endsAfter", desc := "(I)Z" } : Jvm.MethodName)) ∈ lwG := lwG_2 (List.mem_of_getElem? (i := 206) rfl) rfl
theorem wd1_156 : (Cond.fieldLink "GalleyRoom$Line" (22 : Nat) "GalleyRoom$Line" "to" "I") ∈ lwG := lwG_1 (List.mem_of_getElem? (i := 156) rfl) rfl
theorem fl_2_22 : g_Fl RX2 22 2 2 := ⟨rfl, by decide, RX2, TX2, rfl, inX2, wd1_156⟩
theorem wd1_159 : (Cond.fieldLink "GalleyRoom$Line" (26 : Nat) "GalleyRoom$Line" "width" "I") ∈ lwG := lwG_1 (List.mem_of_getElem? (i := 159) rfl) rfl
theorem fl_2_26 : g_Fl RX2 26 2 3 := ⟨rfl, by decide, RX2, TX2, rfl, inX2, wd1_159⟩
theorem wd2_231 : (Cond.methodLink "GalleyRoom$Line" (32 : Nat) ({ cls := "GalleyRoom$Galley", name := "pieceOf", desc := "(III)I" } : Jvm.MethodName)) ∈ lwG := lwG_2 (List.mem_of_getElem? (i := 231) rfl) rfl
theorem wd2_234 : (Cond.code ({ cls := "GalleyRoom$Galley", name := "pieceOf", desc := "(III)I" } : Jvm.MethodName) prog_3_method_10_code (4 : Nat) (Option.some Jvm.ClassFile.FieldType.int)) ∈ lwG := lwG_2 (List.mem_of_getElem? (i := 234) rfl) rfl
theorem wd2_232 : (Cond.instanceMethod ({ cls := "GalleyRoom$Galley", name := "pieceOf", desc := "(III)I" } : Jvm.MethodName)) ∈ lwG := lwG_2 (List.mem_of_getElem? (i := 232) rfl) rfl
theorem wd2_233 : (Cond.selects "GalleyRoom$Galley" ({ cls := "GalleyRoom$Galley", name := "pieceOf", desc := "(III)I" } : Jvm.MethodName) ({ cls := "GalleyRoom$Galley", name := "pieceOf", desc := "(III)I" } : Jvm.MethodName)) ∈ lwG := lwG_2 (List.mem_of_getElem? (i := 233) rfl) rfl
theorem wd1_162 : (Cond.fieldLink "GalleyRoom$Line" (29 : Nat) "GalleyRoom$Line" "pieces" "I") ∈ lwG := lwG_1 (List.mem_of_getElem? (i := 162) rfl) rfl
theorem fl_2_29 : g_Fl RX2 29 2 4 := ⟨rfl, by decide, RX2, TX2, rfl, inX2, wd1_162⟩
theorem fp_2_26 : g_Fp RX2 26 2 3 .int := ⟨rfl, by decide, RX2, TX2, tyX2, rfl, inX2, wd1_159, tyX2_ok, nmX2, rfl, tyX2_ok 3 (by decide)⟩
theorem fp_2_29 : g_Fp RX2 29 2 4 .int := ⟨rfl, by decide, RX2, TX2, tyX2, rfl, inX2, wd1_162, tyX2_ok, nmX2, rfl, tyX2_ok 4 (by decide)⟩
theorem fp_2_22 : g_Fp RX2 22 2 2 .int := ⟨rfl, by decide, RX2, TX2, tyX2, rfl, inX2, wd1_156, tyX2_ok, nmX2, rfl, tyX2_ok 2 (by decide)⟩
theorem wd2_239 : (Cond.methodLink "GalleyRoom$Galley" (74 : Nat) ({ cls := "GalleyRoom$Galley", name := "lawOf", desc := "(I)LGalleyRoom$Text;" } : Jvm.MethodName)) ∈ lwG := lwG_2 (List.mem_of_getElem? (i := 239) rfl) rfl
theorem wd3_2 : (Cond.code ({ cls := "GalleyRoom$Galley", name := "lawOf", desc := "(I)LGalleyRoom$Text;" } : Jvm.MethodName) prog_3_method_14_code (2 : Nat) (Option.some (Jvm.ClassFile.FieldType.object "GalleyRoom$Text"))) ∈ lwG := lwG_3 (List.mem_of_getElem? (i := 2) rfl) rfl
theorem wd3_0 : (Cond.instanceMethod ({ cls := "GalleyRoom$Galley", name := "lawOf", desc := "(I)LGalleyRoom$Text;" } : Jvm.MethodName)) ∈ lwG := lwG_3 (List.mem_of_getElem? (i := 0) rfl) rfl
theorem wd3_1 : (Cond.selects "GalleyRoom$Galley" ({ cls := "GalleyRoom$Galley", name := "lawOf", desc := "(I)LGalleyRoom$Text;" } : Jvm.MethodName) ({ cls := "GalleyRoom$Galley", name := "lawOf", desc := "(I)LGalleyRoom$Text;" } : Jvm.MethodName)) ∈ lwG := lwG_3 (List.mem_of_getElem? (i := 1) rfl) rfl
theorem wd1_154 : (Cond.fieldLink "GalleyRoom$Line" (9 : Nat) "GalleyRoom$Line" "facts" "[I") ∈ lwG := lwG_1 (List.mem_of_getElem? (i := 154) rfl) rfl
theorem fl_2_9 : g_Fl RX2 9 2 0 := ⟨rfl, by decide, RX2, TX2, rfl, inX2, wd1_154⟩
theorem wd1_50 : (Cond.fieldLink "GalleyRoom$Line" (99 : Nat) "GalleyRoom$Galley" "terms" "[I") ∈ lwG := lwG_1 (List.mem_of_getElem? (i := 50) rfl) rfl
theorem fl_2_99 : g_Fl RX2 99 1 3 := ⟨rfl, by decide, RX1, TX1, rfl, inX1, wd1_50⟩
theorem wd1_66 : (Cond.fieldLink "GalleyRoom$Line" (89 : Nat) "GalleyRoom$Galley" "words" "I") ∈ lwG := lwG_1 (List.mem_of_getElem? (i := 66) rfl) rfl
theorem fl_2_89 : g_Fl RX2 89 1 7 := ⟨rfl, by decide, RX1, TX1, rfl, inX1, wd1_66⟩
theorem wd3_11 : (Cond.methodLink "GalleyRoom$Line" (92 : Nat) ({ cls := "GalleyRoom$Galley", name := "has", desc := "(I)Z" } : Jvm.MethodName)) ∈ lwG := lwG_3 (List.mem_of_getElem? (i := 11) rfl) rfl
theorem wd1_47 : (Cond.fieldLink "GalleyRoom$Line" (96 : Nat) "GalleyRoom$Galley" "kind" "[I") ∈ lwG := lwG_1 (List.mem_of_getElem? (i := 47) rfl) rfl
theorem fl_2_96 : g_Fl RX2 96 1 2 := ⟨rfl, by decide, RX1, TX1, rfl, inX1, wd1_47⟩
theorem wd1_145 : (Cond.fieldLink "GalleyRoom$Machine" (21 : Nat) "GalleyRoom$Machine" "broken" "Z") ∈ lwG := lwG_1 (List.mem_of_getElem? (i := 145) rfl) rfl
theorem fl_4_21 : g_Fl RX4 21 4 1 := ⟨rfl, by decide, RX4, TX4, rfl, inX4, wd1_145⟩
theorem wd3_24 : (Cond.constantLong "GalleyRoom$Machine" (29 : Nat) (1000000000 : Int64)) ∈ lwG := lwG_3 (List.mem_of_getElem? (i := 24) rfl) rfl
theorem fp_4_21 : g_Fp RX4 21 4 1 .boolean := ⟨rfl, by decide, RX4, TX4, tyX4, rfl, inX4, wd1_145, tyX4_ok, nmX4, rfl, tyX4_ok 1 (by decide)⟩
theorem wd3_25 : (Cond.constantLong "GalleyRoom$Machine" (31 : Nat) (-1000000000 : Int64)) ∈ lwG := lwG_3 (List.mem_of_getElem? (i := 25) rfl) rfl
theorem wd1_144 : (Cond.fieldLink "GalleyRoom$Machine" (9 : Nat) "GalleyRoom$Machine" "stack" "[J") ∈ lwG := lwG_1 (List.mem_of_getElem? (i := 144) rfl) rfl
theorem fl_4_9 : g_Fl RX4 9 4 0 := ⟨rfl, by decide, RX4, TX4, rfl, inX4, wd1_144⟩
theorem wd3_20 : (Cond.methodLink "GalleyRoom$Machine" (25 : Nat) ({ cls := "GalleyRoom$Machine", name := "combine", desc := "(IJJ)J" } : Jvm.MethodName)) ∈ lwG := lwG_3 (List.mem_of_getElem? (i := 20) rfl) rfl
theorem wd3_23 : (Cond.code ({ cls := "GalleyRoom$Machine", name := "combine", desc := "(IJJ)J" } : Jvm.MethodName) prog_6_method_3_code (8 : Nat) (Option.some Jvm.ClassFile.FieldType.long)) ∈ lwG := lwG_3 (List.mem_of_getElem? (i := 23) rfl) rfl
theorem wd1_7 : (Cond.initialized "GalleyRoom$Machine") ∈ lwG := lwG_1 (List.mem_of_getElem? (i := 7) rfl) rfl
theorem wd3_22 : (Cond.instanceMethod ({ cls := "GalleyRoom$Machine", name := "combine", desc := "(IJJ)J" } : Jvm.MethodName)) ∈ lwG := lwG_3 (List.mem_of_getElem? (i := 22) rfl) rfl
theorem sel_GalleyRoom_Machine_combine__IJJ_J : Cond.selects "GalleyRoom$Machine" ({ cls := "GalleyRoom$Machine", name := "combine", desc := "(IJJ)J" } : Jvm.MethodName) ({ cls := "GalleyRoom$Machine", name := "combine", desc := "(IJJ)J" } : Jvm.MethodName) ∈ lwG := lwG_mem (List.mem_append_left _ (List.mem_of_getElem? (i := 3) rfl)) rfl
theorem wd2_43 : (Cond.fieldLink "GalleyRoom$Machine" (15 : Nat) "GalleyRoom$Text" "code" "[I") ∈ lwG := lwG_2 (List.mem_of_getElem? (i := 43) rfl) rfl
theorem fl_4_15 : g_Fl RX4 15 8 5 := ⟨rfl, by decide, RX8, TX8, rfl, inX8, wd2_43⟩
theorem wd3_29 : (Cond.methodLink "GalleyRoom" (316 : Nat) ({ cls := "java/lang/Math", name := "min", desc := "(JJ)J" } : Jvm.MethodName)) ∈ lwG := lwG_3 (List.mem_of_getElem? (i := 29) rfl) rfl
theorem wd3_30 : (Cond.static ({ cls := "java/lang/Math", name := "min", desc := "(JJ)J" } : Jvm.MethodName)) ∈ lwG := lwG_3 (List.mem_of_getElem? (i := 30) rfl) rfl
theorem wd1_10 : (Cond.initialized "java/lang/Math") ∈ lwG := lwG_1 (List.mem_of_getElem? (i := 10) rfl) rfl
theorem wd3_31 : (Cond.code ({ cls := "java/lang/Math", name := "min", desc := "(JJ)J" } : Jvm.MethodName) prog_13_method_70_code (4 : Nat) (Option.some Jvm.ClassFile.FieldType.long)) ∈ lwG := lwG_3 (List.mem_of_getElem? (i := 31) rfl) rfl
theorem wd3_32 : (Cond.methodLink "GalleyRoom" (320 : Nat) ({ cls := "java/lang/Math", name := "max", desc := "(JJ)J" } : Jvm.MethodName)) ∈ lwG := lwG_3 (List.mem_of_getElem? (i := 32) rfl) rfl
theorem wd3_33 : (Cond.static ({ cls := "java/lang/Math", name := "max", desc := "(JJ)J" } : Jvm.MethodName)) ∈ lwG := lwG_3 (List.mem_of_getElem? (i := 33) rfl) rfl
theorem wd3_34 : (Cond.code ({ cls := "java/lang/Math", name := "max", desc := "(JJ)J" } : Jvm.MethodName) prog_13_method_66_code (4 : Nat) (Option.some Jvm.ClassFile.FieldType.long)) ∈ lwG := lwG_3 (List.mem_of_getElem? (i := 34) rfl) rfl
theorem wd2_25 : (Cond.fieldLink "GalleyRoom$Line" (66 : Nat) "GalleyRoom$Text" "verb" "[I") ∈ lwG := lwG_2 (List.mem_of_getElem? (i := 25) rfl) rfl
theorem fl_2_66 : g_Fl RX2 66 8 0 := ⟨rfl, by decide, RX8, TX8, rfl, inX8, wd2_25⟩
theorem wd1_170 : (Cond.fieldLink "GalleyRoom$Line" (54 : Nat) "GalleyRoom$Line" "barred" "Z") ∈ lwG := lwG_1 (List.mem_of_getElem? (i := 170) rfl) rfl
theorem fp_2_54 : g_Fp RX2 54 2 7 .boolean := ⟨rfl, by decide, RX2, TX2, tyX2, rfl, inX2, wd1_170, tyX2_ok, nmX2, rfl, tyX2_ok 7 (by decide)⟩
theorem wd1_155 : (Cond.fieldLink "GalleyRoom$Line" (18 : Nat) "GalleyRoom$Line" "machine" "LGalleyRoom$Machine;") ∈ lwG := lwG_1 (List.mem_of_getElem? (i := 155) rfl) rfl
theorem fl_2_18 : g_Fl RX2 18 2 1 := ⟨rfl, by decide, RX2, TX2, rfl, inX2, wd1_155⟩
theorem wd2_32 : (Cond.fieldLink "GalleyRoom$Line" (76 : Nat) "GalleyRoom$Text" "firstSum" "[I") ∈ lwG := lwG_2 (List.mem_of_getElem? (i := 32) rfl) rfl
theorem fl_2_76 : g_Fl RX2 76 8 2 := ⟨rfl, by decide, RX8, TX8, rfl, inX8, wd2_32⟩
theorem wd3_16 : (Cond.methodLink "GalleyRoom$Line" (72 : Nat) ({ cls := "GalleyRoom$Machine", name := "valueOf", desc := "(LGalleyRoom$Text;I[I)J" } : Jvm.MethodName)) ∈ lwG := lwG_3 (List.mem_of_getElem? (i := 16) rfl) rfl
theorem wd3_19 : (Cond.code ({ cls := "GalleyRoom$Machine", name := "valueOf", desc := "(LGalleyRoom$Text;I[I)J" } : Jvm.MethodName) prog_6_method_2_code (12 : Nat) (Option.some Jvm.ClassFile.FieldType.long)) ∈ lwG := lwG_3 (List.mem_of_getElem? (i := 19) rfl) rfl
theorem wd3_17 : (Cond.instanceMethod ({ cls := "GalleyRoom$Machine", name := "valueOf", desc := "(LGalleyRoom$Text;I[I)J" } : Jvm.MethodName)) ∈ lwG := lwG_3 (List.mem_of_getElem? (i := 17) rfl) rfl
theorem wd3_18 : (Cond.selects "GalleyRoom$Machine" ({ cls := "GalleyRoom$Machine", name := "valueOf", desc := "(LGalleyRoom$Text;I[I)J" } : Jvm.MethodName) ({ cls := "GalleyRoom$Machine", name := "valueOf", desc := "(LGalleyRoom$Text;I[I)J" } : Jvm.MethodName)) ∈ lwG := lwG_3 (List.mem_of_getElem? (i := 18) rfl) rfl
theorem wd1_146 : (Cond.fieldLink "GalleyRoom$Line" (79 : Nat) "GalleyRoom$Machine" "broken" "Z") ∈ lwG := lwG_1 (List.mem_of_getElem? (i := 146) rfl) rfl
theorem fl_2_79 : g_Fl RX2 79 4 1 := ⟨rfl, by decide, RX4, TX4, rfl, inX4, wd1_146⟩
theorem wd3_28 : (Cond.code ({ cls := "GalleyRoom", name := "clamp", desc := "(JI)I" } : Jvm.MethodName) prog_1_method_49_code (3 : Nat) (Option.some Jvm.ClassFile.FieldType.int)) ∈ lwG := lwG_3 (List.mem_of_getElem? (i := 28) rfl) rfl
theorem wd1_1 : (Cond.initialized "GalleyRoom") ∈ lwG := lwG_1 (List.mem_of_getElem? (i := 1) rfl) rfl
theorem wd3_27 : (Cond.static ({ cls := "GalleyRoom", name := "clamp", desc := "(JI)I" } : Jvm.MethodName)) ∈ lwG := lwG_3 (List.mem_of_getElem? (i := 27) rfl) rfl
theorem wd1_164 : (Cond.fieldLink "GalleyRoom$Line" (48 : Nat) "GalleyRoom$Line" "costs" "I") ∈ lwG := lwG_1 (List.mem_of_getElem? (i := 164) rfl) rfl
theorem fp_2_48 : g_Fp RX2 48 2 5 .int := ⟨rfl, by decide, RX2, TX2, tyX2, rfl, inX2, wd1_164, tyX2_ok, nmX2, rfl, tyX2_ok 5 (by decide)⟩
theorem wd1_167 : (Cond.fieldLink "GalleyRoom$Line" (51 : Nat) "GalleyRoom$Line" "pays" "I") ∈ lwG := lwG_1 (List.mem_of_getElem? (i := 167) rfl) rfl
theorem fp_2_51 : g_Fp RX2 51 2 6 .int := ⟨rfl, by decide, RX2, TX2, tyX2, rfl, inX2, wd1_167, tyX2_ok, nmX2, rfl, tyX2_ok 6 (by decide)⟩
theorem wd2_39 : (Cond.fieldLink "GalleyRoom$Line" (69 : Nat) "GalleyRoom$Text" "test" "[I") ∈ lwG := lwG_2 (List.mem_of_getElem? (i := 39) rfl) rfl
theorem fl_2_69 : g_Fl RX2 69 8 4 := ⟨rfl, by decide, RX8, TX8, rfl, inX8, wd2_39⟩
theorem wd1_174 : (Cond.fieldLink "GalleyRoom$Line" (86 : Nat) "GalleyRoom$Line" "fits" "Z") ∈ lwG := lwG_1 (List.mem_of_getElem? (i := 174) rfl) rfl
theorem fp_2_86 : g_Fp RX2 86 2 8 .boolean := ⟨rfl, by decide, RX2, TX2, tyX2, rfl, inX2, wd1_174, tyX2_ok, nmX2, rfl, tyX2_ok 8 (by decide)⟩
theorem fl_2_54 : g_Fl RX2 54 2 7 := ⟨rfl, by decide, RX2, TX2, rfl, inX2, wd1_170⟩
theorem wd2_45 : (Cond.fieldLink "GalleyRoom$Line" (58 : Nat) "GalleyRoom$Text" "clauses" "I") ∈ lwG := lwG_2 (List.mem_of_getElem? (i := 45) rfl) rfl
theorem fl_2_58 : g_Fl RX2 58 8 6 := ⟨rfl, by decide, RX8, TX8, rfl, inX8, wd2_45⟩
theorem wd3_13 : (Cond.methodLink "GalleyRoom$Line" (63 : Nat) ({ cls := "java/lang/Math", name := "min", desc := "(II)I" } : Jvm.MethodName)) ∈ lwG := lwG_3 (List.mem_of_getElem? (i := 13) rfl) rfl
theorem wd3_14 : (Cond.static ({ cls := "java/lang/Math", name := "min", desc := "(II)I" } : Jvm.MethodName)) ∈ lwG := lwG_3 (List.mem_of_getElem? (i := 14) rfl) rfl
theorem wd3_15 : (Cond.code ({ cls := "java/lang/Math", name := "min", desc := "(II)I" } : Jvm.MethodName) prog_13_method_69_code (2 : Nat) (Option.some Jvm.ClassFile.FieldType.int)) ∈ lwG := lwG_3 (List.mem_of_getElem? (i := 15) rfl) rfl
theorem wd3_7 : (Cond.methodLink "GalleyRoom$Line" (38 : Nat) ({ cls := "GalleyRoom$Line", name := "gatherFacts", desc := "(LGalleyRoom$Galley;II)V" } : Jvm.MethodName)) ∈ lwG := lwG_3 (List.mem_of_getElem? (i := 7) rfl) rfl
theorem wd3_10 : (Cond.code ({ cls := "GalleyRoom$Line", name := "gatherFacts", desc := "(LGalleyRoom$Galley;II)V" } : Jvm.MethodName) prog_4_method_4_code (5 : Nat) (Option.none : Option Jvm.ClassFile.FieldType)) ∈ lwG := lwG_3 (List.mem_of_getElem? (i := 10) rfl) rfl
theorem wd1_6 : (Cond.initialized "GalleyRoom$Line") ∈ lwG := lwG_1 (List.mem_of_getElem? (i := 6) rfl) rfl
theorem wd3_9 : (Cond.instanceMethod ({ cls := "GalleyRoom$Line", name := "gatherFacts", desc := "(LGalleyRoom$Galley;II)V" } : Jvm.MethodName)) ∈ lwG := lwG_3 (List.mem_of_getElem? (i := 9) rfl) rfl
theorem sel_GalleyRoom_Line_gatherFacts__LGalleyRoom_Galley_II_V : Cond.selects "GalleyRoom$Line" ({ cls := "GalleyRoom$Line", name := "gatherFacts", desc := "(LGalleyRoom$Galley;II)V" } : Jvm.MethodName) ({ cls := "GalleyRoom$Line", name := "gatherFacts", desc := "(LGalleyRoom$Galley;II)V" } : Jvm.MethodName) ∈ lwG := lwG_mem (List.mem_append_left _ (List.mem_of_getElem? (i := 2) rfl)) rfl
theorem wd3_12 : (Cond.methodLink "GalleyRoom$Line" (42 : Nat) ({ cls := "java/lang/Math", name := "max", desc := "(II)I" } : Jvm.MethodName)) ∈ lwG := lwG_3 (List.mem_of_getElem? (i := 12) rfl) rfl
theorem wd2_22 : (Cond.static ({ cls := "java/lang/Math", name := "max", desc := "(II)I" } : Jvm.MethodName)) ∈ lwG := lwG_2 (List.mem_of_getElem? (i := 22) rfl) rfl
theorem wd2_23 : (Cond.code ({ cls := "java/lang/Math", name := "max", desc := "(II)I" } : Jvm.MethodName) prog_13_method_65_code (2 : Nat) (Option.some Jvm.ClassFile.FieldType.int)) ∈ lwG := lwG_2 (List.mem_of_getElem? (i := 23) rfl) rfl
theorem wd1_194 : (Cond.fieldLink "GalleyRoom$Sheet" (11 : Nat) "GalleyRoom$Sheet" "told" "[[I") ∈ lwG := lwG_1 (List.mem_of_getElem? (i := 194) rfl) rfl
theorem fl_7_11 : g_Fl RX7 11 7 0 := ⟨rfl, by decide, RX7, TX7, rfl, inX7, wd1_194⟩
theorem wd1_197 : (Cond.fieldLink "GalleyRoom$Sheet" (26 : Nat) "GalleyRoom$Sheet" "line" "LGalleyRoom$Line;") ∈ lwG := lwG_1 (List.mem_of_getElem? (i := 197) rfl) rfl
theorem fl_7_26 : g_Fl RX7 26 7 3 := ⟨rfl, by decide, RX7, TX7, rfl, inX7, wd1_197⟩
theorem wd1_173 : (Cond.fieldLink "GalleyRoom$Sheet" (81 : Nat) "GalleyRoom$Line" "fits" "Z") ∈ lwG := lwG_1 (List.mem_of_getElem? (i := 173) rfl) rfl
theorem fl_7_81 : g_Fl RX7 81 2 8 := ⟨rfl, by decide, RX2, TX2, rfl, inX2, wd1_173⟩
theorem wd1_157 : (Cond.fieldLink "GalleyRoom$Sheet" (62 : Nat) "GalleyRoom$Line" "to" "I") ∈ lwG := lwG_1 (List.mem_of_getElem? (i := 157) rfl) rfl
theorem fl_7_62 : g_Fl RX7 62 2 2 := ⟨rfl, by decide, RX2, TX2, rfl, inX2, wd1_157⟩
theorem wd1_161 : (Cond.fieldLink "GalleyRoom$Sheet" (65 : Nat) "GalleyRoom$Line" "width" "I") ∈ lwG := lwG_1 (List.mem_of_getElem? (i := 161) rfl) rfl
theorem fl_7_65 : g_Fl RX7 65 2 3 := ⟨rfl, by decide, RX2, TX2, rfl, inX2, wd1_161⟩
theorem wd1_163 : (Cond.fieldLink "GalleyRoom$Sheet" (68 : Nat) "GalleyRoom$Line" "pieces" "I") ∈ lwG := lwG_1 (List.mem_of_getElem? (i := 163) rfl) rfl
theorem fl_7_68 : g_Fl RX7 68 2 4 := ⟨rfl, by decide, RX2, TX2, rfl, inX2, wd1_163⟩
theorem wd1_165 : (Cond.fieldLink "GalleyRoom$Sheet" (71 : Nat) "GalleyRoom$Line" "costs" "I") ∈ lwG := lwG_1 (List.mem_of_getElem? (i := 165) rfl) rfl
theorem fl_7_71 : g_Fl RX7 71 2 5 := ⟨rfl, by decide, RX2, TX2, rfl, inX2, wd1_165⟩
theorem wd1_168 : (Cond.fieldLink "GalleyRoom$Sheet" (74 : Nat) "GalleyRoom$Line" "pays" "I") ∈ lwG := lwG_1 (List.mem_of_getElem? (i := 168) rfl) rfl
theorem fl_7_74 : g_Fl RX7 74 2 6 := ⟨rfl, by decide, RX2, TX2, rfl, inX2, wd1_168⟩
theorem wd1_171 : (Cond.fieldLink "GalleyRoom$Sheet" (77 : Nat) "GalleyRoom$Line" "barred" "Z") ∈ lwG := lwG_1 (List.mem_of_getElem? (i := 171) rfl) rfl
theorem fl_7_77 : g_Fl RX7 77 2 7 := ⟨rfl, by decide, RX2, TX2, rfl, inX2, wd1_171⟩
theorem wd1_62 : (Cond.fieldLink "GalleyRoom$Sheet" (34 : Nat) "GalleyRoom$Galley" "words" "I") ∈ lwG := lwG_1 (List.mem_of_getElem? (i := 62) rfl) rfl
theorem fl_7_34 : g_Fl RX7 34 1 7 := ⟨rfl, by decide, RX1, TX1, rfl, inX1, wd1_62⟩
theorem wd1_198 : (Cond.fieldLink "GalleyRoom$Sheet" (30 : Nat) "GalleyRoom$Sheet" "lines" "I") ∈ lwG := lwG_1 (List.mem_of_getElem? (i := 198) rfl) rfl
theorem fl_7_30 : g_Fl RX7 30 7 4 := ⟨rfl, by decide, RX7, TX7, rfl, inX7, wd1_198⟩
theorem wd2_221 : (Cond.methodLink "GalleyRoom$Sheet" (39 : Nat) ({ cls := "GalleyRoom$Galley", name := "endsAt", desc := "(I)Z" } : Jvm.MethodName)) ∈ lwG := lwG_2 (List.mem_of_getElem? (i := 221) rfl) rfl
theorem wd2_224 : (Cond.code ({ cls := "GalleyRoom$Galley", name := "endsAt", desc := "(I)Z" } : Jvm.MethodName) prog_3_method_8_code (2 : Nat) (Option.some Jvm.ClassFile.FieldType.boolean)) ∈ lwG := lwG_2 (List.mem_of_getElem? (i := 224) rfl) rfl
theorem wd2_222 : (Cond.instanceMethod ({ cls := "GalleyRoom$Galley", name := "endsAt", desc := "(I)Z" } : Jvm.MethodName)) ∈ lwG := lwG_2 (List.mem_of_getElem? (i := 222) rfl) rfl
theorem wd2_223 : (Cond.selects "GalleyRoom$Galley" ({ cls := "GalleyRoom$Galley", name := "endsAt", desc := "(I)Z" } : Jvm.MethodName) ({ cls := "GalleyRoom$Galley", name := "endsAt", desc := "(I)Z" } : Jvm.MethodName)) ∈ lwG := lwG_2 (List.mem_of_getElem? (i := 223) rfl) rfl
theorem wd2_227 : (Cond.methodLink "GalleyRoom$Sheet" (43 : Nat) ({ cls := "GalleyRoom$Line", name := "measureUp", desc := "(LGalleyRoom$Galley;II)V" } : Jvm.MethodName)) ∈ lwG := lwG_2 (List.mem_of_getElem? (i := 227) rfl) rfl
theorem wd2_230 : (Cond.code ({ cls := "GalleyRoom$Line", name := "measureUp", desc := "(LGalleyRoom$Galley;II)V" } : Jvm.MethodName) prog_4_method_2_code (5 : Nat) (Option.none : Option Jvm.ClassFile.FieldType)) ∈ lwG := lwG_2 (List.mem_of_getElem? (i := 230) rfl) rfl
theorem wd2_228 : (Cond.instanceMethod ({ cls := "GalleyRoom$Line", name := "measureUp", desc := "(LGalleyRoom$Galley;II)V" } : Jvm.MethodName)) ∈ lwG := lwG_2 (List.mem_of_getElem? (i := 228) rfl) rfl
theorem wd2_229 : (Cond.selects "GalleyRoom$Line" ({ cls := "GalleyRoom$Line", name := "measureUp", desc := "(LGalleyRoom$Galley;II)V" } : Jvm.MethodName) ({ cls := "GalleyRoom$Line", name := "measureUp", desc := "(LGalleyRoom$Galley;II)V" } : Jvm.MethodName)) ∈ lwG := lwG_2 (List.mem_of_getElem? (i := 229) rfl) rfl
theorem wd2_235 : (Cond.methodLink "GalleyRoom$Sheet" (47 : Nat) ({ cls := "GalleyRoom$Galley", name := "lawInForce", desc := "()LGalleyRoom$Text;" } : Jvm.MethodName)) ∈ lwG := lwG_2 (List.mem_of_getElem? (i := 235) rfl) rfl
theorem wd2_238 : (Cond.code ({ cls := "GalleyRoom$Galley", name := "lawInForce", desc := "()LGalleyRoom$Text;" } : Jvm.MethodName) prog_3_method_15_code (1 : Nat) (Option.some (Jvm.ClassFile.FieldType.object "GalleyRoom$Text"))) ∈ lwG := lwG_2 (List.mem_of_getElem? (i := 238) rfl) rfl
theorem wd2_236 : (Cond.instanceMethod ({ cls := "GalleyRoom$Galley", name := "lawInForce", desc := "()LGalleyRoom$Text;" } : Jvm.MethodName)) ∈ lwG := lwG_2 (List.mem_of_getElem? (i := 236) rfl) rfl
theorem wd2_237 : (Cond.selects "GalleyRoom$Galley" ({ cls := "GalleyRoom$Galley", name := "lawInForce", desc := "()LGalleyRoom$Text;" } : Jvm.MethodName) ({ cls := "GalleyRoom$Galley", name := "lawInForce", desc := "()LGalleyRoom$Text;" } : Jvm.MethodName)) ∈ lwG := lwG_2 (List.mem_of_getElem? (i := 237) rfl) rfl
theorem wd1_49 : (Cond.fieldLink "GalleyRoom$Sheet" (51 : Nat) "GalleyRoom$Galley" "terms" "[I") ∈ lwG := lwG_1 (List.mem_of_getElem? (i := 49) rfl) rfl
theorem fl_7_51 : g_Fl RX7 51 1 3 := ⟨rfl, by decide, RX1, TX1, rfl, inX1, wd1_49⟩
theorem wd3_3 : (Cond.methodLink "GalleyRoom$Sheet" (54 : Nat) ({ cls := "GalleyRoom$Line", name := "judge", desc := "(LGalleyRoom$Galley;LGalleyRoom$Text;IIZ)V" } : Jvm.MethodName)) ∈ lwG := lwG_3 (List.mem_of_getElem? (i := 3) rfl) rfl
theorem wd3_6 : (Cond.code ({ cls := "GalleyRoom$Line", name := "judge", desc := "(LGalleyRoom$Galley;LGalleyRoom$Text;IIZ)V" } : Jvm.MethodName) prog_4_method_3_code (10 : Nat) (Option.none : Option Jvm.ClassFile.FieldType)) ∈ lwG := lwG_3 (List.mem_of_getElem? (i := 6) rfl) rfl
theorem wd3_4 : (Cond.instanceMethod ({ cls := "GalleyRoom$Line", name := "judge", desc := "(LGalleyRoom$Galley;LGalleyRoom$Text;IIZ)V" } : Jvm.MethodName)) ∈ lwG := lwG_3 (List.mem_of_getElem? (i := 4) rfl) rfl
theorem wd3_5 : (Cond.selects "GalleyRoom$Line" ({ cls := "GalleyRoom$Line", name := "judge", desc := "(LGalleyRoom$Galley;LGalleyRoom$Text;IIZ)V" } : Jvm.MethodName) ({ cls := "GalleyRoom$Line", name := "judge", desc := "(LGalleyRoom$Galley;LGalleyRoom$Text;IIZ)V" } : Jvm.MethodName)) ∈ lwG := lwG_3 (List.mem_of_getElem? (i := 5) rfl) rfl
theorem wd3_35 : (Cond.methodLink "GalleyRoom$Sheet" (58 : Nat) ({ cls := "GalleyRoom$Sheet", name := "writeDown", desc := "(I)V" } : Jvm.MethodName)) ∈ lwG := lwG_3 (List.mem_of_getElem? (i := 35) rfl) rfl
theorem wd3_38 : (Cond.code ({ cls := "GalleyRoom$Sheet", name := "writeDown", desc := "(I)V" } : Jvm.MethodName) prog_9_method_3_code (2 : Nat) (Option.none : Option Jvm.ClassFile.FieldType)) ∈ lwG := lwG_3 (List.mem_of_getElem? (i := 38) rfl) rfl
theorem wd1_5 : (Cond.initialized "GalleyRoom$Sheet") ∈ lwG := lwG_1 (List.mem_of_getElem? (i := 5) rfl) rfl
theorem wd3_37 : (Cond.instanceMethod ({ cls := "GalleyRoom$Sheet", name := "writeDown", desc := "(I)V" } : Jvm.MethodName)) ∈ lwG := lwG_3 (List.mem_of_getElem? (i := 37) rfl) rfl
theorem sel_GalleyRoom_Sheet_writeDown__I_V : Cond.selects "GalleyRoom$Sheet" ({ cls := "GalleyRoom$Sheet", name := "writeDown", desc := "(I)V" } : Jvm.MethodName) ({ cls := "GalleyRoom$Sheet", name := "writeDown", desc := "(I)V" } : Jvm.MethodName) ∈ lwG := lwG_mem (List.mem_append_left _ (List.mem_of_getElem? (i := 4) rfl)) rfl
theorem fp_7_30 : g_Fp RX7 30 7 4 .int := ⟨rfl, by decide, RX7, TX7, tyX7, rfl, inX7, wd1_198, tyX7_ok, nmX7, rfl, tyX7_ok 4 (by decide)⟩
theorem wd3_51 : (Cond.methodLink "GalleyRoom$Sheet" (84 : Nat) ({ cls := "GalleyRoom$Sheet", name := "tellOf", desc := "(II)I" } : Jvm.MethodName)) ∈ lwG := lwG_3 (List.mem_of_getElem? (i := 51) rfl) rfl
theorem wd3_42 : (Cond.code ({ cls := "GalleyRoom$Sheet", name := "tellOf", desc := "(II)I" } : Jvm.MethodName) prog_9_method_4_code (3 : Nat) (Option.some Jvm.ClassFile.FieldType.int)) ∈ lwG := lwG_3 (List.mem_of_getElem? (i := 42) rfl) rfl
theorem wd3_40 : (Cond.instanceMethod ({ cls := "GalleyRoom$Sheet", name := "tellOf", desc := "(II)I" } : Jvm.MethodName)) ∈ lwG := lwG_3 (List.mem_of_getElem? (i := 40) rfl) rfl
theorem wd3_41 : (Cond.selects "GalleyRoom$Sheet" ({ cls := "GalleyRoom$Sheet", name := "tellOf", desc := "(II)I" } : Jvm.MethodName) ({ cls := "GalleyRoom$Sheet", name := "tellOf", desc := "(II)I" } : Jvm.MethodName)) ∈ lwG := lwG_3 (List.mem_of_getElem? (i := 41) rfl) rfl
theorem wd4_48 : (Cond.methodLink "GalleyRoom$Desk" (121 : Nat) ({ cls := "GalleyRoom$Galley", name := "has", desc := "(I)Z" } : Jvm.MethodName)) ∈ lwG := lwG_4 (List.mem_of_getElem? (i := 48) rfl) rfl
theorem wd4_49 : (Cond.methodLink "GalleyRoom$Desk" (125 : Nat) ({ cls := "GalleyRoom$Galley", name := "endsAfter", desc := "(I)Z" } : Jvm.MethodName)) ∈ lwG := lwG_4 (List.mem_of_getElem? (i := 49) rfl) rfl
theorem wd4_50 : (Cond.methodLink "GalleyRoom$Desk" (128 : Nat) ({ cls := "GalleyRoom$Galley", name := "isSplit", desc := "(I)Z" } : Jvm.MethodName)) ∈ lwG := lwG_4 (List.mem_of_getElem? (i := 50) rfl) rfl
theorem wd1_223 : (Cond.fieldLink "GalleyRoom$Desk" (45 : Nat) "GalleyRoom$Desk" "facts" "[I") ∈ lwG := lwG_1 (List.mem_of_getElem? (i := 223) rfl) rfl
theorem fl_0_45 : g_Fl RX0 45 0 6 := ⟨rfl, by decide, RX0, TX0, rfl, inX0, wd1_223⟩
theorem wd4_44 : (Cond.methodLink "GalleyRoom$Desk" (118 : Nat) ({ cls := "GalleyRoom$Desk", name := "endsOf", desc := "(I)I" } : Jvm.MethodName)) ∈ lwG := lwG_4 (List.mem_of_getElem? (i := 44) rfl) rfl
theorem wd4_47 : (Cond.code ({ cls := "GalleyRoom$Desk", name := "endsOf", desc := "(I)I" } : Jvm.MethodName) prog_2_method_7_code (2 : Nat) (Option.some Jvm.ClassFile.FieldType.int)) ∈ lwG := lwG_4 (List.mem_of_getElem? (i := 47) rfl) rfl
theorem wd1_2 : (Cond.initialized "GalleyRoom$Desk") ∈ lwG := lwG_1 (List.mem_of_getElem? (i := 2) rfl) rfl
theorem wd4_46 : (Cond.instanceMethod ({ cls := "GalleyRoom$Desk", name := "endsOf", desc := "(I)I" } : Jvm.MethodName)) ∈ lwG := lwG_4 (List.mem_of_getElem? (i := 46) rfl) rfl
theorem sel_GalleyRoom_Desk_endsOf__I_I : Cond.selects "GalleyRoom$Desk" ({ cls := "GalleyRoom$Desk", name := "endsOf", desc := "(I)I" } : Jvm.MethodName) ({ cls := "GalleyRoom$Desk", name := "endsOf", desc := "(I)I" } : Jvm.MethodName) ∈ lwG := lwG_mem (List.mem_append_left _ (List.mem_of_getElem? (i := 27) rfl)) rfl
theorem wd1_52 : (Cond.fieldLink "GalleyRoom$Desk" (109 : Nat) "GalleyRoom$Galley" "terms" "[I") ∈ lwG := lwG_1 (List.mem_of_getElem? (i := 52) rfl) rfl
theorem fl_0_109 : g_Fl RX0 109 1 3 := ⟨rfl, by decide, RX1, TX1, rfl, inX1, wd1_52⟩
theorem fl_0_75 : g_Fl RX0 75 0 8 := ⟨rfl, by decide, RX0, TX0, rfl, inX0, wd1_225⟩
theorem fl_0_49 : g_Fl RX0 49 0 7 := ⟨rfl, by decide, RX0, TX0, rfl, inX0, wd1_224⟩
theorem wd1_218 : (Cond.fieldLink "GalleyRoom$Desk" (28 : Nat) "GalleyRoom$Desk" "sheet" "LGalleyRoom$Sheet;") ∈ lwG := lwG_1 (List.mem_of_getElem? (i := 218) rfl) rfl
theorem fl_0_28 : g_Fl RX0 28 0 2 := ⟨rfl, by decide, RX0, TX0, rfl, inX0, wd1_218⟩
theorem wd1_200 : (Cond.fieldLink "GalleyRoom$Desk" (112 : Nat) "GalleyRoom$Sheet" "lines" "I") ∈ lwG := lwG_1 (List.mem_of_getElem? (i := 200) rfl) rfl
theorem fl_0_112 : g_Fl RX0 112 7 4 := ⟨rfl, by decide, RX7, TX7, rfl, inX7, wd1_200⟩
theorem wd4_39 : (Cond.methodLink "GalleyRoom$Desk" (115 : Nat) ({ cls := "GalleyRoom$Sheet", name := "together", desc := "(I)I" } : Jvm.MethodName)) ∈ lwG := lwG_4 (List.mem_of_getElem? (i := 39) rfl) rfl
theorem wd3_50 : (Cond.code ({ cls := "GalleyRoom$Sheet", name := "together", desc := "(I)I" } : Jvm.MethodName) prog_9_method_5_code (4 : Nat) (Option.some Jvm.ClassFile.FieldType.int)) ∈ lwG := lwG_3 (List.mem_of_getElem? (i := 50) rfl) rfl
theorem wd3_48 : (Cond.instanceMethod ({ cls := "GalleyRoom$Sheet", name := "together", desc := "(I)I" } : Jvm.MethodName)) ∈ lwG := lwG_3 (List.mem_of_getElem? (i := 48) rfl) rfl
theorem wd3_49 : (Cond.selects "GalleyRoom$Sheet" ({ cls := "GalleyRoom$Sheet", name := "together", desc := "(I)I" } : Jvm.MethodName) ({ cls := "GalleyRoom$Sheet", name := "together", desc := "(I)I" } : Jvm.MethodName)) ∈ lwG := lwG_3 (List.mem_of_getElem? (i := 49) rfl) rfl
theorem wd2_26 : (Cond.fieldLink "GalleyRoom$Desk" (103 : Nat) "GalleyRoom$Text" "verb" "[I") ∈ lwG := lwG_2 (List.mem_of_getElem? (i := 26) rfl) rfl
theorem fl_0_103 : g_Fl RX0 103 8 0 := ⟨rfl, by decide, RX8, TX8, rfl, inX8, wd2_26⟩
theorem wd4_52 : (Cond.methodLink "GalleyRoom$Desk" (106 : Nat) ({ cls := "GalleyRoom$Desk", name := "attempt", desc := "(III)I" } : Jvm.MethodName)) ∈ lwG := lwG_4 (List.mem_of_getElem? (i := 52) rfl) rfl
theorem wd4_55 : (Cond.code ({ cls := "GalleyRoom$Desk", name := "attempt", desc := "(III)I" } : Jvm.MethodName) prog_2_method_2_code (5 : Nat) (Option.some Jvm.ClassFile.FieldType.int)) ∈ lwG := lwG_4 (List.mem_of_getElem? (i := 55) rfl) rfl
theorem wd4_53 : (Cond.instanceMethod ({ cls := "GalleyRoom$Desk", name := "attempt", desc := "(III)I" } : Jvm.MethodName)) ∈ lwG := lwG_4 (List.mem_of_getElem? (i := 53) rfl) rfl
theorem wd4_54 : (Cond.selects "GalleyRoom$Desk" ({ cls := "GalleyRoom$Desk", name := "attempt", desc := "(III)I" } : Jvm.MethodName) ({ cls := "GalleyRoom$Desk", name := "attempt", desc := "(III)I" } : Jvm.MethodName)) ∈ lwG := lwG_4 (List.mem_of_getElem? (i := 54) rfl) rfl
theorem wd2_36 : (Cond.fieldLink "GalleyRoom$Desk" (100 : Nat) "GalleyRoom$Text" "secondSum" "[I") ∈ lwG := lwG_2 (List.mem_of_getElem? (i := 36) rfl) rfl
theorem fl_0_100 : g_Fl RX0 100 8 3 := ⟨rfl, by decide, RX8, TX8, rfl, inX8, wd2_36⟩
theorem wd1_220 : (Cond.fieldLink "GalleyRoom$Desk" (35 : Nat) "GalleyRoom$Desk" "machine" "LGalleyRoom$Machine;") ∈ lwG := lwG_1 (List.mem_of_getElem? (i := 220) rfl) rfl
theorem fl_0_35 : g_Fl RX0 35 0 3 := ⟨rfl, by decide, RX0, TX0, rfl, inX0, wd1_220⟩
theorem wd4_51 : (Cond.methodLink "GalleyRoom$Desk" (89 : Nat) ({ cls := "GalleyRoom$Machine", name := "valueOf", desc := "(LGalleyRoom$Text;I[I)J" } : Jvm.MethodName)) ∈ lwG := lwG_4 (List.mem_of_getElem? (i := 51) rfl) rfl
theorem wd1_147 : (Cond.fieldLink "GalleyRoom$Desk" (96 : Nat) "GalleyRoom$Machine" "broken" "Z") ∈ lwG := lwG_1 (List.mem_of_getElem? (i := 147) rfl) rfl
theorem fl_0_96 : g_Fl RX0 96 4 1 := ⟨rfl, by decide, RX4, TX4, rfl, inX4, wd1_147⟩
theorem wd2_33 : (Cond.fieldLink "GalleyRoom$Desk" (93 : Nat) "GalleyRoom$Text" "firstSum" "[I") ∈ lwG := lwG_2 (List.mem_of_getElem? (i := 33) rfl) rfl
theorem fl_0_93 : g_Fl RX0 93 8 2 := ⟨rfl, by decide, RX8, TX8, rfl, inX8, wd2_33⟩
theorem wd4_34 : (Cond.methodLink "GalleyRoom$Desk" (78 : Nat) ({ cls := "GalleyRoom$Sheet", name := "readSetting", desc := "(LGalleyRoom$Galley;)V" } : Jvm.MethodName)) ∈ lwG := lwG_4 (List.mem_of_getElem? (i := 34) rfl) rfl
theorem wd2_220 : (Cond.code ({ cls := "GalleyRoom$Sheet", name := "readSetting", desc := "(LGalleyRoom$Galley;)V" } : Jvm.MethodName) prog_9_method_2_code (4 : Nat) (Option.none : Option Jvm.ClassFile.FieldType)) ∈ lwG := lwG_2 (List.mem_of_getElem? (i := 220) rfl) rfl
theorem wd2_218 : (Cond.instanceMethod ({ cls := "GalleyRoom$Sheet", name := "readSetting", desc := "(LGalleyRoom$Galley;)V" } : Jvm.MethodName)) ∈ lwG := lwG_2 (List.mem_of_getElem? (i := 218) rfl) rfl
theorem wd2_219 : (Cond.selects "GalleyRoom$Sheet" ({ cls := "GalleyRoom$Sheet", name := "readSetting", desc := "(LGalleyRoom$Galley;)V" } : Jvm.MethodName) ({ cls := "GalleyRoom$Sheet", name := "readSetting", desc := "(LGalleyRoom$Galley;)V" } : Jvm.MethodName)) ∈ lwG := lwG_2 (List.mem_of_getElem? (i := 219) rfl) rfl
theorem wd4_35 : (Cond.methodLink "GalleyRoom$Desk" (81 : Nat) ({ cls := "GalleyRoom$Desk", name := "gatherOrderFacts", desc := "()V" } : Jvm.MethodName)) ∈ lwG := lwG_4 (List.mem_of_getElem? (i := 35) rfl) rfl
theorem wd4_38 : (Cond.code ({ cls := "GalleyRoom$Desk", name := "gatherOrderFacts", desc := "()V" } : Jvm.MethodName) prog_2_method_6_code (2 : Nat) (Option.none : Option Jvm.ClassFile.FieldType)) ∈ lwG := lwG_4 (List.mem_of_getElem? (i := 38) rfl) rfl
theorem wd4_37 : (Cond.instanceMethod ({ cls := "GalleyRoom$Desk", name := "gatherOrderFacts", desc := "()V" } : Jvm.MethodName)) ∈ lwG := lwG_4 (List.mem_of_getElem? (i := 37) rfl) rfl
theorem sel_GalleyRoom_Desk_gatherOrderFacts___V : Cond.selects "GalleyRoom$Desk" ({ cls := "GalleyRoom$Desk", name := "gatherOrderFacts", desc := "()V" } : Jvm.MethodName) ({ cls := "GalleyRoom$Desk", name := "gatherOrderFacts", desc := "()V" } : Jvm.MethodName) ∈ lwG := lwG_mem (List.mem_append_left _ (List.mem_of_getElem? (i := 26) rfl)) rfl
theorem wd2_40 : (Cond.fieldLink "GalleyRoom$Desk" (84 : Nat) "GalleyRoom$Text" "test" "[I") ∈ lwG := lwG_2 (List.mem_of_getElem? (i := 40) rfl) rfl
theorem fl_0_84 : g_Fl RX0 84 8 4 := ⟨rfl, by decide, RX8, TX8, rfl, inX8, wd2_40⟩
theorem wd4_146 : (Cond.methodLink "GalleyRoom$Galley" (71 : Nat) ({ cls := "GalleyRoom$Galley", name := "canBeSplit", desc := "(I)Z" } : Jvm.MethodName)) ∈ lwG := lwG_4 (List.mem_of_getElem? (i := 146) rfl) rfl
theorem wd4_149 : (Cond.code ({ cls := "GalleyRoom$Galley", name := "canBeSplit", desc := "(I)Z" } : Jvm.MethodName) prog_3_method_5_code (2 : Nat) (Option.some Jvm.ClassFile.FieldType.boolean)) ∈ lwG := lwG_4 (List.mem_of_getElem? (i := 149) rfl) rfl
theorem wd4_147 : (Cond.instanceMethod ({ cls := "GalleyRoom$Galley", name := "canBeSplit", desc := "(I)Z" } : Jvm.MethodName)) ∈ lwG := lwG_4 (List.mem_of_getElem? (i := 147) rfl) rfl
theorem wd4_148 : (Cond.selects "GalleyRoom$Galley" ({ cls := "GalleyRoom$Galley", name := "canBeSplit", desc := "(I)Z" } : Jvm.MethodName) ({ cls := "GalleyRoom$Galley", name := "canBeSplit", desc := "(I)Z" } : Jvm.MethodName)) ∈ lwG := lwG_4 (List.mem_of_getElem? (i := 148) rfl) rfl
theorem wd1_51 : (Cond.fieldLink "GalleyRoom$Log" (34 : Nat) "GalleyRoom$Galley" "terms" "[I") ∈ lwG := lwG_1 (List.mem_of_getElem? (i := 51) rfl) rfl
theorem fl_3_34 : g_Fl RX3 34 1 3 := ⟨rfl, by decide, RX1, TX1, rfl, inX1, wd1_51⟩
theorem wd4_125 : (Cond.methodLink "GalleyRoom$Log" (39 : Nat) ({ cls := "GalleyRoom$Galley", name := "carryOutIfItCanBe", desc := "(III)V" } : Jvm.MethodName)) ∈ lwG := lwG_4 (List.mem_of_getElem? (i := 125) rfl) rfl
theorem wd2_106 : (Cond.fieldLink "GalleyRoom$Paper" (9 : Nat) "GalleyRoom$Paper" "costs" "[I") ∈ lwG := lwG_2 (List.mem_of_getElem? (i := 106) rfl) rfl
theorem fl_5_9 : g_Fl RX5 9 5 0 := ⟨rfl, by decide, RX5, TX5, rfl, inX5, wd2_106⟩
theorem wd2_108 : (Cond.fieldLink "GalleyRoom$Paper" (18 : Nat) "GalleyRoom$Paper" "ends" "[I") ∈ lwG := lwG_2 (List.mem_of_getElem? (i := 108) rfl) rfl
theorem fl_5_18 : g_Fl RX5 18 5 2 := ⟨rfl, by decide, RX5, TX5, rfl, inX5, wd2_108⟩
theorem wd2_107 : (Cond.fieldLink "GalleyRoom$Paper" (15 : Nat) "GalleyRoom$Paper" "pays" "[I") ∈ lwG := lwG_2 (List.mem_of_getElem? (i := 107) rfl) rfl
theorem fl_5_15 : g_Fl RX5 15 5 1 := ⟨rfl, by decide, RX5, TX5, rfl, inX5, wd2_107⟩
theorem wd2_110 : (Cond.fieldLink "GalleyRoom$Paper" (28 : Nat) "GalleyRoom$Paper" "line" "LGalleyRoom$Line;") ∈ lwG := lwG_2 (List.mem_of_getElem? (i := 110) rfl) rfl
theorem fl_5_28 : g_Fl RX5 28 5 4 := ⟨rfl, by decide, RX5, TX5, rfl, inX5, wd2_110⟩
theorem wd1_169 : (Cond.fieldLink "GalleyRoom$Paper" (91 : Nat) "GalleyRoom$Line" "pays" "I") ∈ lwG := lwG_1 (List.mem_of_getElem? (i := 169) rfl) rfl
theorem fl_5_91 : g_Fl RX5 91 2 6 := ⟨rfl, by decide, RX2, TX2, rfl, inX2, wd1_169⟩
theorem wd4_167 : (Cond.methodLink "GalleyRoom$Paper" (93 : Nat) ({ cls := "java/lang/Math", name := "max", desc := "(II)I" } : Jvm.MethodName)) ∈ lwG := lwG_4 (List.mem_of_getElem? (i := 167) rfl) rfl
theorem wd2_109 : (Cond.fieldLink "GalleyRoom$Paper" (21 : Nat) "GalleyRoom$Paper" "reached" "[J") ∈ lwG := lwG_2 (List.mem_of_getElem? (i := 109) rfl) rfl
theorem fl_5_21 : g_Fl RX5 21 5 3 := ⟨rfl, by decide, RX5, TX5, rfl, inX5, wd2_109⟩
theorem wd4_163 : (Cond.methodLink "GalleyRoom$Paper" (87 : Nat) ({ cls := "GalleyRoom$Paper", name := "isBetter", desc := "(III)Z" } : Jvm.MethodName)) ∈ lwG := lwG_4 (List.mem_of_getElem? (i := 163) rfl) rfl
theorem wd4_166 : (Cond.code ({ cls := "GalleyRoom$Paper", name := "isBetter", desc := "(III)Z" } : Jvm.MethodName) prog_7_method_5_code (5 : Nat) (Option.some Jvm.ClassFile.FieldType.boolean)) ∈ lwG := lwG_4 (List.mem_of_getElem? (i := 166) rfl) rfl
theorem wd1_11 : (Cond.initialized "GalleyRoom$Paper") ∈ lwG := lwG_1 (List.mem_of_getElem? (i := 11) rfl) rfl
theorem wd4_165 : (Cond.instanceMethod ({ cls := "GalleyRoom$Paper", name := "isBetter", desc := "(III)Z" } : Jvm.MethodName)) ∈ lwG := lwG_4 (List.mem_of_getElem? (i := 165) rfl) rfl
theorem sel_GalleyRoom_Paper_isBetter__III_Z : Cond.selects "GalleyRoom$Paper" ({ cls := "GalleyRoom$Paper", name := "isBetter", desc := "(III)Z" } : Jvm.MethodName) ({ cls := "GalleyRoom$Paper", name := "isBetter", desc := "(III)Z" } : Jvm.MethodName) ∈ lwG := lwG_mem (List.mem_append_left _ (List.mem_of_getElem? (i := 32) rfl)) rfl
theorem wd1_166 : (Cond.fieldLink "GalleyRoom$Paper" (85 : Nat) "GalleyRoom$Line" "costs" "I") ∈ lwG := lwG_1 (List.mem_of_getElem? (i := 166) rfl) rfl
theorem fl_5_85 : g_Fl RX5 85 2 5 := ⟨rfl, by decide, RX2, TX2, rfl, inX2, wd1_166⟩
theorem wd1_158 : (Cond.fieldLink "GalleyRoom$Paper" (66 : Nat) "GalleyRoom$Line" "to" "I") ∈ lwG := lwG_1 (List.mem_of_getElem? (i := 158) rfl) rfl
theorem fl_5_66 : g_Fl RX5 66 2 2 := ⟨rfl, by decide, RX2, TX2, rfl, inX2, wd1_158⟩
theorem wd4_158 : (Cond.methodLink "GalleyRoom$Paper" (75 : Nat) ({ cls := "GalleyRoom$Line", name := "judge", desc := "(LGalleyRoom$Galley;LGalleyRoom$Text;IIZ)V" } : Jvm.MethodName)) ∈ lwG := lwG_4 (List.mem_of_getElem? (i := 158) rfl) rfl
theorem wd1_172 : (Cond.fieldLink "GalleyRoom$Paper" (78 : Nat) "GalleyRoom$Line" "fits" "Z") ∈ lwG := lwG_1 (List.mem_of_getElem? (i := 172) rfl) rfl
theorem fl_5_78 : g_Fl RX5 78 2 8 := ⟨rfl, by decide, RX2, TX2, rfl, inX2, wd1_172⟩
theorem wd4_159 : (Cond.methodLink "GalleyRoom$Paper" (81 : Nat) ({ cls := "GalleyRoom$Paper", name := "join", desc := "(II)V" } : Jvm.MethodName)) ∈ lwG := lwG_4 (List.mem_of_getElem? (i := 159) rfl) rfl
theorem wd4_162 : (Cond.code ({ cls := "GalleyRoom$Paper", name := "join", desc := "(II)V" } : Jvm.MethodName) prog_7_method_4_code (7 : Nat) (Option.none : Option Jvm.ClassFile.FieldType)) ∈ lwG := lwG_4 (List.mem_of_getElem? (i := 162) rfl) rfl
theorem wd4_161 : (Cond.instanceMethod ({ cls := "GalleyRoom$Paper", name := "join", desc := "(II)V" } : Jvm.MethodName)) ∈ lwG := lwG_4 (List.mem_of_getElem? (i := 161) rfl) rfl
theorem sel_GalleyRoom_Paper_join__II_V : Cond.selects "GalleyRoom$Paper" ({ cls := "GalleyRoom$Paper", name := "join", desc := "(II)V" } : Jvm.MethodName) ({ cls := "GalleyRoom$Paper", name := "join", desc := "(II)V" } : Jvm.MethodName) ∈ lwG := lwG_mem (List.mem_append_left _ (List.mem_of_getElem? (i := 31) rfl)) rfl
theorem wd4_155 : (Cond.methodLink "GalleyRoom$Paper" (62 : Nat) ({ cls := "GalleyRoom$Paper", name := "slot", desc := "(II)I" } : Jvm.MethodName)) ∈ lwG := lwG_4 (List.mem_of_getElem? (i := 155) rfl) rfl
theorem wd4_157 : (Cond.code ({ cls := "GalleyRoom$Paper", name := "slot", desc := "(II)I" } : Jvm.MethodName) prog_7_method_6_code (2 : Nat) (Option.some Jvm.ClassFile.FieldType.int)) ∈ lwG := lwG_4 (List.mem_of_getElem? (i := 157) rfl) rfl
theorem wd4_156 : (Cond.static ({ cls := "GalleyRoom$Paper", name := "slot", desc := "(II)I" } : Jvm.MethodName)) ∈ lwG := lwG_4 (List.mem_of_getElem? (i := 156) rfl) rfl
theorem wd2_51 : (Cond.fieldLink "GalleyRoom$Paper" (69 : Nat) "GalleyRoom$Text" "asksLine" "Z") ∈ lwG := lwG_2 (List.mem_of_getElem? (i := 51) rfl) rfl
theorem fl_5_69 : g_Fl RX5 69 8 8 := ⟨rfl, by decide, RX8, TX8, rfl, inX8, wd2_51⟩
theorem wd2_111 : (Cond.fieldLink "GalleyRoom$Paper" (32 : Nat) "GalleyRoom$Paper" "lastPlace" "I") ∈ lwG := lwG_2 (List.mem_of_getElem? (i := 111) rfl) rfl
theorem fl_5_32 : g_Fl RX5 32 5 5 := ⟨rfl, by decide, RX5, TX5, rfl, inX5, wd2_111⟩
theorem wd4_142 : (Cond.methodLink "GalleyRoom$Paper" (47 : Nat) ({ cls := "GalleyRoom$Galley", name := "canEndAt", desc := "(I)Z" } : Jvm.MethodName)) ∈ lwG := lwG_4 (List.mem_of_getElem? (i := 142) rfl) rfl
theorem wd4_145 : (Cond.code ({ cls := "GalleyRoom$Galley", name := "canEndAt", desc := "(I)Z" } : Jvm.MethodName) prog_3_method_9_code (2 : Nat) (Option.some Jvm.ClassFile.FieldType.boolean)) ∈ lwG := lwG_4 (List.mem_of_getElem? (i := 145) rfl) rfl
theorem wd4_143 : (Cond.instanceMethod ({ cls := "GalleyRoom$Galley", name := "canEndAt", desc := "(I)Z" } : Jvm.MethodName)) ∈ lwG := lwG_4 (List.mem_of_getElem? (i := 143) rfl) rfl
theorem wd4_144 : (Cond.selects "GalleyRoom$Galley" ({ cls := "GalleyRoom$Galley", name := "canEndAt", desc := "(I)Z" } : Jvm.MethodName) ({ cls := "GalleyRoom$Galley", name := "canEndAt", desc := "(I)Z" } : Jvm.MethodName)) ∈ lwG := lwG_4 (List.mem_of_getElem? (i := 144) rfl) rfl
theorem wd4_150 : (Cond.methodLink "GalleyRoom$Paper" (51 : Nat) ({ cls := "GalleyRoom$Line", name := "measureUp", desc := "(LGalleyRoom$Galley;II)V" } : Jvm.MethodName)) ∈ lwG := lwG_4 (List.mem_of_getElem? (i := 150) rfl) rfl
theorem wd1_160 : (Cond.fieldLink "GalleyRoom$Paper" (55 : Nat) "GalleyRoom$Line" "width" "I") ∈ lwG := lwG_1 (List.mem_of_getElem? (i := 160) rfl) rfl
theorem fl_5_55 : g_Fl RX5 55 2 3 := ⟨rfl, by decide, RX2, TX2, rfl, inX2, wd1_160⟩
theorem wd4_151 : (Cond.methodLink "GalleyRoom$Paper" (58 : Nat) ({ cls := "GalleyRoom$Paper", name := "layLine", desc := "(LGalleyRoom$Galley;LGalleyRoom$Text;IIZ)V" } : Jvm.MethodName)) ∈ lwG := lwG_4 (List.mem_of_getElem? (i := 151) rfl) rfl
theorem wd4_154 : (Cond.code ({ cls := "GalleyRoom$Paper", name := "layLine", desc := "(LGalleyRoom$Galley;LGalleyRoom$Text;IIZ)V" } : Jvm.MethodName) prog_7_method_3_code (10 : Nat) (Option.none : Option Jvm.ClassFile.FieldType)) ∈ lwG := lwG_4 (List.mem_of_getElem? (i := 154) rfl) rfl
theorem wd4_153 : (Cond.instanceMethod ({ cls := "GalleyRoom$Paper", name := "layLine", desc := "(LGalleyRoom$Galley;LGalleyRoom$Text;IIZ)V" } : Jvm.MethodName)) ∈ lwG := lwG_4 (List.mem_of_getElem? (i := 153) rfl) rfl
theorem sel_GalleyRoom_Paper_layLine__LGalleyRoom_Galley_LGalleyRoom_Text_IIZ_V : Cond.selects "GalleyRoom$Paper" ({ cls := "GalleyRoom$Paper", name := "layLine", desc := "(LGalleyRoom$Galley;LGalleyRoom$Text;IIZ)V" } : Jvm.MethodName) ({ cls := "GalleyRoom$Paper", name := "layLine", desc := "(LGalleyRoom$Galley;LGalleyRoom$Text;IIZ)V" } : Jvm.MethodName) ∈ lwG := lwG_mem (List.mem_append_left _ (List.mem_of_getElem? (i := 30) rfl)) rfl
theorem wd4_139 : (Cond.methodLink "GalleyRoom$Paper" (36 : Nat) ({ cls := "java/util/Arrays", name := "fill", desc := "([JJ)V" } : Jvm.MethodName)) ∈ lwG := lwG_4 (List.mem_of_getElem? (i := 139) rfl) rfl
theorem wd1_64 : (Cond.fieldLink "GalleyRoom$Paper" (42 : Nat) "GalleyRoom$Galley" "words" "I") ∈ lwG := lwG_1 (List.mem_of_getElem? (i := 64) rfl) rfl
theorem fl_5_42 : g_Fl RX5 42 1 7 := ⟨rfl, by decide, RX1, TX1, rfl, inX1, wd1_64⟩
theorem fp_5_32 : g_Fp RX5 32 5 5 .int := ⟨rfl, by decide, RX5, TX5, tyX5, rfl, inX5, wd2_111, tyX5_ok, nmX5, rfl, tyX5_ok 5 (by decide)⟩
theorem wd4_224 : (Cond.methodLink "GalleyRoom$Paper" (98 : Nat) ({ cls := "GalleyRoom$Paper", name := "canBeOf", desc := "(I)Z" } : Jvm.MethodName)) ∈ lwG := lwG_4 (List.mem_of_getElem? (i := 224) rfl) rfl
theorem wd4_195 : (Cond.code ({ cls := "GalleyRoom$Paper", name := "canBeOf", desc := "(I)Z" } : Jvm.MethodName) prog_7_method_7_code (3 : Nat) (Option.some Jvm.ClassFile.FieldType.boolean)) ∈ lwG := lwG_4 (List.mem_of_getElem? (i := 195) rfl) rfl
theorem wd4_193 : (Cond.instanceMethod ({ cls := "GalleyRoom$Paper", name := "canBeOf", desc := "(I)Z" } : Jvm.MethodName)) ∈ lwG := lwG_4 (List.mem_of_getElem? (i := 193) rfl) rfl
theorem wd4_194 : (Cond.selects "GalleyRoom$Paper" ({ cls := "GalleyRoom$Paper", name := "canBeOf", desc := "(I)Z" } : Jvm.MethodName) ({ cls := "GalleyRoom$Paper", name := "canBeOf", desc := "(I)Z" } : Jvm.MethodName)) ∈ lwG := lwG_4 (List.mem_of_getElem? (i := 194) rfl) rfl
theorem wd4_172 : (Cond.methodLink "GalleyRoom$Paper" (101 : Nat) ({ cls := "GalleyRoom$Paper", name := "bestSlot", desc := "()I" } : Jvm.MethodName)) ∈ lwG := lwG_4 (List.mem_of_getElem? (i := 172) rfl) rfl
theorem wd4_175 : (Cond.code ({ cls := "GalleyRoom$Paper", name := "bestSlot", desc := "()I" } : Jvm.MethodName) prog_7_method_10_code (4 : Nat) (Option.some Jvm.ClassFile.FieldType.int)) ∈ lwG := lwG_4 (List.mem_of_getElem? (i := 175) rfl) rfl
theorem wd4_174 : (Cond.instanceMethod ({ cls := "GalleyRoom$Paper", name := "bestSlot", desc := "()I" } : Jvm.MethodName)) ∈ lwG := lwG_4 (List.mem_of_getElem? (i := 174) rfl) rfl
theorem sel_GalleyRoom_Paper_bestSlot___I : Cond.selects "GalleyRoom$Paper" ({ cls := "GalleyRoom$Paper", name := "bestSlot", desc := "()I" } : Jvm.MethodName) ({ cls := "GalleyRoom$Paper", name := "bestSlot", desc := "()I" } : Jvm.MethodName) ∈ lwG := lwG_mem (List.mem_append_left _ (List.mem_of_getElem? (i := 33) rfl)) rfl
theorem wd2_44 : (Cond.fieldLink "GalleyRoom$Text" (49 : Nat) "GalleyRoom$Text" "clauses" "I") ∈ lwG := lwG_2 (List.mem_of_getElem? (i := 44) rfl) rfl
theorem fp_8_49 : g_Fp RX8 49 8 6 .int := ⟨rfl, by decide, RX8, TX8, tyX8, rfl, inX8, wd2_44, tyX8_ok, nmX8, rfl, tyX8_ok 6 (by decide)⟩
theorem wd2_48 : (Cond.fieldLink "GalleyRoom$Text" (36 : Nat) "GalleyRoom$Text" "size" "I") ∈ lwG := lwG_2 (List.mem_of_getElem? (i := 48) rfl) rfl
theorem fp_8_36 : g_Fp RX8 36 8 7 .int := ⟨rfl, by decide, RX8, TX8, tyX8, rfl, inX8, wd2_48, tyX8_ok, nmX8, rfl, tyX8_ok 7 (by decide)⟩
theorem wd2_50 : (Cond.fieldLink "GalleyRoom$Text" (52 : Nat) "GalleyRoom$Text" "asksLine" "Z") ∈ lwG := lwG_2 (List.mem_of_getElem? (i := 50) rfl) rfl
theorem fp_8_52 : g_Fp RX8 52 8 8 .boolean := ⟨rfl, by decide, RX8, TX8, tyX8, rfl, inX8, wd2_50, tyX8_ok, nmX8, rfl, tyX8_ok 8 (by decide)⟩
theorem wd3_96 : (Cond.methodLink "GalleyRoom$Reader" (44 : Nat) ({ cls := "java/lang/Math", name := "min", desc := "(II)I" } : Jvm.MethodName)) ∈ lwG := lwG_3 (List.mem_of_getElem? (i := 96) rfl) rfl
theorem wd2_78 : (Cond.fieldLink "GalleyRoom$Reader" (35 : Nat) "GalleyRoom$Reader" "at" "I") ∈ lwG := lwG_2 (List.mem_of_getElem? (i := 78) rfl) rfl
theorem fl_6_35 : g_Fl RX6 35 6 3 := ⟨rfl, by decide, RX6, TX6, rfl, inX6, wd2_78⟩
theorem wd2_81 : (Cond.fieldLink "GalleyRoom$Reader" (27 : Nat) "GalleyRoom$Reader" "faultAt" "I") ∈ lwG := lwG_2 (List.mem_of_getElem? (i := 81) rfl) rfl
theorem fp_6_27 : g_Fp RX6 27 6 6 .int := ⟨rfl, by decide, RX6, TX6, tyX6, rfl, inX6, wd2_81, tyX6_ok, nmX6, rfl, tyX6_ok 6 (by decide)⟩
theorem wd2_77 : (Cond.fieldLink "GalleyRoom$Reader" (24 : Nat) "GalleyRoom$Reader" "places" "[I") ∈ lwG := lwG_2 (List.mem_of_getElem? (i := 77) rfl) rfl
theorem fl_6_24 : g_Fl RX6 24 6 2 := ⟨rfl, by decide, RX6, TX6, rfl, inX6, wd2_77⟩
theorem wd2_76 : (Cond.fieldLink "GalleyRoom$Reader" (20 : Nat) "GalleyRoom$Reader" "signs" "[I") ∈ lwG := lwG_2 (List.mem_of_getElem? (i := 76) rfl) rfl
theorem fl_6_20 : g_Fl RX6 20 6 1 := ⟨rfl, by decide, RX6, TX6, rfl, inX6, wd2_76⟩
theorem wd3_176 : (Cond.methodLink "GalleyRoom$Reader" (61 : Nat) ({ cls := "GalleyRoom$Reader", name := "sign", desc := "()I" } : Jvm.MethodName)) ∈ lwG := lwG_3 (List.mem_of_getElem? (i := 176) rfl) rfl
theorem wd3_179 : (Cond.code ({ cls := "GalleyRoom$Reader", name := "sign", desc := "()I" } : Jvm.MethodName) prog_8_method_7_code (1 : Nat) (Option.some Jvm.ClassFile.FieldType.int)) ∈ lwG := lwG_3 (List.mem_of_getElem? (i := 179) rfl) rfl
theorem wd1_8 : (Cond.initialized "GalleyRoom$Reader") ∈ lwG := lwG_1 (List.mem_of_getElem? (i := 8) rfl) rfl
theorem wd3_178 : (Cond.instanceMethod ({ cls := "GalleyRoom$Reader", name := "sign", desc := "()I" } : Jvm.MethodName)) ∈ lwG := lwG_3 (List.mem_of_getElem? (i := 178) rfl) rfl
theorem sel_GalleyRoom_Reader_sign___I : Cond.selects "GalleyRoom$Reader" ({ cls := "GalleyRoom$Reader", name := "sign", desc := "()I" } : Jvm.MethodName) ({ cls := "GalleyRoom$Reader", name := "sign", desc := "()I" } : Jvm.MethodName) ∈ lwG := lwG_mem (List.mem_append_left _ (List.mem_of_getElem? (i := 12) rfl)) rfl
theorem wd3_164 : (Cond.methodLink "GalleyRoom$Reader" (93 : Nat) ({ cls := "GalleyRoom$Reader", name := "failHere", desc := "()Z" } : Jvm.MethodName)) ∈ lwG := lwG_3 (List.mem_of_getElem? (i := 164) rfl) rfl
theorem wd3_167 : (Cond.code ({ cls := "GalleyRoom$Reader", name := "failHere", desc := "()Z" } : Jvm.MethodName) prog_8_method_8_code (1 : Nat) (Option.some Jvm.ClassFile.FieldType.boolean)) ∈ lwG := lwG_3 (List.mem_of_getElem? (i := 167) rfl) rfl
theorem wd3_166 : (Cond.instanceMethod ({ cls := "GalleyRoom$Reader", name := "failHere", desc := "()Z" } : Jvm.MethodName)) ∈ lwG := lwG_3 (List.mem_of_getElem? (i := 166) rfl) rfl
theorem sel_GalleyRoom_Reader_failHere___Z : Cond.selects "GalleyRoom$Reader" ({ cls := "GalleyRoom$Reader", name := "failHere", desc := "()Z" } : Jvm.MethodName) ({ cls := "GalleyRoom$Reader", name := "failHere", desc := "()Z" } : Jvm.MethodName) ∈ lwG := lwG_mem (List.mem_append_left _ (List.mem_of_getElem? (i := 9) rfl)) rfl
theorem fp_6_35 : g_Fp RX6 35 6 3 .int := ⟨rfl, by decide, RX6, TX6, tyX6, rfl, inX6, wd2_78, tyX6_ok, nmX6, rfl, tyX6_ok 3 (by decide)⟩
theorem fl_8_36 : g_Fl RX8 36 8 7 := ⟨rfl, by decide, RX8, TX8, rfl, inX8, wd2_48⟩
theorem wd2_42 : (Cond.fieldLink "GalleyRoom$Text" (33 : Nat) "GalleyRoom$Text" "code" "[I") ∈ lwG := lwG_2 (List.mem_of_getElem? (i := 42) rfl) rfl
theorem fl_8_33 : g_Fl RX8 33 8 5 := ⟨rfl, by decide, RX8, TX8, rfl, inX8, wd2_42⟩
theorem wd3_172 : (Cond.methodLink "GalleyRoom$Reader" (128 : Nat) ({ cls := "GalleyRoom$Reader", name := "takeFrom", desc := "(II)I" } : Jvm.MethodName)) ∈ lwG := lwG_3 (List.mem_of_getElem? (i := 172) rfl) rfl
theorem wd3_175 : (Cond.code ({ cls := "GalleyRoom$Reader", name := "takeFrom", desc := "(II)I" } : Jvm.MethodName) prog_8_method_11_code (4 : Nat) (Option.some Jvm.ClassFile.FieldType.int)) ∈ lwG := lwG_3 (List.mem_of_getElem? (i := 175) rfl) rfl
theorem wd3_174 : (Cond.instanceMethod ({ cls := "GalleyRoom$Reader", name := "takeFrom", desc := "(II)I" } : Jvm.MethodName)) ∈ lwG := lwG_3 (List.mem_of_getElem? (i := 174) rfl) rfl
theorem sel_GalleyRoom_Reader_takeFrom__II_I : Cond.selects "GalleyRoom$Reader" ({ cls := "GalleyRoom$Reader", name := "takeFrom", desc := "(II)I" } : Jvm.MethodName) ({ cls := "GalleyRoom$Reader", name := "takeFrom", desc := "(II)I" } : Jvm.MethodName) ∈ lwG := lwG_mem (List.mem_append_left _ (List.mem_of_getElem? (i := 11) rfl)) rfl
theorem wd2_74 : (Cond.fieldLink "GalleyRoom$Reader" (14 : Nat) "GalleyRoom$Reader" "draft" "LGalleyRoom$Text;") ∈ lwG := lwG_2 (List.mem_of_getElem? (i := 74) rfl) rfl
theorem fl_6_14 : g_Fl RX6 14 6 0 := ⟨rfl, by decide, RX6, TX6, rfl, inX6, wd2_74⟩
theorem wd2_52 : (Cond.fieldLink "GalleyRoom$Reader" (168 : Nat) "GalleyRoom$Text" "asksLine" "Z") ∈ lwG := lwG_2 (List.mem_of_getElem? (i := 52) rfl) rfl
theorem fl_6_168 : g_Fl RX6 168 8 8 := ⟨rfl, by decide, RX8, TX8, rfl, inX8, wd2_52⟩
theorem fp_6_168 : g_Fp RX6 168 8 8 .boolean := ⟨rfl, by decide, RX8, TX8, tyX8, rfl, inX8, wd2_52, tyX8_ok, nmX8, rfl, tyX8_ok 8 (by decide)⟩
theorem wd3_192 : (Cond.methodLink "GalleyRoom$Reader" (146 : Nat) ({ cls := "GalleyRoom$Reader", name := "readBracketed", desc := "(I)Z" } : Jvm.MethodName)) ∈ lwG := lwG_3 (List.mem_of_getElem? (i := 192) rfl) rfl
theorem wd3_195 : (Cond.code ({ cls := "GalleyRoom$Reader", name := "readBracketed", desc := "(I)Z" } : Jvm.MethodName) prog_8_method_18_code (2 : Nat) (Option.some Jvm.ClassFile.FieldType.boolean)) ∈ lwG := lwG_3 (List.mem_of_getElem? (i := 195) rfl) rfl
theorem wd3_194 : (Cond.instanceMethod ({ cls := "GalleyRoom$Reader", name := "readBracketed", desc := "(I)Z" } : Jvm.MethodName)) ∈ lwG := lwG_3 (List.mem_of_getElem? (i := 194) rfl) rfl
theorem sel_GalleyRoom_Reader_readBracketed__I_Z : Cond.selects "GalleyRoom$Reader" ({ cls := "GalleyRoom$Reader", name := "readBracketed", desc := "(I)Z" } : Jvm.MethodName) ({ cls := "GalleyRoom$Reader", name := "readBracketed", desc := "(I)Z" } : Jvm.MethodName) ∈ lwG := lwG_mem (List.mem_append_left _ (List.mem_of_getElem? (i := 16) rfl)) rfl
theorem wd2_79 : (Cond.fieldLink "GalleyRoom$Reader" (38 : Nat) "GalleyRoom$Reader" "parts" "I") ∈ lwG := lwG_2 (List.mem_of_getElem? (i := 79) rfl) rfl
theorem fl_6_38 : g_Fl RX6 38 6 4 := ⟨rfl, by decide, RX6, TX6, rfl, inX6, wd2_79⟩
theorem fp_6_38 : g_Fp RX6 38 6 4 .int := ⟨rfl, by decide, RX6, TX6, tyX6, rfl, inX6, wd2_79, tyX6_ok, nmX6, rfl, tyX6_ok 4 (by decide)⟩
theorem wd2_80 : (Cond.fieldLink "GalleyRoom$Reader" (31 : Nat) "GalleyRoom$Reader" "asOrders" "Z") ∈ lwG := lwG_2 (List.mem_of_getElem? (i := 80) rfl) rfl
theorem fl_6_31 : g_Fl RX6 31 6 5 := ⟨rfl, by decide, RX6, TX6, rfl, inX6, wd2_80⟩
theorem wd3_235 : (Cond.methodLink "GalleyRoom$Reader" (165 : Nat) ({ cls := "GalleyRoom$Reader", name := "takeLawFact", desc := "()I" } : Jvm.MethodName)) ∈ lwG := lwG_3 (List.mem_of_getElem? (i := 235) rfl) rfl
theorem wd3_238 : (Cond.code ({ cls := "GalleyRoom$Reader", name := "takeLawFact", desc := "()I" } : Jvm.MethodName) prog_8_method_24_code (2 : Nat) (Option.some Jvm.ClassFile.FieldType.int)) ∈ lwG := lwG_3 (List.mem_of_getElem? (i := 238) rfl) rfl
theorem wd3_237 : (Cond.instanceMethod ({ cls := "GalleyRoom$Reader", name := "takeLawFact", desc := "()I" } : Jvm.MethodName)) ∈ lwG := lwG_3 (List.mem_of_getElem? (i := 237) rfl) rfl
theorem sel_GalleyRoom_Reader_takeLawFact___I : Cond.selects "GalleyRoom$Reader" ({ cls := "GalleyRoom$Reader", name := "takeLawFact", desc := "()I" } : Jvm.MethodName) ({ cls := "GalleyRoom$Reader", name := "takeLawFact", desc := "()I" } : Jvm.MethodName) ∈ lwG := lwG_mem (List.mem_append_left _ (List.mem_of_getElem? (i := 24) rfl)) rfl
theorem wd3_219 : (Cond.methodLink "GalleyRoom$Reader" (121 : Nat) ({ cls := "GalleyRoom$Text", name := "emit", desc := "(II)V" } : Jvm.MethodName)) ∈ lwG := lwG_3 (List.mem_of_getElem? (i := 219) rfl) rfl
theorem wd3_222 : (Cond.code ({ cls := "GalleyRoom$Text", name := "emit", desc := "(II)V" } : Jvm.MethodName) prog_10_method_4_code (3 : Nat) (Option.none : Option Jvm.ClassFile.FieldType)) ∈ lwG := lwG_3 (List.mem_of_getElem? (i := 222) rfl) rfl
theorem wd1_9 : (Cond.initialized "GalleyRoom$Text") ∈ lwG := lwG_1 (List.mem_of_getElem? (i := 9) rfl) rfl
theorem wd3_220 : (Cond.instanceMethod ({ cls := "GalleyRoom$Text", name := "emit", desc := "(II)V" } : Jvm.MethodName)) ∈ lwG := lwG_3 (List.mem_of_getElem? (i := 220) rfl) rfl
theorem wd3_221 : (Cond.selects "GalleyRoom$Text" ({ cls := "GalleyRoom$Text", name := "emit", desc := "(II)V" } : Jvm.MethodName) ({ cls := "GalleyRoom$Text", name := "emit", desc := "(II)V" } : Jvm.MethodName)) ∈ lwG := lwG_3 (List.mem_of_getElem? (i := 221) rfl) rfl
theorem wd3_231 : (Cond.methodLink "GalleyRoom$Reader" (162 : Nat) ({ cls := "GalleyRoom$Reader", name := "takeOrderFact", desc := "()I" } : Jvm.MethodName)) ∈ lwG := lwG_3 (List.mem_of_getElem? (i := 231) rfl) rfl
theorem wd3_234 : (Cond.code ({ cls := "GalleyRoom$Reader", name := "takeOrderFact", desc := "()I" } : Jvm.MethodName) prog_8_method_25_code (3 : Nat) (Option.some Jvm.ClassFile.FieldType.int)) ∈ lwG := lwG_3 (List.mem_of_getElem? (i := 234) rfl) rfl
theorem wd3_233 : (Cond.instanceMethod ({ cls := "GalleyRoom$Reader", name := "takeOrderFact", desc := "()I" } : Jvm.MethodName)) ∈ lwG := lwG_3 (List.mem_of_getElem? (i := 233) rfl) rfl
theorem sel_GalleyRoom_Reader_takeOrderFact___I : Cond.selects "GalleyRoom$Reader" ({ cls := "GalleyRoom$Reader", name := "takeOrderFact", desc := "()I" } : Jvm.MethodName) ({ cls := "GalleyRoom$Reader", name := "takeOrderFact", desc := "()I" } : Jvm.MethodName) ∈ lwG := lwG_mem (List.mem_append_left _ (List.mem_of_getElem? (i := 23) rfl)) rfl
theorem wd3_216 : (Cond.methodLink "GalleyRoom$Reader" (152 : Nat) ({ cls := "GalleyRoom$Reader", name := "instructionOf", desc := "(I)I" } : Jvm.MethodName)) ∈ lwG := lwG_3 (List.mem_of_getElem? (i := 216) rfl) rfl
theorem wd3_218 : (Cond.code ({ cls := "GalleyRoom$Reader", name := "instructionOf", desc := "(I)I" } : Jvm.MethodName) prog_8_method_22_code (1 : Nat) (Option.some Jvm.ClassFile.FieldType.int)) ∈ lwG := lwG_3 (List.mem_of_getElem? (i := 218) rfl) rfl
theorem wd3_217 : (Cond.static ({ cls := "GalleyRoom$Reader", name := "instructionOf", desc := "(I)I" } : Jvm.MethodName)) ∈ lwG := lwG_3 (List.mem_of_getElem? (i := 217) rfl) rfl
theorem wd3_188 : (Cond.methodLink "GalleyRoom$Reader" (159 : Nat) ({ cls := "GalleyRoom$Reader", name := "readPart", desc := "(I)Z" } : Jvm.MethodName)) ∈ lwG := lwG_3 (List.mem_of_getElem? (i := 188) rfl) rfl
theorem wd3_191 : (Cond.code ({ cls := "GalleyRoom$Reader", name := "readPart", desc := "(I)Z" } : Jvm.MethodName) prog_8_method_23_code (3 : Nat) (Option.some Jvm.ClassFile.FieldType.boolean)) ∈ lwG := lwG_3 (List.mem_of_getElem? (i := 191) rfl) rfl
theorem wd3_190 : (Cond.instanceMethod ({ cls := "GalleyRoom$Reader", name := "readPart", desc := "(I)Z" } : Jvm.MethodName)) ∈ lwG := lwG_3 (List.mem_of_getElem? (i := 190) rfl) rfl
theorem sel_GalleyRoom_Reader_readPart__I_Z : Cond.selects "GalleyRoom$Reader" ({ cls := "GalleyRoom$Reader", name := "readPart", desc := "(I)Z" } : Jvm.MethodName) ({ cls := "GalleyRoom$Reader", name := "readPart", desc := "(I)Z" } : Jvm.MethodName) ∈ lwG := lwG_mem (List.mem_append_left _ (List.mem_of_getElem? (i := 15) rfl)) rfl
theorem wd3_184 : (Cond.methodLink "GalleyRoom$Reader" (156 : Nat) ({ cls := "GalleyRoom$Reader", name := "readTerm", desc := "(I)Z" } : Jvm.MethodName)) ∈ lwG := lwG_3 (List.mem_of_getElem? (i := 184) rfl) rfl
theorem wd3_187 : (Cond.code ({ cls := "GalleyRoom$Reader", name := "readTerm", desc := "(I)Z" } : Jvm.MethodName) prog_8_method_21_code (5 : Nat) (Option.some Jvm.ClassFile.FieldType.boolean)) ∈ lwG := lwG_3 (List.mem_of_getElem? (i := 187) rfl) rfl
theorem wd3_186 : (Cond.instanceMethod ({ cls := "GalleyRoom$Reader", name := "readTerm", desc := "(I)Z" } : Jvm.MethodName)) ∈ lwG := lwG_3 (List.mem_of_getElem? (i := 186) rfl) rfl
theorem sel_GalleyRoom_Reader_readTerm__I_Z : Cond.selects "GalleyRoom$Reader" ({ cls := "GalleyRoom$Reader", name := "readTerm", desc := "(I)Z" } : Jvm.MethodName) ({ cls := "GalleyRoom$Reader", name := "readTerm", desc := "(I)Z" } : Jvm.MethodName) ∈ lwG := lwG_mem (List.mem_append_left _ (List.mem_of_getElem? (i := 14) rfl)) rfl
theorem wd3_180 : (Cond.methodLink "GalleyRoom$Reader" (134 : Nat) ({ cls := "GalleyRoom$Reader", name := "readSum", desc := "(I)Z" } : Jvm.MethodName)) ∈ lwG := lwG_3 (List.mem_of_getElem? (i := 180) rfl) rfl
theorem wd3_183 : (Cond.code ({ cls := "GalleyRoom$Reader", name := "readSum", desc := "(I)Z" } : Jvm.MethodName) prog_8_method_20_code (5 : Nat) (Option.some Jvm.ClassFile.FieldType.boolean)) ∈ lwG := lwG_3 (List.mem_of_getElem? (i := 183) rfl) rfl
theorem wd3_182 : (Cond.instanceMethod ({ cls := "GalleyRoom$Reader", name := "readSum", desc := "(I)Z" } : Jvm.MethodName)) ∈ lwG := lwG_3 (List.mem_of_getElem? (i := 182) rfl) rfl
theorem sel_GalleyRoom_Reader_readSum__I_Z : Cond.selects "GalleyRoom$Reader" ({ cls := "GalleyRoom$Reader", name := "readSum", desc := "(I)Z" } : Jvm.MethodName) ({ cls := "GalleyRoom$Reader", name := "readSum", desc := "(I)Z" } : Jvm.MethodName) ∈ lwG := lwG_mem (List.mem_append_left _ (List.mem_of_getElem? (i := 13) rfl)) rfl
theorem wd3_212 : (Cond.methodLink "GalleyRoom$Reader" (149 : Nat) ({ cls := "GalleyRoom$Reader", name := "readComparison", desc := "(I)Z" } : Jvm.MethodName)) ∈ lwG := lwG_3 (List.mem_of_getElem? (i := 212) rfl) rfl
theorem wd3_215 : (Cond.code ({ cls := "GalleyRoom$Reader", name := "readComparison", desc := "(I)Z" } : Jvm.MethodName) prog_8_method_19_code (4 : Nat) (Option.some Jvm.ClassFile.FieldType.boolean)) ∈ lwG := lwG_3 (List.mem_of_getElem? (i := 215) rfl) rfl
theorem wd3_214 : (Cond.instanceMethod ({ cls := "GalleyRoom$Reader", name := "readComparison", desc := "(I)Z" } : Jvm.MethodName)) ∈ lwG := lwG_3 (List.mem_of_getElem? (i := 214) rfl) rfl
theorem sel_GalleyRoom_Reader_readComparison__I_Z : Cond.selects "GalleyRoom$Reader" ({ cls := "GalleyRoom$Reader", name := "readComparison", desc := "(I)Z" } : Jvm.MethodName) ({ cls := "GalleyRoom$Reader", name := "readComparison", desc := "(I)Z" } : Jvm.MethodName) ∈ lwG := lwG_mem (List.mem_append_left _ (List.mem_of_getElem? (i := 21) rfl)) rfl
theorem wd3_196 : (Cond.methodLink "GalleyRoom$Reader" (90 : Nat) ({ cls := "GalleyRoom$Reader", name := "take", desc := "(I)Z" } : Jvm.MethodName)) ∈ lwG := lwG_3 (List.mem_of_getElem? (i := 196) rfl) rfl
theorem wd3_199 : (Cond.code ({ cls := "GalleyRoom$Reader", name := "take", desc := "(I)Z" } : Jvm.MethodName) prog_8_method_9_code (2 : Nat) (Option.some Jvm.ClassFile.FieldType.boolean)) ∈ lwG := lwG_3 (List.mem_of_getElem? (i := 199) rfl) rfl
theorem wd3_198 : (Cond.instanceMethod ({ cls := "GalleyRoom$Reader", name := "take", desc := "(I)Z" } : Jvm.MethodName)) ∈ lwG := lwG_3 (List.mem_of_getElem? (i := 198) rfl) rfl
theorem sel_GalleyRoom_Reader_take__I_Z : Cond.selects "GalleyRoom$Reader" ({ cls := "GalleyRoom$Reader", name := "take", desc := "(I)Z" } : Jvm.MethodName) ({ cls := "GalleyRoom$Reader", name := "take", desc := "(I)Z" } : Jvm.MethodName) ∈ lwG := lwG_mem (List.mem_append_left _ (List.mem_of_getElem? (i := 17) rfl)) rfl
theorem wd2_49 : (Cond.fieldLink "GalleyRoom$Reader" (115 : Nat) "GalleyRoom$Text" "size" "I") ∈ lwG := lwG_2 (List.mem_of_getElem? (i := 49) rfl) rfl
theorem fl_6_115 : g_Fl RX6 115 8 7 := ⟨rfl, by decide, RX8, TX8, rfl, inX8, wd2_49⟩
theorem wd3_208 : (Cond.methodLink "GalleyRoom$Reader" (143 : Nat) ({ cls := "GalleyRoom$Reader", name := "readPlain", desc := "(I)Z" } : Jvm.MethodName)) ∈ lwG := lwG_3 (List.mem_of_getElem? (i := 208) rfl) rfl
theorem wd3_211 : (Cond.code ({ cls := "GalleyRoom$Reader", name := "readPlain", desc := "(I)Z" } : Jvm.MethodName) prog_8_method_17_code (4 : Nat) (Option.some Jvm.ClassFile.FieldType.boolean)) ∈ lwG := lwG_3 (List.mem_of_getElem? (i := 211) rfl) rfl
theorem wd3_210 : (Cond.instanceMethod ({ cls := "GalleyRoom$Reader", name := "readPlain", desc := "(I)Z" } : Jvm.MethodName)) ∈ lwG := lwG_3 (List.mem_of_getElem? (i := 210) rfl) rfl
theorem sel_GalleyRoom_Reader_readPlain__I_Z : Cond.selects "GalleyRoom$Reader" ({ cls := "GalleyRoom$Reader", name := "readPlain", desc := "(I)Z" } : Jvm.MethodName) ({ cls := "GalleyRoom$Reader", name := "readPlain", desc := "(I)Z" } : Jvm.MethodName) ∈ lwG := lwG_mem (List.mem_append_left _ (List.mem_of_getElem? (i := 20) rfl)) rfl
theorem wd3_223 : (Cond.methodLink "GalleyRoom$Reader" (140 : Nat) ({ cls := "GalleyRoom$Text", name := "aim", desc := "(I)V" } : Jvm.MethodName)) ∈ lwG := lwG_3 (List.mem_of_getElem? (i := 223) rfl) rfl
theorem wd3_226 : (Cond.code ({ cls := "GalleyRoom$Text", name := "aim", desc := "(I)V" } : Jvm.MethodName) prog_10_method_5_code (2 : Nat) (Option.none : Option Jvm.ClassFile.FieldType)) ∈ lwG := lwG_3 (List.mem_of_getElem? (i := 226) rfl) rfl
theorem wd3_224 : (Cond.instanceMethod ({ cls := "GalleyRoom$Text", name := "aim", desc := "(I)V" } : Jvm.MethodName)) ∈ lwG := lwG_3 (List.mem_of_getElem? (i := 224) rfl) rfl
theorem wd3_225 : (Cond.selects "GalleyRoom$Text" ({ cls := "GalleyRoom$Text", name := "aim", desc := "(I)V" } : Jvm.MethodName) ({ cls := "GalleyRoom$Text", name := "aim", desc := "(I)V" } : Jvm.MethodName)) ∈ lwG := lwG_3 (List.mem_of_getElem? (i := 225) rfl) rfl
theorem wd3_204 : (Cond.methodLink "GalleyRoom$Reader" (137 : Nat) ({ cls := "GalleyRoom$Reader", name := "readBoth", desc := "(I)Z" } : Jvm.MethodName)) ∈ lwG := lwG_3 (List.mem_of_getElem? (i := 204) rfl) rfl
theorem wd3_207 : (Cond.code ({ cls := "GalleyRoom$Reader", name := "readBoth", desc := "(I)Z" } : Jvm.MethodName) prog_8_method_16_code (5 : Nat) (Option.some Jvm.ClassFile.FieldType.boolean)) ∈ lwG := lwG_3 (List.mem_of_getElem? (i := 207) rfl) rfl
theorem wd3_206 : (Cond.instanceMethod ({ cls := "GalleyRoom$Reader", name := "readBoth", desc := "(I)Z" } : Jvm.MethodName)) ∈ lwG := lwG_3 (List.mem_of_getElem? (i := 206) rfl) rfl
theorem sel_GalleyRoom_Reader_readBoth__I_Z : Cond.selects "GalleyRoom$Reader" ({ cls := "GalleyRoom$Reader", name := "readBoth", desc := "(I)Z" } : Jvm.MethodName) ({ cls := "GalleyRoom$Reader", name := "readBoth", desc := "(I)Z" } : Jvm.MethodName) ∈ lwG := lwG_mem (List.mem_append_left _ (List.mem_of_getElem? (i := 19) rfl)) rfl
theorem wd3_227 : (Cond.methodLink "GalleyRoom$Reader" (65 : Nat) ({ cls := "GalleyRoom$Reader", name := "takeOrFail", desc := "(I)Z" } : Jvm.MethodName)) ∈ lwG := lwG_3 (List.mem_of_getElem? (i := 227) rfl) rfl
theorem wd3_230 : (Cond.code ({ cls := "GalleyRoom$Reader", name := "takeOrFail", desc := "(I)Z" } : Jvm.MethodName) prog_8_method_10_code (2 : Nat) (Option.some Jvm.ClassFile.FieldType.boolean)) ∈ lwG := lwG_3 (List.mem_of_getElem? (i := 230) rfl) rfl
theorem wd3_229 : (Cond.instanceMethod ({ cls := "GalleyRoom$Reader", name := "takeOrFail", desc := "(I)Z" } : Jvm.MethodName)) ∈ lwG := lwG_3 (List.mem_of_getElem? (i := 229) rfl) rfl
theorem sel_GalleyRoom_Reader_takeOrFail__I_Z : Cond.selects "GalleyRoom$Reader" ({ cls := "GalleyRoom$Reader", name := "takeOrFail", desc := "(I)Z" } : Jvm.MethodName) ({ cls := "GalleyRoom$Reader", name := "takeOrFail", desc := "(I)Z" } : Jvm.MethodName) ∈ lwG := lwG_mem (List.mem_append_left _ (List.mem_of_getElem? (i := 22) rfl)) rfl
theorem wd3_200 : (Cond.methodLink "GalleyRoom$Reader" (118 : Nat) ({ cls := "GalleyRoom$Reader", name := "readTest", desc := "(I)Z" } : Jvm.MethodName)) ∈ lwG := lwG_3 (List.mem_of_getElem? (i := 200) rfl) rfl
theorem wd3_203 : (Cond.code ({ cls := "GalleyRoom$Reader", name := "readTest", desc := "(I)Z" } : Jvm.MethodName) prog_8_method_15_code (5 : Nat) (Option.some Jvm.ClassFile.FieldType.boolean)) ∈ lwG := lwG_3 (List.mem_of_getElem? (i := 203) rfl) rfl
theorem wd3_202 : (Cond.instanceMethod ({ cls := "GalleyRoom$Reader", name := "readTest", desc := "(I)Z" } : Jvm.MethodName)) ∈ lwG := lwG_3 (List.mem_of_getElem? (i := 202) rfl) rfl
theorem sel_GalleyRoom_Reader_readTest__I_Z : Cond.selects "GalleyRoom$Reader" ({ cls := "GalleyRoom$Reader", name := "readTest", desc := "(I)Z" } : Jvm.MethodName) ({ cls := "GalleyRoom$Reader", name := "readTest", desc := "(I)Z" } : Jvm.MethodName) ∈ lwG := lwG_mem (List.mem_append_left _ (List.mem_of_getElem? (i := 18) rfl)) rfl
theorem wd2_29 : (Cond.fieldLink "GalleyRoom$Reader" (97 : Nat) "GalleyRoom$Text" "times" "[I") ∈ lwG := lwG_2 (List.mem_of_getElem? (i := 29) rfl) rfl
theorem fl_6_97 : g_Fl RX6 97 8 1 := ⟨rfl, by decide, RX8, TX8, rfl, inX8, wd2_29⟩
theorem wd2_37 : (Cond.fieldLink "GalleyRoom$Reader" (103 : Nat) "GalleyRoom$Text" "secondSum" "[I") ∈ lwG := lwG_2 (List.mem_of_getElem? (i := 37) rfl) rfl
theorem fl_6_103 : g_Fl RX6 103 8 3 := ⟨rfl, by decide, RX8, TX8, rfl, inX8, wd2_37⟩
theorem wd2_27 : (Cond.fieldLink "GalleyRoom$Reader" (131 : Nat) "GalleyRoom$Text" "verb" "[I") ∈ lwG := lwG_2 (List.mem_of_getElem? (i := 27) rfl) rfl
theorem fl_6_131 : g_Fl RX6 131 8 0 := ⟨rfl, by decide, RX8, TX8, rfl, inX8, wd2_27⟩
theorem wd2_34 : (Cond.fieldLink "GalleyRoom$Reader" (100 : Nat) "GalleyRoom$Text" "firstSum" "[I") ∈ lwG := lwG_2 (List.mem_of_getElem? (i := 34) rfl) rfl
theorem fl_6_100 : g_Fl RX6 100 8 2 := ⟨rfl, by decide, RX8, TX8, rfl, inX8, wd2_34⟩
theorem wd2_47 : (Cond.fieldLink "GalleyRoom$Reader" (125 : Nat) "GalleyRoom$Text" "clauses" "I") ∈ lwG := lwG_2 (List.mem_of_getElem? (i := 47) rfl) rfl
theorem fp_6_125 : g_Fp RX6 125 8 6 .int := ⟨rfl, by decide, RX8, TX8, tyX8, rfl, inX8, wd2_47, tyX8_ok, nmX8, rfl, tyX8_ok 6 (by decide)⟩
theorem wd2_41 : (Cond.fieldLink "GalleyRoom$Reader" (106 : Nat) "GalleyRoom$Text" "test" "[I") ∈ lwG := lwG_2 (List.mem_of_getElem? (i := 41) rfl) rfl
theorem fl_6_106 : g_Fl RX6 106 8 4 := ⟨rfl, by decide, RX8, TX8, rfl, inX8, wd2_41⟩
theorem wd3_239 : (Cond.methodLink "GalleyRoom$Reader" (112 : Nat) ({ cls := "GalleyRoom$Reader", name := "readRule", desc := "(I)Z" } : Jvm.MethodName)) ∈ lwG := lwG_3 (List.mem_of_getElem? (i := 239) rfl) rfl
theorem wd4_2 : (Cond.code ({ cls := "GalleyRoom$Reader", name := "readRule", desc := "(I)Z" } : Jvm.MethodName) prog_8_method_13_code (4 : Nat) (Option.some Jvm.ClassFile.FieldType.boolean)) ∈ lwG := lwG_4 (List.mem_of_getElem? (i := 2) rfl) rfl
theorem wd4_1 : (Cond.instanceMethod ({ cls := "GalleyRoom$Reader", name := "readRule", desc := "(I)Z" } : Jvm.MethodName)) ∈ lwG := lwG_4 (List.mem_of_getElem? (i := 1) rfl) rfl
theorem sel_GalleyRoom_Reader_readRule__I_Z : Cond.selects "GalleyRoom$Reader" ({ cls := "GalleyRoom$Reader", name := "readRule", desc := "(I)Z" } : Jvm.MethodName) ({ cls := "GalleyRoom$Reader", name := "readRule", desc := "(I)Z" } : Jvm.MethodName) ∈ lwG := lwG_mem (List.mem_append_left _ (List.mem_of_getElem? (i := 25) rfl)) rfl
theorem wd3_168 : (Cond.methodLink "GalleyRoom$Reader" (109 : Nat) ({ cls := "GalleyRoom$Reader", name := "readOrder", desc := "(I)Z" } : Jvm.MethodName)) ∈ lwG := lwG_3 (List.mem_of_getElem? (i := 168) rfl) rfl
theorem wd3_171 : (Cond.code ({ cls := "GalleyRoom$Reader", name := "readOrder", desc := "(I)Z" } : Jvm.MethodName) prog_8_method_14_code (4 : Nat) (Option.some Jvm.ClassFile.FieldType.boolean)) ∈ lwG := lwG_3 (List.mem_of_getElem? (i := 171) rfl) rfl
theorem wd3_170 : (Cond.instanceMethod ({ cls := "GalleyRoom$Reader", name := "readOrder", desc := "(I)Z" } : Jvm.MethodName)) ∈ lwG := lwG_3 (List.mem_of_getElem? (i := 170) rfl) rfl
theorem sel_GalleyRoom_Reader_readOrder__I_Z : Cond.selects "GalleyRoom$Reader" ({ cls := "GalleyRoom$Reader", name := "readOrder", desc := "(I)Z" } : Jvm.MethodName) ({ cls := "GalleyRoom$Reader", name := "readOrder", desc := "(I)Z" } : Jvm.MethodName) ∈ lwG := lwG_mem (List.mem_append_left _ (List.mem_of_getElem? (i := 10) rfl)) rfl
theorem wd4_115 : (Cond.methodLink "GalleyRoom$Sheet" (88 : Nat) ({ cls := "GalleyRoom$Sheet", name := "readSetting", desc := "(LGalleyRoom$Galley;)V" } : Jvm.MethodName)) ∈ lwG := lwG_4 (List.mem_of_getElem? (i := 115) rfl) rfl
theorem wd4_116 : (Cond.methodLink "GalleyRoom$Sheet" (92 : Nat) ({ cls := "GalleyRoom$Sheet", name := "together", desc := "(I)I" } : Jvm.MethodName)) ∈ lwG := lwG_4 (List.mem_of_getElem? (i := 116) rfl) rfl
theorem wd1_70 : (Cond.fieldLink "GalleyRoom$Sheet" (100 : Nat) "GalleyRoom$Galley" "seen" "I") ∈ lwG := lwG_1 (List.mem_of_getElem? (i := 70) rfl) rfl
theorem fl_7_100 : g_Fl RX7 100 1 10 := ⟨rfl, by decide, RX1, TX1, rfl, inX1, wd1_70⟩
theorem wd1_55 : (Cond.fieldLink "GalleyRoom$Sheet" (103 : Nat) "GalleyRoom$Galley" "seenFact" "[I") ∈ lwG := lwG_1 (List.mem_of_getElem? (i := 55) rfl) rfl
theorem fl_7_103 : g_Fl RX7 103 1 4 := ⟨rfl, by decide, RX1, TX1, rfl, inX1, wd1_55⟩
theorem wd5_33 : (Cond.methodLink "GalleyRoom$Sheet" (106 : Nat) ({ cls := "GalleyRoom$Sheet", name := "tellFact", desc := "(II)I" } : Jvm.MethodName)) ∈ lwG := lwG_5 (List.mem_of_getElem? (i := 33) rfl) rfl
theorem wd5_36 : (Cond.code ({ cls := "GalleyRoom$Sheet", name := "tellFact", desc := "(II)I" } : Jvm.MethodName) prog_9_method_9_code (3 : Nat) (Option.some Jvm.ClassFile.FieldType.int)) ∈ lwG := lwG_5 (List.mem_of_getElem? (i := 36) rfl) rfl
theorem wd5_35 : (Cond.instanceMethod ({ cls := "GalleyRoom$Sheet", name := "tellFact", desc := "(II)I" } : Jvm.MethodName)) ∈ lwG := lwG_5 (List.mem_of_getElem? (i := 35) rfl) rfl
theorem sel_GalleyRoom_Sheet_tellFact__II_I : Cond.selects "GalleyRoom$Sheet" ({ cls := "GalleyRoom$Sheet", name := "tellFact", desc := "(II)I" } : Jvm.MethodName) ({ cls := "GalleyRoom$Sheet", name := "tellFact", desc := "(II)I" } : Jvm.MethodName) ∈ lwG := lwG_mem (List.mem_append_left _ (List.mem_of_getElem? (i := 36) rfl)) rfl
theorem wd1_58 : (Cond.fieldLink "GalleyRoom$Sheet" (109 : Nat) "GalleyRoom$Galley" "seenNumber" "[I") ∈ lwG := lwG_1 (List.mem_of_getElem? (i := 58) rfl) rfl
theorem fl_7_109 : g_Fl RX7 109 1 5 := ⟨rfl, by decide, RX1, TX1, rfl, inX1, wd1_58⟩
theorem wd5_29 : (Cond.methodLink "GalleyRoom$Sheet" (96 : Nat) ({ cls := "GalleyRoom$Sheet", name := "isAsSeen", desc := "(LGalleyRoom$Galley;I)Z" } : Jvm.MethodName)) ∈ lwG := lwG_5 (List.mem_of_getElem? (i := 29) rfl) rfl
theorem wd5_32 : (Cond.code ({ cls := "GalleyRoom$Sheet", name := "isAsSeen", desc := "(LGalleyRoom$Galley;I)Z" } : Jvm.MethodName) prog_9_method_8_code (4 : Nat) (Option.some Jvm.ClassFile.FieldType.boolean)) ∈ lwG := lwG_5 (List.mem_of_getElem? (i := 32) rfl) rfl
theorem wd5_31 : (Cond.instanceMethod ({ cls := "GalleyRoom$Sheet", name := "isAsSeen", desc := "(LGalleyRoom$Galley;I)Z" } : Jvm.MethodName)) ∈ lwG := lwG_5 (List.mem_of_getElem? (i := 31) rfl) rfl
theorem sel_GalleyRoom_Sheet_isAsSeen__LGalleyRoom_Galley_I_Z : Cond.selects "GalleyRoom$Sheet" ({ cls := "GalleyRoom$Sheet", name := "isAsSeen", desc := "(LGalleyRoom$Galley;I)Z" } : Jvm.MethodName) ({ cls := "GalleyRoom$Sheet", name := "isAsSeen", desc := "(LGalleyRoom$Galley;I)Z" } : Jvm.MethodName) ∈ lwG := lwG_mem (List.mem_append_left _ (List.mem_of_getElem? (i := 35) rfl)) rfl
theorem wd5_10 : (Cond.methodLink "GalleyRoom$Sheet" (115 : Nat) ({ cls := "java/lang/Math", name := "max", desc := "(II)I" } : Jvm.MethodName)) ∈ lwG := lwG_5 (List.mem_of_getElem? (i := 10) rfl) rfl
theorem wd5_9 : (Cond.methodLink "GalleyRoom$Sheet" (130 : Nat) ({ cls := "GalleyRoom$Galley", name := "pieceOf", desc := "(III)I" } : Jvm.MethodName)) ∈ lwG := lwG_5 (List.mem_of_getElem? (i := 9) rfl) rfl
theorem wd1_195 : (Cond.fieldLink "GalleyRoom$Sheet" (16 : Nat) "GalleyRoom$Sheet" "above" "[I") ∈ lwG := lwG_1 (List.mem_of_getElem? (i := 195) rfl) rfl
theorem fl_7_16 : g_Fl RX7 16 7 1 := ⟨rfl, by decide, RX7, TX7, rfl, inX7, wd1_195⟩
theorem wd1_196 : (Cond.fieldLink "GalleyRoom$Sheet" (20 : Nat) "GalleyRoom$Sheet" "below" "[I") ∈ lwG := lwG_1 (List.mem_of_getElem? (i := 196) rfl) rfl
theorem fl_7_20 : g_Fl RX7 20 7 2 := ⟨rfl, by decide, RX7, TX7, rfl, inX7, wd1_196⟩
theorem wd5_2 : (Cond.methodLink "GalleyRoom$Sheet" (120 : Nat) ({ cls := "java/util/Arrays", name := "fill", desc := "([II)V" } : Jvm.MethodName)) ∈ lwG := lwG_5 (List.mem_of_getElem? (i := 2) rfl) rfl
theorem wd5_5 : (Cond.methodLink "GalleyRoom$Sheet" (126 : Nat) ({ cls := "GalleyRoom$Sheet", name := "flowThrough", desc := "(LGalleyRoom$Galley;II)I" } : Jvm.MethodName)) ∈ lwG := lwG_5 (List.mem_of_getElem? (i := 5) rfl) rfl
theorem wd5_8 : (Cond.code ({ cls := "GalleyRoom$Sheet", name := "flowThrough", desc := "(LGalleyRoom$Galley;II)I" } : Jvm.MethodName) prog_9_method_12_code (7 : Nat) (Option.some Jvm.ClassFile.FieldType.int)) ∈ lwG := lwG_5 (List.mem_of_getElem? (i := 8) rfl) rfl
theorem wd5_7 : (Cond.instanceMethod ({ cls := "GalleyRoom$Sheet", name := "flowThrough", desc := "(LGalleyRoom$Galley;II)I" } : Jvm.MethodName)) ∈ lwG := lwG_5 (List.mem_of_getElem? (i := 7) rfl) rfl
theorem sel_GalleyRoom_Sheet_flowThrough__LGalleyRoom_Galley_II_I : Cond.selects "GalleyRoom$Sheet" ({ cls := "GalleyRoom$Sheet", name := "flowThrough", desc := "(LGalleyRoom$Galley;II)I" } : Jvm.MethodName) ({ cls := "GalleyRoom$Sheet", name := "flowThrough", desc := "(LGalleyRoom$Galley;II)I" } : Jvm.MethodName) ∈ lwG := lwG_mem (List.mem_append_left _ (List.mem_of_getElem? (i := 34) rfl)) rfl
theorem fp_7_16 : g_Fp RX7 16 7 1 (.array .int) := ⟨rfl, by decide, RX7, TX7, tyX7, rfl, inX7, wd1_195, tyX7_ok, nmX7, rfl, tyX7_ok 1 (by decide)⟩
theorem fp_7_20 : g_Fp RX7 20 7 2 (.array .int) := ⟨rfl, by decide, RX7, TX7, tyX7, rfl, inX7, wd1_196, tyX7_ok, nmX7, rfl, tyX7_ok 2 (by decide)⟩
theorem wd2_137 : (Cond.fieldLink "GalleyRoom" (72 : Nat) "GalleyRoom" "refusals" "[I") ∈ lwG := lwG_2 (List.mem_of_getElem? (i := 137) rfl) rfl
theorem fl_9_72 : g_Fl RX9 72 9 12 := ⟨rfl, by decide, RX9, TX9, rfl, inX9, wd2_137⟩
theorem wd2_141 : (Cond.fieldLink "GalleyRoom" (312 : Nat) "GalleyRoom" "latestRefusal" "I") ∈ lwG := lwG_2 (List.mem_of_getElem? (i := 141) rfl) rfl
theorem fp_9_312 : g_Fp RX9 312 9 16 .int := ⟨rfl, by decide, RX9, TX9, tyX9, rfl, inX9, wd2_141, tyX9_ok, nmX9, rfl, tyX9_ok 16 (by decide)⟩
theorem wd2_181 : (Cond.methodLink "GalleyRoom" (80 : Nat) ({ cls := "GalleyRoom", name := "canBeWord", desc := "(III)Z" } : Jvm.MethodName)) ∈ lwG := lwG_2 (List.mem_of_getElem? (i := 181) rfl) rfl
theorem wd2_183 : (Cond.code ({ cls := "GalleyRoom", name := "canBeWord", desc := "(III)Z" } : Jvm.MethodName) prog_1_method_44_code (3 : Nat) (Option.some Jvm.ClassFile.FieldType.boolean)) ∈ lwG := lwG_2 (List.mem_of_getElem? (i := 183) rfl) rfl
theorem wd2_182 : (Cond.static ({ cls := "GalleyRoom", name := "canBeWord", desc := "(III)Z" } : Jvm.MethodName)) ∈ lwG := lwG_2 (List.mem_of_getElem? (i := 182) rfl) rfl
theorem wd2_184 : (Cond.methodLink "GalleyRoom" (84 : Nat) ({ cls := "GalleyRoom", name := "refuse", desc := "(I)I" } : Jvm.MethodName)) ∈ lwG := lwG_2 (List.mem_of_getElem? (i := 184) rfl) rfl
theorem wd2_187 : (Cond.code ({ cls := "GalleyRoom", name := "refuse", desc := "(I)I" } : Jvm.MethodName) prog_1_method_43_code (3 : Nat) (Option.some Jvm.ClassFile.FieldType.int)) ∈ lwG := lwG_2 (List.mem_of_getElem? (i := 187) rfl) rfl
theorem wd2_186 : (Cond.instanceMethod ({ cls := "GalleyRoom", name := "refuse", desc := "(I)I" } : Jvm.MethodName)) ∈ lwG := lwG_2 (List.mem_of_getElem? (i := 186) rfl) rfl
theorem sel_GalleyRoom_refuse__I_I : Cond.selects "GalleyRoom" ({ cls := "GalleyRoom", name := "refuse", desc := "(I)I" } : Jvm.MethodName) ({ cls := "GalleyRoom", name := "refuse", desc := "(I)I" } : Jvm.MethodName) ∈ lwG := lwG_mem (List.mem_append_left _ (List.mem_of_getElem? (i := 0) rfl)) rfl
theorem wd2_126 : (Cond.fieldLink "GalleyRoom" (20 : Nat) "GalleyRoom" "now" "LGalleyRoom$Galley;") ∈ lwG := lwG_2 (List.mem_of_getElem? (i := 126) rfl) rfl
theorem fl_9_20 : g_Fl RX9 20 9 1 := ⟨rfl, by decide, RX9, TX9, rfl, inX9, wd2_126⟩
theorem wd1_63 : (Cond.fieldLink "GalleyRoom" (88 : Nat) "GalleyRoom$Galley" "words" "I") ∈ lwG := lwG_1 (List.mem_of_getElem? (i := 63) rfl) rfl
theorem fl_9_88 : g_Fl RX9 88 1 7 := ⟨rfl, by decide, RX1, TX1, rfl, inX1, wd1_63⟩
theorem wd2_188 : (Cond.methodLink "GalleyRoom" (91 : Nat) ({ cls := "GalleyRoom$Galley", name := "addWord", desc := "(III)V" } : Jvm.MethodName)) ∈ lwG := lwG_2 (List.mem_of_getElem? (i := 188) rfl) rfl
theorem wd2_191 : (Cond.code ({ cls := "GalleyRoom$Galley", name := "addWord", desc := "(III)V" } : Jvm.MethodName) prog_3_method_11_code (4 : Nat) (Option.none : Option Jvm.ClassFile.FieldType)) ∈ lwG := lwG_2 (List.mem_of_getElem? (i := 191) rfl) rfl
theorem wd2_189 : (Cond.instanceMethod ({ cls := "GalleyRoom$Galley", name := "addWord", desc := "(III)V" } : Jvm.MethodName)) ∈ lwG := lwG_2 (List.mem_of_getElem? (i := 189) rfl) rfl
theorem wd2_190 : (Cond.selects "GalleyRoom$Galley" ({ cls := "GalleyRoom$Galley", name := "addWord", desc := "(III)V" } : Jvm.MethodName) ({ cls := "GalleyRoom$Galley", name := "addWord", desc := "(III)V" } : Jvm.MethodName)) ∈ lwG := lwG_2 (List.mem_of_getElem? (i := 190) rfl) rfl
theorem wd2_133 : (Cond.fieldLink "GalleyRoom" (55 : Nat) "GalleyRoom" "log" "LGalleyRoom$Log;") ∈ lwG := lwG_2 (List.mem_of_getElem? (i := 133) rfl) rfl
theorem fl_9_55 : g_Fl RX9 55 9 8 := ⟨rfl, by decide, RX9, TX9, rfl, inX9, wd2_133⟩
theorem wd1_114 : (Cond.fieldLink "GalleyRoom" (95 : Nat) "GalleyRoom$Log" "held" "I") ∈ lwG := lwG_1 (List.mem_of_getElem? (i := 114) rfl) rfl
theorem fp_9_95 : g_Fp RX9 95 3 3 .int := ⟨rfl, by decide, RX3, TX3, tyX3, rfl, inX3, wd1_114, tyX3_ok, nmX3, rfl, tyX3_ok 3 (by decide)⟩
theorem wd2_192 : (Cond.methodLink "GalleyRoom" (100 : Nat) ({ cls := "GalleyRoom", name := "answer", desc := "(I)I" } : Jvm.MethodName)) ∈ lwG := lwG_2 (List.mem_of_getElem? (i := 192) rfl) rfl
theorem wd2_195 : (Cond.code ({ cls := "GalleyRoom", name := "answer", desc := "(I)I" } : Jvm.MethodName) prog_1_method_42_code (2 : Nat) (Option.some Jvm.ClassFile.FieldType.int)) ∈ lwG := lwG_2 (List.mem_of_getElem? (i := 195) rfl) rfl
theorem wd2_194 : (Cond.instanceMethod ({ cls := "GalleyRoom", name := "answer", desc := "(I)I" } : Jvm.MethodName)) ∈ lwG := lwG_2 (List.mem_of_getElem? (i := 194) rfl) rfl
theorem sel_GalleyRoom_answer__I_I : Cond.selects "GalleyRoom" ({ cls := "GalleyRoom", name := "answer", desc := "(I)I" } : Jvm.MethodName) ({ cls := "GalleyRoom", name := "answer", desc := "(I)I" } : Jvm.MethodName) ∈ lwG := lwG_mem (List.mem_append_left _ (List.mem_of_getElem? (i := 1) rfl)) rfl
theorem wd2_200 : (Cond.methodLink "GalleyRoom" (103 : Nat) ({ cls := "GalleyRoom$Galley", name := "has", desc := "(I)Z" } : Jvm.MethodName)) ∈ lwG := lwG_2 (List.mem_of_getElem? (i := 200) rfl) rfl
theorem wd1_42 : (Cond.fieldLink "GalleyRoom" (107 : Nat) "GalleyRoom$Galley" "wide" "[I") ∈ lwG := lwG_1 (List.mem_of_getElem? (i := 42) rfl) rfl
theorem fl_9_107 : g_Fl RX9 107 1 0 := ⟨rfl, by decide, RX1, TX1, rfl, inX1, wd1_42⟩
theorem wd1_44 : (Cond.fieldLink "GalleyRoom" (110 : Nat) "GalleyRoom$Galley" "splits" "[I") ∈ lwG := lwG_1 (List.mem_of_getElem? (i := 44) rfl) rfl
theorem fl_9_110 : g_Fl RX9 110 1 1 := ⟨rfl, by decide, RX1, TX1, rfl, inX1, wd1_44⟩
theorem wd1_46 : (Cond.fieldLink "GalleyRoom" (113 : Nat) "GalleyRoom$Galley" "kind" "[I") ∈ lwG := lwG_1 (List.mem_of_getElem? (i := 46) rfl) rfl
theorem fl_9_113 : g_Fl RX9 113 1 2 := ⟨rfl, by decide, RX1, TX1, rfl, inX1, wd1_46⟩
theorem wd2_204 : (Cond.methodLink "GalleyRoom" (116 : Nat) ({ cls := "GalleyRoom$Galley", name := "endsAfter", desc := "(I)Z" } : Jvm.MethodName)) ∈ lwG := lwG_2 (List.mem_of_getElem? (i := 204) rfl) rfl
theorem wd2_209 : (Cond.methodLink "GalleyRoom" (119 : Nat) ({ cls := "GalleyRoom$Galley", name := "isSplit", desc := "(I)Z" } : Jvm.MethodName)) ∈ lwG := lwG_2 (List.mem_of_getElem? (i := 209) rfl) rfl
theorem wd2_134 : (Cond.fieldLink "GalleyRoom" (60 : Nat) "GalleyRoom" "sheet" "LGalleyRoom$Sheet;") ∈ lwG := lwG_2 (List.mem_of_getElem? (i := 134) rfl) rfl
theorem fl_9_60 : g_Fl RX9 60 9 9 := ⟨rfl, by decide, RX9, TX9, rfl, inX9, wd2_134⟩
theorem wd2_217 : (Cond.methodLink "GalleyRoom" (122 : Nat) ({ cls := "GalleyRoom$Sheet", name := "readSetting", desc := "(LGalleyRoom$Galley;)V" } : Jvm.MethodName)) ∈ lwG := lwG_2 (List.mem_of_getElem? (i := 217) rfl) rfl
theorem wd1_199 : (Cond.fieldLink "GalleyRoom" (128 : Nat) "GalleyRoom$Sheet" "lines" "I") ∈ lwG := lwG_1 (List.mem_of_getElem? (i := 199) rfl) rfl
theorem fl_9_128 : g_Fl RX9 128 7 4 := ⟨rfl, by decide, RX7, TX7, rfl, inX7, wd1_199⟩
theorem wd3_39 : (Cond.methodLink "GalleyRoom" (131 : Nat) ({ cls := "GalleyRoom$Sheet", name := "tellOf", desc := "(II)I" } : Jvm.MethodName)) ∈ lwG := lwG_3 (List.mem_of_getElem? (i := 39) rfl) rfl
theorem wd3_47 : (Cond.methodLink "GalleyRoom" (135 : Nat) ({ cls := "GalleyRoom$Sheet", name := "together", desc := "(I)I" } : Jvm.MethodName)) ∈ lwG := lwG_3 (List.mem_of_getElem? (i := 47) rfl) rfl
theorem wd3_56 : (Cond.fieldLink "GalleyRoom" (138 : Nat) "GalleyRoom" "LEAST_TERM" "[I") ∈ lwG := lwG_3 (List.mem_of_getElem? (i := 56) rfl) rfl
theorem wd3_58 : (Cond.fieldLink "GalleyRoom" (141 : Nat) "GalleyRoom" "MOST_TERM" "[I") ∈ lwG := lwG_3 (List.mem_of_getElem? (i := 58) rfl) rfl
theorem wd1_53 : (Cond.fieldLink "GalleyRoom" (144 : Nat) "GalleyRoom$Galley" "terms" "[I") ∈ lwG := lwG_1 (List.mem_of_getElem? (i := 53) rfl) rfl
theorem fl_9_144 : g_Fl RX9 144 1 3 := ⟨rfl, by decide, RX1, TX1, rfl, inX1, wd1_53⟩
theorem wd2_138 : (Cond.fieldLink "GalleyRoom" (147 : Nat) "GalleyRoom" "tapeBytes" "I") ∈ lwG := lwG_2 (List.mem_of_getElem? (i := 138) rfl) rfl
theorem fl_9_147 : g_Fl RX9 147 9 13 := ⟨rfl, by decide, RX9, TX9, rfl, inX9, wd2_138⟩
theorem wd2_131 : (Cond.fieldLink "GalleyRoom" (40 : Nat) "GalleyRoom" "tape" "[B") ∈ lwG := lwG_2 (List.mem_of_getElem? (i := 131) rfl) rfl
theorem fl_9_40 : g_Fl RX9 40 9 6 := ⟨rfl, by decide, RX9, TX9, rfl, inX9, wd2_131⟩
theorem fp_9_147 : g_Fp RX9 147 9 13 .int := ⟨rfl, by decide, RX9, TX9, tyX9, rfl, inX9, wd2_138, tyX9_ok, nmX9, rfl, tyX9_ok 13 (by decide)⟩
theorem wd3_64 : (Cond.methodLink "GalleyRoom" (150 : Nat) ({ cls := "GalleyRoom", name := "putFour", desc := "(I)V" } : Jvm.MethodName)) ∈ lwG := lwG_3 (List.mem_of_getElem? (i := 64) rfl) rfl
theorem wd3_67 : (Cond.code ({ cls := "GalleyRoom", name := "putFour", desc := "(I)V" } : Jvm.MethodName) prog_1_method_45_code (3 : Nat) (Option.none : Option Jvm.ClassFile.FieldType)) ∈ lwG := lwG_3 (List.mem_of_getElem? (i := 67) rfl) rfl
theorem wd3_66 : (Cond.instanceMethod ({ cls := "GalleyRoom", name := "putFour", desc := "(I)V" } : Jvm.MethodName)) ∈ lwG := lwG_3 (List.mem_of_getElem? (i := 66) rfl) rfl
theorem sel_GalleyRoom_putFour__I_V : Cond.selects "GalleyRoom" ({ cls := "GalleyRoom", name := "putFour", desc := "(I)V" } : Jvm.MethodName) ({ cls := "GalleyRoom", name := "putFour", desc := "(I)V" } : Jvm.MethodName) ∈ lwG := lwG_mem (List.mem_append_left _ (List.mem_of_getElem? (i := 5) rfl)) rfl
theorem wd3_76 : (Cond.methodLink "GalleyRoom" (157 : Nat) ({ cls := "GalleyRoom", name := "takeWordAt", desc := "(I)Z" } : Jvm.MethodName)) ∈ lwG := lwG_3 (List.mem_of_getElem? (i := 76) rfl) rfl
theorem wd3_79 : (Cond.code ({ cls := "GalleyRoom", name := "takeWordAt", desc := "(I)Z" } : Jvm.MethodName) prog_1_method_46_code (5 : Nat) (Option.some Jvm.ClassFile.FieldType.boolean)) ∈ lwG := lwG_3 (List.mem_of_getElem? (i := 79) rfl) rfl
theorem wd3_78 : (Cond.instanceMethod ({ cls := "GalleyRoom", name := "takeWordAt", desc := "(I)Z" } : Jvm.MethodName)) ∈ lwG := lwG_3 (List.mem_of_getElem? (i := 78) rfl) rfl
theorem sel_GalleyRoom_takeWordAt__I_Z : Cond.selects "GalleyRoom" ({ cls := "GalleyRoom", name := "takeWordAt", desc := "(I)Z" } : Jvm.MethodName) ({ cls := "GalleyRoom", name := "takeWordAt", desc := "(I)Z" } : Jvm.MethodName) ∈ lwG := lwG_mem (List.mem_append_left _ (List.mem_of_getElem? (i := 6) rfl)) rfl
theorem wd2_139 : (Cond.fieldLink "GalleyRoom" (154 : Nat) "GalleyRoom" "turnedCount" "I") ∈ lwG := lwG_2 (List.mem_of_getElem? (i := 139) rfl) rfl
theorem fl_9_154 : g_Fl RX9 154 9 14 := ⟨rfl, by decide, RX9, TX9, rfl, inX9, wd2_139⟩
theorem fp_9_154 : g_Fp RX9 154 9 14 .int := ⟨rfl, by decide, RX9, TX9, tyX9, rfl, inX9, wd2_139, tyX9_ok, nmX9, rfl, tyX9_ok 14 (by decide)⟩
theorem wd2_132 : (Cond.fieldLink "GalleyRoom" (47 : Nat) "GalleyRoom" "reader" "LGalleyRoom$Reader;") ∈ lwG := lwG_2 (List.mem_of_getElem? (i := 132) rfl) rfl
theorem fl_9_47 : g_Fl RX9 47 9 7 := ⟨rfl, by decide, RX9, TX9, rfl, inX9, wd2_132⟩
theorem wd2_82 : (Cond.fieldLink "GalleyRoom" (167 : Nat) "GalleyRoom$Reader" "faultAt" "I") ∈ lwG := lwG_2 (List.mem_of_getElem? (i := 82) rfl) rfl
theorem fl_9_167 : g_Fl RX9 167 6 6 := ⟨rfl, by decide, RX6, TX6, rfl, inX6, wd2_82⟩
theorem wd2_140 : (Cond.fieldLink "GalleyRoom" (76 : Nat) "GalleyRoom" "stoppedClause" "I") ∈ lwG := lwG_2 (List.mem_of_getElem? (i := 140) rfl) rfl
theorem fl_9_76 : g_Fl RX9 76 9 15 := ⟨rfl, by decide, RX9, TX9, rfl, inX9, wd2_140⟩
theorem wd4_89 : (Cond.methodLink "GalleyRoom" (203 : Nat) ({ cls := "GalleyRoom$Galley", name := "canForce", desc := "(I)Z" } : Jvm.MethodName)) ∈ lwG := lwG_4 (List.mem_of_getElem? (i := 89) rfl) rfl
theorem wd4_92 : (Cond.code ({ cls := "GalleyRoom$Galley", name := "canForce", desc := "(I)Z" } : Jvm.MethodName) prog_3_method_13_code (2 : Nat) (Option.some Jvm.ClassFile.FieldType.boolean)) ∈ lwG := lwG_4 (List.mem_of_getElem? (i := 92) rfl) rfl
theorem wd4_90 : (Cond.instanceMethod ({ cls := "GalleyRoom$Galley", name := "canForce", desc := "(I)Z" } : Jvm.MethodName)) ∈ lwG := lwG_4 (List.mem_of_getElem? (i := 90) rfl) rfl
theorem wd4_91 : (Cond.selects "GalleyRoom$Galley" ({ cls := "GalleyRoom$Galley", name := "canForce", desc := "(I)Z" } : Jvm.MethodName) ({ cls := "GalleyRoom$Galley", name := "canForce", desc := "(I)Z" } : Jvm.MethodName)) ∈ lwG := lwG_4 (List.mem_of_getElem? (i := 91) rfl) rfl
theorem wd1_75 : (Cond.fieldLink "GalleyRoom" (206 : Nat) "GalleyRoom$Galley" "force" "I") ∈ lwG := lwG_1 (List.mem_of_getElem? (i := 75) rfl) rfl
theorem fl_9_206 : g_Fl RX9 206 1 12 := ⟨rfl, by decide, RX1, TX1, rfl, inX1, wd1_75⟩
theorem fp_9_206 : g_Fp RX9 206 1 12 .int := ⟨rfl, by decide, RX1, TX1, tyX1, rfl, inX1, wd1_75, tyX1_ok, nmX1, rfl, tyX1_ok 12 (by decide)⟩
theorem wd2_125 : (Cond.fieldLink "GalleyRoom" (10 : Nat) "GalleyRoom" "desk" "LGalleyRoom$Desk;") ∈ lwG := lwG_2 (List.mem_of_getElem? (i := 125) rfl) rfl
theorem fl_9_10 : g_Fl RX9 10 9 0 := ⟨rfl, by decide, RX9, TX9, rfl, inX9, wd2_125⟩
theorem wd4_97 : (Cond.methodLink "GalleyRoom" (209 : Nat) ({ cls := "GalleyRoom$Desk", name := "attempt", desc := "(III)I" } : Jvm.MethodName)) ∈ lwG := lwG_4 (List.mem_of_getElem? (i := 97) rfl) rfl
theorem wd4_106 : (Cond.methodLink "GalleyRoom" (213 : Nat) ({ cls := "GalleyRoom$Galley", name := "wideOf", desc := "(I)I" } : Jvm.MethodName)) ∈ lwG := lwG_4 (List.mem_of_getElem? (i := 106) rfl) rfl
theorem wd4_111 : (Cond.methodLink "GalleyRoom" (216 : Nat) ({ cls := "GalleyRoom$Sheet", name := "howManyFit", desc := "(LGalleyRoom$Galley;)I" } : Jvm.MethodName)) ∈ lwG := lwG_4 (List.mem_of_getElem? (i := 111) rfl) rfl
theorem wd4_114 : (Cond.code ({ cls := "GalleyRoom$Sheet", name := "howManyFit", desc := "(LGalleyRoom$Galley;)I" } : Jvm.MethodName) prog_9_method_6_code (2 : Nat) (Option.some Jvm.ClassFile.FieldType.int)) ∈ lwG := lwG_4 (List.mem_of_getElem? (i := 114) rfl) rfl
theorem wd4_112 : (Cond.instanceMethod ({ cls := "GalleyRoom$Sheet", name := "howManyFit", desc := "(LGalleyRoom$Galley;)I" } : Jvm.MethodName)) ∈ lwG := lwG_4 (List.mem_of_getElem? (i := 112) rfl) rfl
theorem wd4_113 : (Cond.selects "GalleyRoom$Sheet" ({ cls := "GalleyRoom$Sheet", name := "howManyFit", desc := "(LGalleyRoom$Galley;)I" } : Jvm.MethodName) ({ cls := "GalleyRoom$Sheet", name := "howManyFit", desc := "(LGalleyRoom$Galley;)I" } : Jvm.MethodName)) ∈ lwG := lwG_4 (List.mem_of_getElem? (i := 113) rfl) rfl
theorem wd4_121 : (Cond.methodLink "GalleyRoom" (220 : Nat) ({ cls := "GalleyRoom$Log", name := "takeBack", desc := "(LGalleyRoom$Galley;)I" } : Jvm.MethodName)) ∈ lwG := lwG_4 (List.mem_of_getElem? (i := 121) rfl) rfl
theorem wd4_124 : (Cond.code ({ cls := "GalleyRoom$Log", name := "takeBack", desc := "(LGalleyRoom$Galley;)I" } : Jvm.MethodName) prog_5_method_5_code (2 : Nat) (Option.some Jvm.ClassFile.FieldType.int)) ∈ lwG := lwG_4 (List.mem_of_getElem? (i := 124) rfl) rfl
theorem wd4_122 : (Cond.instanceMethod ({ cls := "GalleyRoom$Log", name := "takeBack", desc := "(LGalleyRoom$Galley;)I" } : Jvm.MethodName)) ∈ lwG := lwG_4 (List.mem_of_getElem? (i := 122) rfl) rfl
theorem wd4_123 : (Cond.selects "GalleyRoom$Log" ({ cls := "GalleyRoom$Log", name := "takeBack", desc := "(LGalleyRoom$Galley;)I" } : Jvm.MethodName) ({ cls := "GalleyRoom$Log", name := "takeBack", desc := "(LGalleyRoom$Galley;)I" } : Jvm.MethodName)) ∈ lwG := lwG_4 (List.mem_of_getElem? (i := 123) rfl) rfl
theorem wd2_135 : (Cond.fieldLink "GalleyRoom" (64 : Nat) "GalleyRoom" "paper" "LGalleyRoom$Paper;") ∈ lwG := lwG_2 (List.mem_of_getElem? (i := 135) rfl) rfl
theorem fl_9_64 : g_Fl RX9 64 9 10 := ⟨rfl, by decide, RX9, TX9, rfl, inX9, wd2_135⟩
theorem wd4_135 : (Cond.methodLink "GalleyRoom" (250 : Nat) ({ cls := "GalleyRoom$Paper", name := "layOut", desc := "(LGalleyRoom$Galley;LGalleyRoom$Text;IZ)V" } : Jvm.MethodName)) ∈ lwG := lwG_4 (List.mem_of_getElem? (i := 135) rfl) rfl
theorem wd4_138 : (Cond.code ({ cls := "GalleyRoom$Paper", name := "layOut", desc := "(LGalleyRoom$Galley;LGalleyRoom$Text;IZ)V" } : Jvm.MethodName) prog_7_method_2_code (7 : Nat) (Option.none : Option Jvm.ClassFile.FieldType)) ∈ lwG := lwG_4 (List.mem_of_getElem? (i := 138) rfl) rfl
theorem wd4_136 : (Cond.instanceMethod ({ cls := "GalleyRoom$Paper", name := "layOut", desc := "(LGalleyRoom$Galley;LGalleyRoom$Text;IZ)V" } : Jvm.MethodName)) ∈ lwG := lwG_4 (List.mem_of_getElem? (i := 136) rfl) rfl
theorem wd4_137 : (Cond.selects "GalleyRoom$Paper" ({ cls := "GalleyRoom$Paper", name := "layOut", desc := "(LGalleyRoom$Galley;LGalleyRoom$Text;IZ)V" } : Jvm.MethodName) ({ cls := "GalleyRoom$Paper", name := "layOut", desc := "(LGalleyRoom$Galley;LGalleyRoom$Text;IZ)V" } : Jvm.MethodName)) ∈ lwG := lwG_4 (List.mem_of_getElem? (i := 137) rfl) rfl
theorem wd4_130 : (Cond.methodLink "GalleyRoom" (223 : Nat) ({ cls := "GalleyRoom$Galley", name := "lawInForce", desc := "()LGalleyRoom$Text;" } : Jvm.MethodName)) ∈ lwG := lwG_4 (List.mem_of_getElem? (i := 130) rfl) rfl
theorem wd4_131 : (Cond.methodLink "GalleyRoom" (226 : Nat) ({ cls := "GalleyRoom", name := "layPaper", desc := "(LGalleyRoom$Galley;LGalleyRoom$Text;)V" } : Jvm.MethodName)) ∈ lwG := lwG_4 (List.mem_of_getElem? (i := 131) rfl) rfl
theorem wd4_134 : (Cond.code ({ cls := "GalleyRoom", name := "layPaper", desc := "(LGalleyRoom$Galley;LGalleyRoom$Text;)V" } : Jvm.MethodName) prog_1_method_47_code (3 : Nat) (Option.none : Option Jvm.ClassFile.FieldType)) ∈ lwG := lwG_4 (List.mem_of_getElem? (i := 134) rfl) rfl
theorem wd4_133 : (Cond.instanceMethod ({ cls := "GalleyRoom", name := "layPaper", desc := "(LGalleyRoom$Galley;LGalleyRoom$Text;)V" } : Jvm.MethodName)) ∈ lwG := lwG_4 (List.mem_of_getElem? (i := 133) rfl) rfl
theorem sel_GalleyRoom_layPaper__LGalleyRoom_Galley_LGalleyRoom_Text__V : Cond.selects "GalleyRoom" ({ cls := "GalleyRoom", name := "layPaper", desc := "(LGalleyRoom$Galley;LGalleyRoom$Text;)V" } : Jvm.MethodName) ({ cls := "GalleyRoom", name := "layPaper", desc := "(LGalleyRoom$Galley;LGalleyRoom$Text;)V" } : Jvm.MethodName) ∈ lwG := lwG_mem (List.mem_append_left _ (List.mem_of_getElem? (i := 29) rfl)) rfl
theorem wd4_168 : (Cond.methodLink "GalleyRoom" (230 : Nat) ({ cls := "GalleyRoom$Paper", name := "bestCosts", desc := "()I" } : Jvm.MethodName)) ∈ lwG := lwG_4 (List.mem_of_getElem? (i := 168) rfl) rfl
theorem wd4_171 : (Cond.code ({ cls := "GalleyRoom$Paper", name := "bestCosts", desc := "()I" } : Jvm.MethodName) prog_7_method_11_code (2 : Nat) (Option.some Jvm.ClassFile.FieldType.int)) ∈ lwG := lwG_4 (List.mem_of_getElem? (i := 171) rfl) rfl
theorem wd4_169 : (Cond.instanceMethod ({ cls := "GalleyRoom$Paper", name := "bestCosts", desc := "()I" } : Jvm.MethodName)) ∈ lwG := lwG_4 (List.mem_of_getElem? (i := 169) rfl) rfl
theorem wd4_170 : (Cond.selects "GalleyRoom$Paper" ({ cls := "GalleyRoom$Paper", name := "bestCosts", desc := "()I" } : Jvm.MethodName) ({ cls := "GalleyRoom$Paper", name := "bestCosts", desc := "()I" } : Jvm.MethodName)) ∈ lwG := lwG_4 (List.mem_of_getElem? (i := 170) rfl) rfl
theorem wd4_176 : (Cond.methodLink "GalleyRoom" (234 : Nat) ({ cls := "GalleyRoom$Paper", name := "bestPlace", desc := "(I)I" } : Jvm.MethodName)) ∈ lwG := lwG_4 (List.mem_of_getElem? (i := 176) rfl) rfl
theorem wd4_179 : (Cond.code ({ cls := "GalleyRoom$Paper", name := "bestPlace", desc := "(I)I" } : Jvm.MethodName) prog_7_method_12_code (5 : Nat) (Option.some Jvm.ClassFile.FieldType.int)) ∈ lwG := lwG_4 (List.mem_of_getElem? (i := 179) rfl) rfl
theorem wd4_177 : (Cond.instanceMethod ({ cls := "GalleyRoom$Paper", name := "bestPlace", desc := "(I)I" } : Jvm.MethodName)) ∈ lwG := lwG_4 (List.mem_of_getElem? (i := 177) rfl) rfl
theorem wd4_178 : (Cond.selects "GalleyRoom$Paper" ({ cls := "GalleyRoom$Paper", name := "bestPlace", desc := "(I)I" } : Jvm.MethodName) ({ cls := "GalleyRoom$Paper", name := "bestPlace", desc := "(I)I" } : Jvm.MethodName)) ∈ lwG := lwG_4 (List.mem_of_getElem? (i := 178) rfl) rfl
theorem wd4_184 : (Cond.methodLink "GalleyRoom" (237 : Nat) ({ cls := "GalleyRoom$Paper", name := "leastOfJust", desc := "(I)I" } : Jvm.MethodName)) ∈ lwG := lwG_4 (List.mem_of_getElem? (i := 184) rfl) rfl
theorem wd4_187 : (Cond.code ({ cls := "GalleyRoom$Paper", name := "leastOfJust", desc := "(I)I" } : Jvm.MethodName) prog_7_method_9_code (3 : Nat) (Option.some Jvm.ClassFile.FieldType.int)) ∈ lwG := lwG_4 (List.mem_of_getElem? (i := 187) rfl) rfl
theorem wd4_185 : (Cond.instanceMethod ({ cls := "GalleyRoom$Paper", name := "leastOfJust", desc := "(I)I" } : Jvm.MethodName)) ∈ lwG := lwG_4 (List.mem_of_getElem? (i := 185) rfl) rfl
theorem wd4_186 : (Cond.selects "GalleyRoom$Paper" ({ cls := "GalleyRoom$Paper", name := "leastOfJust", desc := "(I)I" } : Jvm.MethodName) ({ cls := "GalleyRoom$Paper", name := "leastOfJust", desc := "(I)I" } : Jvm.MethodName)) ∈ lwG := lwG_4 (List.mem_of_getElem? (i := 186) rfl) rfl
theorem wd4_192 : (Cond.methodLink "GalleyRoom" (240 : Nat) ({ cls := "GalleyRoom$Paper", name := "canBeOf", desc := "(I)Z" } : Jvm.MethodName)) ∈ lwG := lwG_4 (List.mem_of_getElem? (i := 192) rfl) rfl
theorem wd4_204 : (Cond.methodLink "GalleyRoom" (243 : Nat) ({ cls := "GalleyRoom$Paper", name := "waysInAll", desc := "()J" } : Jvm.MethodName)) ∈ lwG := lwG_4 (List.mem_of_getElem? (i := 204) rfl) rfl
theorem wd4_207 : (Cond.code ({ cls := "GalleyRoom$Paper", name := "waysInAll", desc := "()J" } : Jvm.MethodName) prog_7_method_13_code (5 : Nat) (Option.some Jvm.ClassFile.FieldType.long)) ∈ lwG := lwG_4 (List.mem_of_getElem? (i := 207) rfl) rfl
theorem wd4_205 : (Cond.instanceMethod ({ cls := "GalleyRoom$Paper", name := "waysInAll", desc := "()J" } : Jvm.MethodName)) ∈ lwG := lwG_4 (List.mem_of_getElem? (i := 205) rfl) rfl
theorem wd4_206 : (Cond.selects "GalleyRoom$Paper" ({ cls := "GalleyRoom$Paper", name := "waysInAll", desc := "()J" } : Jvm.MethodName) ({ cls := "GalleyRoom$Paper", name := "waysInAll", desc := "()J" } : Jvm.MethodName)) ∈ lwG := lwG_4 (List.mem_of_getElem? (i := 206) rfl) rfl
theorem wd4_212 : (Cond.methodLink "GalleyRoom" (247 : Nat) ({ cls := "GalleyRoom$Paper", name := "mostPaid", desc := "()I" } : Jvm.MethodName)) ∈ lwG := lwG_4 (List.mem_of_getElem? (i := 212) rfl) rfl
theorem wd4_215 : (Cond.code ({ cls := "GalleyRoom$Paper", name := "mostPaid", desc := "()I" } : Jvm.MethodName) prog_7_method_14_code (4 : Nat) (Option.some Jvm.ClassFile.FieldType.int)) ∈ lwG := lwG_4 (List.mem_of_getElem? (i := 215) rfl) rfl
theorem wd4_213 : (Cond.instanceMethod ({ cls := "GalleyRoom$Paper", name := "mostPaid", desc := "()I" } : Jvm.MethodName)) ∈ lwG := lwG_4 (List.mem_of_getElem? (i := 213) rfl) rfl
theorem wd4_214 : (Cond.selects "GalleyRoom$Paper" ({ cls := "GalleyRoom$Paper", name := "mostPaid", desc := "()I" } : Jvm.MethodName) ({ cls := "GalleyRoom$Paper", name := "mostPaid", desc := "()I" } : Jvm.MethodName)) ∈ lwG := lwG_4 (List.mem_of_getElem? (i := 214) rfl) rfl
theorem wd4_220 : (Cond.methodLink "GalleyRoom" (254 : Nat) ({ cls := "GalleyRoom$Paper", name := "canBeOfAtMost", desc := "(I)Z" } : Jvm.MethodName)) ∈ lwG := lwG_4 (List.mem_of_getElem? (i := 220) rfl) rfl
theorem wd4_223 : (Cond.code ({ cls := "GalleyRoom$Paper", name := "canBeOfAtMost", desc := "(I)Z" } : Jvm.MethodName) prog_7_method_8_code (3 : Nat) (Option.some Jvm.ClassFile.FieldType.boolean)) ∈ lwG := lwG_4 (List.mem_of_getElem? (i := 223) rfl) rfl
theorem wd4_221 : (Cond.instanceMethod ({ cls := "GalleyRoom$Paper", name := "canBeOfAtMost", desc := "(I)Z" } : Jvm.MethodName)) ∈ lwG := lwG_4 (List.mem_of_getElem? (i := 221) rfl) rfl
theorem wd4_222 : (Cond.selects "GalleyRoom$Paper" ({ cls := "GalleyRoom$Paper", name := "canBeOfAtMost", desc := "(I)Z" } : Jvm.MethodName) ({ cls := "GalleyRoom$Paper", name := "canBeOfAtMost", desc := "(I)Z" } : Jvm.MethodName)) ∈ lwG := lwG_4 (List.mem_of_getElem? (i := 222) rfl) rfl
theorem wd2_127 : (Cond.fieldLink "GalleyRoom" (26 : Nat) "GalleyRoom" "paperGalley" "LGalleyRoom$Galley;") ∈ lwG := lwG_2 (List.mem_of_getElem? (i := 127) rfl) rfl
theorem fl_9_26 : g_Fl RX9 26 9 2 := ⟨rfl, by decide, RX9, TX9, rfl, inX9, wd2_127⟩
theorem wd4_229 : (Cond.methodLink "GalleyRoom" (257 : Nat) ({ cls := "GalleyRoom$Galley", name := "copyFrom", desc := "(LGalleyRoom$Galley;)V" } : Jvm.MethodName)) ∈ lwG := lwG_4 (List.mem_of_getElem? (i := 229) rfl) rfl
theorem wd4_230 : (Cond.methodLink "GalleyRoom" (260 : Nat) ({ cls := "GalleyRoom$Galley", name := "dropWord", desc := "(I)V" } : Jvm.MethodName)) ∈ lwG := lwG_4 (List.mem_of_getElem? (i := 230) rfl) rfl
theorem wd4_233 : (Cond.code ({ cls := "GalleyRoom$Galley", name := "dropWord", desc := "(I)V" } : Jvm.MethodName) prog_3_method_12_code (3 : Nat) (Option.none : Option Jvm.ClassFile.FieldType)) ∈ lwG := lwG_4 (List.mem_of_getElem? (i := 233) rfl) rfl
theorem wd4_231 : (Cond.instanceMethod ({ cls := "GalleyRoom$Galley", name := "dropWord", desc := "(I)V" } : Jvm.MethodName)) ∈ lwG := lwG_4 (List.mem_of_getElem? (i := 231) rfl) rfl
theorem wd4_232 : (Cond.selects "GalleyRoom$Galley" ({ cls := "GalleyRoom$Galley", name := "dropWord", desc := "(I)V" } : Jvm.MethodName) ({ cls := "GalleyRoom$Galley", name := "dropWord", desc := "(I)V" } : Jvm.MethodName)) ∈ lwG := lwG_4 (List.mem_of_getElem? (i := 232) rfl) rfl
theorem wd4_238 : (Cond.methodLink "GalleyRoom" (263 : Nat) ({ cls := "GalleyRoom$Sheet", name := "longestRiver", desc := "(LGalleyRoom$Galley;)I" } : Jvm.MethodName)) ∈ lwG := lwG_4 (List.mem_of_getElem? (i := 238) rfl) rfl
theorem wd5_1 : (Cond.code ({ cls := "GalleyRoom$Sheet", name := "longestRiver", desc := "(LGalleyRoom$Galley;)I" } : Jvm.MethodName) prog_9_method_11_code (7 : Nat) (Option.some Jvm.ClassFile.FieldType.int)) ∈ lwG := lwG_5 (List.mem_of_getElem? (i := 1) rfl) rfl
theorem wd4_239 : (Cond.instanceMethod ({ cls := "GalleyRoom$Sheet", name := "longestRiver", desc := "(LGalleyRoom$Galley;)I" } : Jvm.MethodName)) ∈ lwG := lwG_4 (List.mem_of_getElem? (i := 239) rfl) rfl
theorem wd5_0 : (Cond.selects "GalleyRoom$Sheet" ({ cls := "GalleyRoom$Sheet", name := "longestRiver", desc := "(LGalleyRoom$Galley;)I" } : Jvm.MethodName) ({ cls := "GalleyRoom$Sheet", name := "longestRiver", desc := "(LGalleyRoom$Galley;)I" } : Jvm.MethodName)) ∈ lwG := lwG_5 (List.mem_of_getElem? (i := 0) rfl) rfl
theorem wd5_15 : (Cond.fieldLink "GalleyRoom" (266 : Nat) "GalleyRoom" "TOLD_BY_FACT" "[I") ∈ lwG := lwG_5 (List.mem_of_getElem? (i := 15) rfl) rfl
theorem wd1_71 : (Cond.fieldLink "GalleyRoom" (269 : Nat) "GalleyRoom$Galley" "seen" "I") ∈ lwG := lwG_1 (List.mem_of_getElem? (i := 71) rfl) rfl
theorem fl_9_269 : g_Fl RX9 269 1 10 := ⟨rfl, by decide, RX1, TX1, rfl, inX1, wd1_71⟩
theorem wd1_56 : (Cond.fieldLink "GalleyRoom" (272 : Nat) "GalleyRoom$Galley" "seenFact" "[I") ∈ lwG := lwG_1 (List.mem_of_getElem? (i := 56) rfl) rfl
theorem fl_9_272 : g_Fl RX9 272 1 4 := ⟨rfl, by decide, RX1, TX1, rfl, inX1, wd1_56⟩
theorem wd1_59 : (Cond.fieldLink "GalleyRoom" (275 : Nat) "GalleyRoom$Galley" "seenNumber" "[I") ∈ lwG := lwG_1 (List.mem_of_getElem? (i := 59) rfl) rfl
theorem fl_9_275 : g_Fl RX9 275 1 5 := ⟨rfl, by decide, RX1, TX1, rfl, inX1, wd1_59⟩
theorem fp_9_269 : g_Fp RX9 269 1 10 .int := ⟨rfl, by decide, RX1, TX1, tyX1, rfl, inX1, wd1_71, tyX1_ok, nmX1, rfl, tyX1_ok 10 (by decide)⟩
theorem wd5_25 : (Cond.methodLink "GalleyRoom" (278 : Nat) ({ cls := "GalleyRoom$Sheet", name := "linesAsSeen", desc := "(LGalleyRoom$Galley;)I" } : Jvm.MethodName)) ∈ lwG := lwG_5 (List.mem_of_getElem? (i := 25) rfl) rfl
theorem wd5_28 : (Cond.code ({ cls := "GalleyRoom$Sheet", name := "linesAsSeen", desc := "(LGalleyRoom$Galley;)I" } : Jvm.MethodName) prog_9_method_7_code (4 : Nat) (Option.some Jvm.ClassFile.FieldType.int)) ∈ lwG := lwG_5 (List.mem_of_getElem? (i := 28) rfl) rfl
theorem wd5_26 : (Cond.instanceMethod ({ cls := "GalleyRoom$Sheet", name := "linesAsSeen", desc := "(LGalleyRoom$Galley;)I" } : Jvm.MethodName)) ∈ lwG := lwG_5 (List.mem_of_getElem? (i := 26) rfl) rfl
theorem wd5_27 : (Cond.selects "GalleyRoom$Sheet" ({ cls := "GalleyRoom$Sheet", name := "linesAsSeen", desc := "(LGalleyRoom$Galley;)I" } : Jvm.MethodName) ({ cls := "GalleyRoom$Sheet", name := "linesAsSeen", desc := "(LGalleyRoom$Galley;)I" } : Jvm.MethodName)) ∈ lwG := lwG_5 (List.mem_of_getElem? (i := 27) rfl) rfl
theorem wd5_42 : (Cond.methodLink "GalleyRoom" (281 : Nat) ({ cls := "GalleyRoom$Sheet", name := "mostAlike", desc := "(II)I" } : Jvm.MethodName)) ∈ lwG := lwG_5 (List.mem_of_getElem? (i := 42) rfl) rfl
theorem wd5_45 : (Cond.code ({ cls := "GalleyRoom$Sheet", name := "mostAlike", desc := "(II)I" } : Jvm.MethodName) prog_9_method_10_code (7 : Nat) (Option.some Jvm.ClassFile.FieldType.int)) ∈ lwG := lwG_5 (List.mem_of_getElem? (i := 45) rfl) rfl
theorem wd5_43 : (Cond.instanceMethod ({ cls := "GalleyRoom$Sheet", name := "mostAlike", desc := "(II)I" } : Jvm.MethodName)) ∈ lwG := lwG_5 (List.mem_of_getElem? (i := 43) rfl) rfl
theorem wd5_44 : (Cond.selects "GalleyRoom$Sheet" ({ cls := "GalleyRoom$Sheet", name := "mostAlike", desc := "(II)I" } : Jvm.MethodName) ({ cls := "GalleyRoom$Sheet", name := "mostAlike", desc := "(II)I" } : Jvm.MethodName)) ∈ lwG := lwG_5 (List.mem_of_getElem? (i := 44) rfl) rfl
theorem wd2_136 : (Cond.fieldLink "GalleyRoom" (68 : Nat) "GalleyRoom" "slipped" "[J") ∈ lwG := lwG_2 (List.mem_of_getElem? (i := 136) rfl) rfl
theorem fl_9_68 : g_Fl RX9 68 9 11 := ⟨rfl, by decide, RX9, TX9, rfl, inX9, wd2_136⟩
theorem wd5_53 : (Cond.constantLong "GalleyRoom" (294 : Nat) (10 : Int64)) ∈ lwG := lwG_5 (List.mem_of_getElem? (i := 53) rfl) rfl
theorem wd5_50 : (Cond.constantLong "GalleyRoom" (284 : Nat) (-1 : Int64)) ∈ lwG := lwG_5 (List.mem_of_getElem? (i := 50) rfl) rfl
theorem wd5_51 : (Cond.methodLink "GalleyRoom" (286 : Nat) ({ cls := "java/util/Arrays", name := "fill", desc := "([JJ)V" } : Jvm.MethodName)) ∈ lwG := lwG_5 (List.mem_of_getElem? (i := 51) rfl) rfl
theorem wd5_52 : (Cond.constantLong "GalleyRoom" (292 : Nat) (1000000000000 : Int64)) ∈ lwG := lwG_5 (List.mem_of_getElem? (i := 52) rfl) rfl
theorem wd5_58 : (Cond.methodLink "GalleyRoom" (296 : Nat) ({ cls := "GalleyRoom$Galley", name := "lawOf", desc := "(I)LGalleyRoom$Text;" } : Jvm.MethodName)) ∈ lwG := lwG_5 (List.mem_of_getElem? (i := 58) rfl) rfl
theorem wd5_67 : (Cond.constant "GalleyRoom" (315 : Nat) (1000003 : Int32)) ∈ lwG := lwG_5 (List.mem_of_getElem? (i := 67) rfl) rfl
theorem wd2_128 : (Cond.fieldLink "GalleyRoom" (29 : Nat) "GalleyRoom" "weeksGalley" "LGalleyRoom$Galley;") ∈ lwG := lwG_2 (List.mem_of_getElem? (i := 128) rfl) rfl
theorem fl_9_29 : g_Fl RX9 29 9 3 := ⟨rfl, by decide, RX9, TX9, rfl, inX9, wd2_128⟩
theorem wd5_64 : (Cond.methodLink "GalleyRoom" (301 : Nat) ({ cls := "GalleyRoom", name := "nextDraw", desc := "(I)I" } : Jvm.MethodName)) ∈ lwG := lwG_5 (List.mem_of_getElem? (i := 64) rfl) rfl
theorem wd5_66 : (Cond.code ({ cls := "GalleyRoom", name := "nextDraw", desc := "(I)I" } : Jvm.MethodName) prog_1_method_48_code (1 : Nat) (Option.some Jvm.ClassFile.FieldType.int)) ∈ lwG := lwG_5 (List.mem_of_getElem? (i := 66) rfl) rfl
theorem wd5_65 : (Cond.static ({ cls := "GalleyRoom", name := "nextDraw", desc := "(I)I" } : Jvm.MethodName)) ∈ lwG := lwG_5 (List.mem_of_getElem? (i := 65) rfl) rfl
theorem wd5_68 : (Cond.methodLink "GalleyRoom" (304 : Nat) ({ cls := "java/lang/Math", name := "max", desc := "(II)I" } : Jvm.MethodName)) ∈ lwG := lwG_5 (List.mem_of_getElem? (i := 68) rfl) rfl
theorem wd5_69 : (Cond.methodLink "GalleyRoom" (309 : Nat) ({ cls := "GalleyRoom$Galley", name := "carryOutIfItCanBe", desc := "(III)V" } : Jvm.MethodName)) ∈ lwG := lwG_5 (List.mem_of_getElem? (i := 69) rfl) rfl
theorem wd5_63 : (Cond.constant "GalleyRoom" (300 : Nat) (1000000 : Int32)) ∈ lwG := lwG_5 (List.mem_of_getElem? (i := 63) rfl) rfl
theorem wd2_129 : (Cond.fieldLink "GalleyRoom" (32 : Nat) "GalleyRoom" "images" "[LGalleyRoom$Galley;") ∈ lwG := lwG_2 (List.mem_of_getElem? (i := 129) rfl) rfl
theorem fl_9_32 : g_Fl RX9 32 9 4 := ⟨rfl, by decide, RX9, TX9, rfl, inX9, wd2_129⟩
theorem wd2_130 : (Cond.fieldLink "GalleyRoom" (36 : Nat) "GalleyRoom" "imageKept" "[Z") ∈ lwG := lwG_2 (List.mem_of_getElem? (i := 130) rfl) rfl
theorem fl_9_36 : g_Fl RX9 36 9 5 := ⟨rfl, by decide, RX9, TX9, rfl, inX9, wd2_130⟩
theorem wd1_73 : (Cond.fieldLink "GalleyRoom" (160 : Nat) "GalleyRoom$Galley" "laws" "I") ∈ lwG := lwG_1 (List.mem_of_getElem? (i := 73) rfl) rfl
theorem fl_9_160 : g_Fl RX9 160 1 11 := ⟨rfl, by decide, RX1, TX1, rfl, inX1, wd1_73⟩
theorem fl_9_95 : g_Fl RX9 95 3 3 := ⟨rfl, by decide, RX3, TX3, rfl, inX3, wd1_114⟩
theorem fl_9_312 : g_Fl RX9 312 9 16 := ⟨rfl, by decide, RX9, TX9, rfl, inX9, wd2_141⟩
theorem wd5_104 : (Cond.fieldLink "GalleyRoomModel" (3 : Nat) "GalleyRoomModel" "status" "I") ∈ lwG := lwG_5 (List.mem_of_getElem? (i := 104) rfl) rfl
theorem fp_10_3 : g_Fp RX10 3 10 0 .int := ⟨rfl, by decide, RX10, TX10, tyX10, rfl, inX10, wd5_104, tyX10_ok, nmX10, rfl, tyX10_ok 0 (by decide)⟩
theorem wd5_105 : (Cond.fieldLink "GalleyRoomModel" (7 : Nat) "GalleyRoomModel" "refused" "[I") ∈ lwG := lwG_5 (List.mem_of_getElem? (i := 105) rfl) rfl
theorem fl_10_7 : g_Fl RX10 7 10 1 := ⟨rfl, by decide, RX10, TX10, rfl, inX10, wd5_105⟩
theorem wd5_150 : (Cond.fieldLink "GalleyRoomModel" (11 : Nat) "GalleyRoomModel" "undoMany" "I") ∈ lwG := lwG_5 (List.mem_of_getElem? (i := 150) rfl) rfl
theorem fp_10_11 : g_Fp RX10 11 10 46 .int := ⟨rfl, by decide, RX10, TX10, tyX10, rfl, inX10, wd5_150, tyX10_ok, nmX10, rfl, tyX10_ok 46 (by decide)⟩
theorem wd6_80 : (Cond.methodLink "GalleyRoomModel" (14 : Nat) ({ cls := "GalleyRoomModel", name := "good", desc := "(I)I" } : Jvm.MethodName)) ∈ lwG := lwG_6 (List.mem_of_getElem? (i := 80) rfl) rfl
theorem wd6_83 : (Cond.code ({ cls := "GalleyRoomModel", name := "good", desc := "(I)I" } : Jvm.MethodName) prog_12_method_5_code (2 : Nat) (Option.some Jvm.ClassFile.FieldType.int)) ∈ lwG := lwG_6 (List.mem_of_getElem? (i := 83) rfl) rfl
theorem wd1_12 : (Cond.initialized "GalleyRoomModel") ∈ lwG := lwG_1 (List.mem_of_getElem? (i := 12) rfl) rfl
theorem wd6_82 : (Cond.instanceMethod ({ cls := "GalleyRoomModel", name := "good", desc := "(I)I" } : Jvm.MethodName)) ∈ lwG := lwG_6 (List.mem_of_getElem? (i := 82) rfl) rfl
theorem sel_GalleyRoomModel_good__I_I : Cond.selects "GalleyRoomModel" ({ cls := "GalleyRoomModel", name := "good", desc := "(I)I" } : Jvm.MethodName) ({ cls := "GalleyRoomModel", name := "good", desc := "(I)I" } : Jvm.MethodName) ∈ lwG := lwG_mem (List.mem_append_left _ (List.mem_of_getElem? (i := 40) rfl)) rfl
theorem wd5_109 : (Cond.fieldLink "GalleyRoomModel" (34 : Nat) "GalleyRoomModel" "aside" "[I") ∈ lwG := lwG_5 (List.mem_of_getElem? (i := 109) rfl) rfl
theorem fl_10_34 : g_Fl RX10 34 10 5 := ⟨rfl, by decide, RX10, TX10, rfl, inX10, wd5_109⟩
theorem wd5_106 : (Cond.fieldLink "GalleyRoomModel" (24 : Nat) "GalleyRoomModel" "kept" "[I") ∈ lwG := lwG_5 (List.mem_of_getElem? (i := 106) rfl) rfl
theorem fl_10_24 : g_Fl RX10 24 10 2 := ⟨rfl, by decide, RX10, TX10, rfl, inX10, wd5_106⟩
theorem wd5_107 : (Cond.fieldLink "GalleyRoomModel" (27 : Nat) "GalleyRoomModel" "images" "[I") ∈ lwG := lwG_5 (List.mem_of_getElem? (i := 107) rfl) rfl
theorem fl_10_27 : g_Fl RX10 27 10 3 := ⟨rfl, by decide, RX10, TX10, rfl, inX10, wd5_107⟩
theorem wd5_108 : (Cond.fieldLink "GalleyRoomModel" (30 : Nat) "GalleyRoomModel" "hasImage" "[Z") ∈ lwG := lwG_5 (List.mem_of_getElem? (i := 108) rfl) rfl
theorem fl_10_30 : g_Fl RX10 30 10 4 := ⟨rfl, by decide, RX10, TX10, rfl, inX10, wd5_108⟩
theorem wd6_73 : (Cond.methodLink "GalleyRoomModel" (132 : Nat) ({ cls := "GalleyRoomModel", name := "lies", desc := "(III)Z" } : Jvm.MethodName)) ∈ lwG := lwG_6 (List.mem_of_getElem? (i := 73) rfl) rfl
theorem wd6_75 : (Cond.code ({ cls := "GalleyRoomModel", name := "lies", desc := "(III)Z" } : Jvm.MethodName) prog_12_method_1_code (3 : Nat) (Option.some Jvm.ClassFile.FieldType.boolean)) ∈ lwG := lwG_6 (List.mem_of_getElem? (i := 75) rfl) rfl
theorem wd6_74 : (Cond.static ({ cls := "GalleyRoomModel", name := "lies", desc := "(III)Z" } : Jvm.MethodName)) ∈ lwG := lwG_6 (List.mem_of_getElem? (i := 74) rfl) rfl
theorem wd6_76 : (Cond.methodLink "GalleyRoomModel" (136 : Nat) ({ cls := "GalleyRoomModel", name := "refuses", desc := "(I)I" } : Jvm.MethodName)) ∈ lwG := lwG_6 (List.mem_of_getElem? (i := 76) rfl) rfl
theorem wd6_79 : (Cond.code ({ cls := "GalleyRoomModel", name := "refuses", desc := "(I)I" } : Jvm.MethodName) prog_12_method_4_code (2 : Nat) (Option.some Jvm.ClassFile.FieldType.int)) ∈ lwG := lwG_6 (List.mem_of_getElem? (i := 79) rfl) rfl
theorem wd6_78 : (Cond.instanceMethod ({ cls := "GalleyRoomModel", name := "refuses", desc := "(I)I" } : Jvm.MethodName)) ∈ lwG := lwG_6 (List.mem_of_getElem? (i := 78) rfl) rfl
theorem sel_GalleyRoomModel_refuses__I_I : Cond.selects "GalleyRoomModel" ({ cls := "GalleyRoomModel", name := "refuses", desc := "(I)I" } : Jvm.MethodName) ({ cls := "GalleyRoomModel", name := "refuses", desc := "(I)I" } : Jvm.MethodName) ∈ lwG := lwG_mem (List.mem_append_left _ (List.mem_of_getElem? (i := 39) rfl)) rfl
theorem wd5_140 : (Cond.fieldLink "GalleyRoomModel" (360 : Nat) "GalleyRoomModel" "standMany" "I") ∈ lwG := lwG_5 (List.mem_of_getElem? (i := 140) rfl) rfl
theorem fl_10_360 : g_Fl RX10 360 10 36 := ⟨rfl, by decide, RX10, TX10, rfl, inX10, wd5_140⟩
theorem wd5_139 : (Cond.fieldLink "GalleyRoomModel" (72 : Nat) "GalleyRoomModel" "stands" "[I") ∈ lwG := lwG_5 (List.mem_of_getElem? (i := 139) rfl) rfl
theorem fl_10_72 : g_Fl RX10 72 10 35 := ⟨rfl, by decide, RX10, TX10, rfl, inX10, wd5_139⟩
theorem wd5_100 : (Cond.methodLink "GalleyRoomModel" (142 : Nat) ({ cls := "GalleyRoomModel", name := "wordMany", desc := "()I" } : Jvm.MethodName)) ∈ lwG := lwG_5 (List.mem_of_getElem? (i := 100) rfl) rfl
theorem wd5_103 : (Cond.code ({ cls := "GalleyRoomModel", name := "wordMany", desc := "()I" } : Jvm.MethodName) prog_12_method_14_code (1 : Nat) (Option.some Jvm.ClassFile.FieldType.int)) ∈ lwG := lwG_5 (List.mem_of_getElem? (i := 103) rfl) rfl
theorem wd5_102 : (Cond.instanceMethod ({ cls := "GalleyRoomModel", name := "wordMany", desc := "()I" } : Jvm.MethodName)) ∈ lwG := lwG_5 (List.mem_of_getElem? (i := 102) rfl) rfl
theorem sel_GalleyRoomModel_wordMany___I : Cond.selects "GalleyRoomModel" ({ cls := "GalleyRoomModel", name := "wordMany", desc := "()I" } : Jvm.MethodName) ({ cls := "GalleyRoomModel", name := "wordMany", desc := "()I" } : Jvm.MethodName) ∈ lwG := lwG_mem (List.mem_append_left _ (List.mem_of_getElem? (i := 38) rfl)) rfl
theorem fp_10_360 : g_Fp RX10 360 10 36 .int := ⟨rfl, by decide, RX10, TX10, tyX10, rfl, inX10, wd5_140, tyX10_ok, nmX10, rfl, tyX10_ok 36 (by decide)⟩
theorem wd5_96 : (Cond.methodLink "GalleyRoomModel" (129 : Nat) ({ cls := "GalleyRoomModel", name := "laysAllWords", desc := "()V" } : Jvm.MethodName)) ∈ lwG := lwG_5 (List.mem_of_getElem? (i := 96) rfl) rfl
theorem wd5_99 : (Cond.code ({ cls := "GalleyRoomModel", name := "laysAllWords", desc := "()V" } : Jvm.MethodName) prog_12_method_73_code (2 : Nat) (Option.none : Option Jvm.ClassFile.FieldType)) ∈ lwG := lwG_5 (List.mem_of_getElem? (i := 99) rfl) rfl
theorem wd5_98 : (Cond.instanceMethod ({ cls := "GalleyRoomModel", name := "laysAllWords", desc := "()V" } : Jvm.MethodName)) ∈ lwG := lwG_5 (List.mem_of_getElem? (i := 98) rfl) rfl
theorem sel_GalleyRoomModel_laysAllWords___V : Cond.selects "GalleyRoomModel" ({ cls := "GalleyRoomModel", name := "laysAllWords", desc := "()V" } : Jvm.MethodName) ({ cls := "GalleyRoomModel", name := "laysAllWords", desc := "()V" } : Jvm.MethodName) ∈ lwG := lwG_mem (List.mem_append_left _ (List.mem_of_getElem? (i := 37) rfl)) rfl
theorem wd6_88 : (Cond.methodLink "GalleyRoomModel" (139 : Nat) ({ cls := "GalleyRoomModel", name := "settled", desc := "(I)I" } : Jvm.MethodName)) ∈ lwG := lwG_6 (List.mem_of_getElem? (i := 88) rfl) rfl
theorem wd6_91 : (Cond.code ({ cls := "GalleyRoomModel", name := "settled", desc := "(I)I" } : Jvm.MethodName) prog_12_method_6_code (2 : Nat) (Option.some Jvm.ClassFile.FieldType.int)) ∈ lwG := lwG_6 (List.mem_of_getElem? (i := 91) rfl) rfl
theorem wd6_90 : (Cond.instanceMethod ({ cls := "GalleyRoomModel", name := "settled", desc := "(I)I" } : Jvm.MethodName)) ∈ lwG := lwG_6 (List.mem_of_getElem? (i := 90) rfl) rfl
theorem sel_GalleyRoomModel_settled__I_I : Cond.selects "GalleyRoomModel" ({ cls := "GalleyRoomModel", name := "settled", desc := "(I)I" } : Jvm.MethodName) ({ cls := "GalleyRoomModel", name := "settled", desc := "(I)I" } : Jvm.MethodName) ∈ lwG := lwG_mem (List.mem_append_left _ (List.mem_of_getElem? (i := 41) rfl)) rfl
theorem wd6_115 : (Cond.methodLink "GalleyRoomModel" (146 : Nat) ({ cls := "GalleyRoomModel", name := "isLast", desc := "(I)Z" } : Jvm.MethodName)) ∈ lwG := lwG_6 (List.mem_of_getElem? (i := 115) rfl) rfl
theorem wd6_118 : (Cond.code ({ cls := "GalleyRoomModel", name := "isLast", desc := "(I)Z" } : Jvm.MethodName) prog_12_method_16_code (2 : Nat) (Option.some Jvm.ClassFile.FieldType.boolean)) ∈ lwG := lwG_6 (List.mem_of_getElem? (i := 118) rfl) rfl
theorem wd6_117 : (Cond.instanceMethod ({ cls := "GalleyRoomModel", name := "isLast", desc := "(I)Z" } : Jvm.MethodName)) ∈ lwG := lwG_6 (List.mem_of_getElem? (i := 117) rfl) rfl
theorem sel_GalleyRoomModel_isLast__I_Z : Cond.selects "GalleyRoomModel" ({ cls := "GalleyRoomModel", name := "isLast", desc := "(I)Z" } : Jvm.MethodName) ({ cls := "GalleyRoomModel", name := "isLast", desc := "(I)Z" } : Jvm.MethodName) ∈ lwG := lwG_mem (List.mem_append_left _ (List.mem_of_getElem? (i := 45) rfl)) rfl
theorem wd6_119 : (Cond.methodLink "GalleyRoomModel" (150 : Nat) ({ cls := "GalleyRoomModel", name := "isIn", desc := "(II)Z" } : Jvm.MethodName)) ∈ lwG := lwG_6 (List.mem_of_getElem? (i := 119) rfl) rfl
theorem wd6_121 : (Cond.code ({ cls := "GalleyRoomModel", name := "isIn", desc := "(II)Z" } : Jvm.MethodName) prog_12_method_7_code (2 : Nat) (Option.some Jvm.ClassFile.FieldType.boolean)) ∈ lwG := lwG_6 (List.mem_of_getElem? (i := 121) rfl) rfl
theorem wd6_120 : (Cond.static ({ cls := "GalleyRoomModel", name := "isIn", desc := "(II)Z" } : Jvm.MethodName)) ∈ lwG := lwG_6 (List.mem_of_getElem? (i := 120) rfl) rfl
theorem wd6_96 : (Cond.methodLink "GalleyRoomModel" (154 : Nat) ({ cls := "GalleyRoomModel", name := "canWord", desc := "(III)Z" } : Jvm.MethodName)) ∈ lwG := lwG_6 (List.mem_of_getElem? (i := 96) rfl) rfl
theorem wd6_98 : (Cond.code ({ cls := "GalleyRoomModel", name := "canWord", desc := "(III)Z" } : Jvm.MethodName) prog_12_method_19_code (3 : Nat) (Option.some Jvm.ClassFile.FieldType.boolean)) ∈ lwG := lwG_6 (List.mem_of_getElem? (i := 98) rfl) rfl
theorem wd6_97 : (Cond.static ({ cls := "GalleyRoomModel", name := "canWord", desc := "(III)Z" } : Jvm.MethodName)) ∈ lwG := lwG_6 (List.mem_of_getElem? (i := 97) rfl) rfl
theorem wd6_99 : (Cond.methodLink "GalleyRoomModel" (157 : Nat) ({ cls := "GalleyRoomModel", name := "adds", desc := "(III)V" } : Jvm.MethodName)) ∈ lwG := lwG_6 (List.mem_of_getElem? (i := 99) rfl) rfl
theorem wd6_102 : (Cond.code ({ cls := "GalleyRoomModel", name := "adds", desc := "(III)V" } : Jvm.MethodName) prog_12_method_20_code (5 : Nat) (Option.none : Option Jvm.ClassFile.FieldType)) ∈ lwG := lwG_6 (List.mem_of_getElem? (i := 102) rfl) rfl
theorem wd6_101 : (Cond.instanceMethod ({ cls := "GalleyRoomModel", name := "adds", desc := "(III)V" } : Jvm.MethodName)) ∈ lwG := lwG_6 (List.mem_of_getElem? (i := 101) rfl) rfl
theorem sel_GalleyRoomModel_adds__III_V : Cond.selects "GalleyRoomModel" ({ cls := "GalleyRoomModel", name := "adds", desc := "(III)V" } : Jvm.MethodName) ({ cls := "GalleyRoomModel", name := "adds", desc := "(III)V" } : Jvm.MethodName) ∈ lwG := lwG_mem (List.mem_append_left _ (List.mem_of_getElem? (i := 42) rfl)) rfl
theorem wd6_107 : (Cond.methodLink "GalleyRoomModel" (161 : Nat) ({ cls := "GalleyRoomModel", name := "isWord", desc := "(I)Z" } : Jvm.MethodName)) ∈ lwG := lwG_6 (List.mem_of_getElem? (i := 107) rfl) rfl
theorem wd6_110 : (Cond.code ({ cls := "GalleyRoomModel", name := "isWord", desc := "(I)Z" } : Jvm.MethodName) prog_12_method_15_code (2 : Nat) (Option.some Jvm.ClassFile.FieldType.boolean)) ∈ lwG := lwG_6 (List.mem_of_getElem? (i := 110) rfl) rfl
theorem wd6_109 : (Cond.instanceMethod ({ cls := "GalleyRoomModel", name := "isWord", desc := "(I)Z" } : Jvm.MethodName)) ∈ lwG := lwG_6 (List.mem_of_getElem? (i := 109) rfl) rfl
theorem sel_GalleyRoomModel_isWord__I_Z : Cond.selects "GalleyRoomModel" ({ cls := "GalleyRoomModel", name := "isWord", desc := "(I)Z" } : Jvm.MethodName) ({ cls := "GalleyRoomModel", name := "isWord", desc := "(I)Z" } : Jvm.MethodName) ∈ lwG := lwG_mem (List.mem_append_left _ (List.mem_of_getElem? (i := 43) rfl)) rfl
theorem wd6_111 : (Cond.methodLink "GalleyRoomModel" (164 : Nat) ({ cls := "GalleyRoomModel", name := "endsAfter", desc := "(I)Z" } : Jvm.MethodName)) ∈ lwG := lwG_6 (List.mem_of_getElem? (i := 111) rfl) rfl
theorem wd6_114 : (Cond.code ({ cls := "GalleyRoomModel", name := "endsAfter", desc := "(I)Z" } : Jvm.MethodName) prog_12_method_17_code (2 : Nat) (Option.some Jvm.ClassFile.FieldType.boolean)) ∈ lwG := lwG_6 (List.mem_of_getElem? (i := 114) rfl) rfl
theorem wd6_113 : (Cond.instanceMethod ({ cls := "GalleyRoomModel", name := "endsAfter", desc := "(I)Z" } : Jvm.MethodName)) ∈ lwG := lwG_6 (List.mem_of_getElem? (i := 113) rfl) rfl
theorem sel_GalleyRoomModel_endsAfter__I_Z : Cond.selects "GalleyRoomModel" ({ cls := "GalleyRoomModel", name := "endsAfter", desc := "(I)Z" } : Jvm.MethodName) ({ cls := "GalleyRoomModel", name := "endsAfter", desc := "(I)Z" } : Jvm.MethodName) ∈ lwG := lwG_mem (List.mem_append_left _ (List.mem_of_getElem? (i := 44) rfl)) rfl
theorem wd6_122 : (Cond.methodLink "GalleyRoomModel" (167 : Nat) ({ cls := "GalleyRoomModel", name := "isSplit", desc := "(I)Z" } : Jvm.MethodName)) ∈ lwG := lwG_6 (List.mem_of_getElem? (i := 122) rfl) rfl
theorem wd6_125 : (Cond.code ({ cls := "GalleyRoomModel", name := "isSplit", desc := "(I)Z" } : Jvm.MethodName) prog_12_method_18_code (2 : Nat) (Option.some Jvm.ClassFile.FieldType.boolean)) ∈ lwG := lwG_6 (List.mem_of_getElem? (i := 125) rfl) rfl
theorem wd6_124 : (Cond.instanceMethod ({ cls := "GalleyRoomModel", name := "isSplit", desc := "(I)Z" } : Jvm.MethodName)) ∈ lwG := lwG_6 (List.mem_of_getElem? (i := 124) rfl) rfl
theorem sel_GalleyRoomModel_isSplit__I_Z : Cond.selects "GalleyRoomModel" ({ cls := "GalleyRoomModel", name := "isSplit", desc := "(I)Z" } : Jvm.MethodName) ({ cls := "GalleyRoomModel", name := "isSplit", desc := "(I)Z" } : Jvm.MethodName) ∈ lwG := lwG_mem (List.mem_append_left _ (List.mem_of_getElem? (i := 46) rfl)) rfl
theorem wd6_130 : (Cond.methodLink "GalleyRoomModel" (170 : Nat) ({ cls := "GalleyRoomModel", name := "isTerm", desc := "(II)Z" } : Jvm.MethodName)) ∈ lwG := lwG_6 (List.mem_of_getElem? (i := 130) rfl) rfl
theorem wd6_132 : (Cond.code ({ cls := "GalleyRoomModel", name := "isTerm", desc := "(II)Z" } : Jvm.MethodName) prog_12_method_23_code (2 : Nat) (Option.some Jvm.ClassFile.FieldType.boolean)) ∈ lwG := lwG_6 (List.mem_of_getElem? (i := 132) rfl) rfl
theorem wd6_131 : (Cond.static ({ cls := "GalleyRoomModel", name := "isTerm", desc := "(II)Z" } : Jvm.MethodName)) ∈ lwG := lwG_6 (List.mem_of_getElem? (i := 131) rfl) rfl
theorem wd6_133 : (Cond.methodLink "GalleyRoomModel" (173 : Nat) ({ cls := "GalleyRoomModel", name := "termAt", desc := "(I)I" } : Jvm.MethodName)) ∈ lwG := lwG_6 (List.mem_of_getElem? (i := 133) rfl) rfl
theorem wd6_135 : (Cond.code ({ cls := "GalleyRoomModel", name := "termAt", desc := "(I)I" } : Jvm.MethodName) prog_12_method_24_code (1 : Nat) (Option.some Jvm.ClassFile.FieldType.int)) ∈ lwG := lwG_6 (List.mem_of_getElem? (i := 135) rfl) rfl
theorem wd6_134 : (Cond.static ({ cls := "GalleyRoomModel", name := "termAt", desc := "(I)I" } : Jvm.MethodName)) ∈ lwG := lwG_6 (List.mem_of_getElem? (i := 134) rfl) rfl
theorem wd5_110 : (Cond.fieldLink "GalleyRoomModel" (179 : Nat) "GalleyRoomModel" "turned0" "I") ∈ lwG := lwG_5 (List.mem_of_getElem? (i := 110) rfl) rfl
theorem fl_10_179 : g_Fl RX10 179 10 6 := ⟨rfl, by decide, RX10, TX10, rfl, inX10, wd5_110⟩
theorem fp_10_179 : g_Fp RX10 179 10 6 .int := ⟨rfl, by decide, RX10, TX10, tyX10, rfl, inX10, wd5_110, tyX10_ok, nmX10, rfl, tyX10_ok 6 (by decide)⟩
theorem wd5_115 : (Cond.fieldLink "GalleyRoomModel" (41 : Nat) "GalleyRoomModel" "tape" "[B") ∈ lwG := lwG_5 (List.mem_of_getElem? (i := 115) rfl) rfl
theorem fl_10_41 : g_Fl RX10 41 10 11 := ⟨rfl, by decide, RX10, TX10, rfl, inX10, wd5_115⟩
theorem wd5_117 : (Cond.fieldLink "GalleyRoomModel" (176 : Nat) "GalleyRoomModel" "taped" "I") ∈ lwG := lwG_5 (List.mem_of_getElem? (i := 117) rfl) rfl
theorem fl_10_176 : g_Fl RX10 176 10 13 := ⟨rfl, by decide, RX10, TX10, rfl, inX10, wd5_117⟩
theorem fp_10_176 : g_Fp RX10 176 10 13 .int := ⟨rfl, by decide, RX10, TX10, tyX10, rfl, inX10, wd5_117, tyX10_ok, nmX10, rfl, tyX10_ok 13 (by decide)⟩
theorem wd5_116 : (Cond.fieldLink "GalleyRoomModel" (44 : Nat) "GalleyRoomModel" "five" "[I") ∈ lwG := lwG_5 (List.mem_of_getElem? (i := 116) rfl) rfl
theorem fl_10_44 : g_Fl RX10 44 10 12 := ⟨rfl, by decide, RX10, TX10, rfl, inX10, wd5_116⟩
theorem wd5_111 : (Cond.fieldLink "GalleyRoomModel" (37 : Nat) "GalleyRoomModel" "words" "[B") ∈ lwG := lwG_5 (List.mem_of_getElem? (i := 111) rfl) rfl
theorem fl_10_37 : g_Fl RX10 37 10 7 := ⟨rfl, by decide, RX10, TX10, rfl, inX10, wd5_111⟩
theorem wd6_171 : (Cond.methodLink "GalleyRoomModel" (188 : Nat) ({ cls := "GalleyRoomModel", name := "isDigit", desc := "(I)Z" } : Jvm.MethodName)) ∈ lwG := lwG_6 (List.mem_of_getElem? (i := 171) rfl) rfl
theorem wd6_173 : (Cond.code ({ cls := "GalleyRoomModel", name := "isDigit", desc := "(I)Z" } : Jvm.MethodName) prog_12_method_31_code (1 : Nat) (Option.some Jvm.ClassFile.FieldType.boolean)) ∈ lwG := lwG_6 (List.mem_of_getElem? (i := 173) rfl) rfl
theorem wd6_172 : (Cond.static ({ cls := "GalleyRoomModel", name := "isDigit", desc := "(I)Z" } : Jvm.MethodName)) ∈ lwG := lwG_6 (List.mem_of_getElem? (i := 172) rfl) rfl
theorem wd5_122 : (Cond.fieldLink "GalleyRoomModel" (182 : Nat) "GalleyRoomModel" "tokens" "I") ∈ lwG := lwG_5 (List.mem_of_getElem? (i := 122) rfl) rfl
theorem fl_10_182 : g_Fl RX10 182 10 18 := ⟨rfl, by decide, RX10, TX10, rfl, inX10, wd5_122⟩
theorem fp_10_182 : g_Fp RX10 182 10 18 .int := ⟨rfl, by decide, RX10, TX10, tyX10, rfl, inX10, wd5_122, tyX10_ok, nmX10, rfl, tyX10_ok 18 (by decide)⟩
theorem wd5_120 : (Cond.fieldLink "GalleyRoomModel" (53 : Nat) "GalleyRoomModel" "value" "[I") ∈ lwG := lwG_5 (List.mem_of_getElem? (i := 120) rfl) rfl
theorem fl_10_53 : g_Fl RX10 53 10 16 := ⟨rfl, by decide, RX10, TX10, rfl, inX10, wd5_120⟩
theorem wd6_178 : (Cond.constant "GalleyRoomModel" (195 : Nat) (1000000 : Int32)) ∈ lwG := lwG_6 (List.mem_of_getElem? (i := 178) rfl) rfl
theorem wd5_121 : (Cond.fieldLink "GalleyRoomModel" (56 : Nat) "GalleyRoomModel" "placed" "[I") ∈ lwG := lwG_5 (List.mem_of_getElem? (i := 121) rfl) rfl
theorem fl_10_56 : g_Fl RX10 56 10 17 := ⟨rfl, by decide, RX10, TX10, rfl, inX10, wd5_121⟩
theorem wd5_119 : (Cond.fieldLink "GalleyRoomModel" (50 : Nat) "GalleyRoomModel" "code" "[I") ∈ lwG := lwG_5 (List.mem_of_getElem? (i := 119) rfl) rfl
theorem fl_10_50 : g_Fl RX10 50 10 15 := ⟨rfl, by decide, RX10, TX10, rfl, inX10, wd5_119⟩
theorem wd6_168 : (Cond.methodLink "GalleyRoomModel" (185 : Nat) ({ cls := "GalleyRoomModel", name := "isSmall", desc := "(I)Z" } : Jvm.MethodName)) ∈ lwG := lwG_6 (List.mem_of_getElem? (i := 168) rfl) rfl
theorem wd6_170 : (Cond.code ({ cls := "GalleyRoomModel", name := "isSmall", desc := "(I)Z" } : Jvm.MethodName) prog_12_method_30_code (1 : Nat) (Option.some Jvm.ClassFile.FieldType.boolean)) ∈ lwG := lwG_6 (List.mem_of_getElem? (i := 170) rfl) rfl
theorem wd6_169 : (Cond.static ({ cls := "GalleyRoomModel", name := "isSmall", desc := "(I)Z" } : Jvm.MethodName)) ∈ lwG := lwG_6 (List.mem_of_getElem? (i := 169) rfl) rfl
theorem wd6_174 : (Cond.methodLink "GalleyRoomModel" (191 : Nat) ({ cls := "GalleyRoomModel", name := "wordOf", desc := "(II)I" } : Jvm.MethodName)) ∈ lwG := lwG_6 (List.mem_of_getElem? (i := 174) rfl) rfl
theorem wd6_177 : (Cond.code ({ cls := "GalleyRoomModel", name := "wordOf", desc := "(II)I" } : Jvm.MethodName) prog_12_method_32_code (8 : Nat) (Option.some Jvm.ClassFile.FieldType.int)) ∈ lwG := lwG_6 (List.mem_of_getElem? (i := 177) rfl) rfl
theorem wd6_176 : (Cond.instanceMethod ({ cls := "GalleyRoomModel", name := "wordOf", desc := "(II)I" } : Jvm.MethodName)) ∈ lwG := lwG_6 (List.mem_of_getElem? (i := 176) rfl) rfl
theorem sel_GalleyRoomModel_wordOf__II_I : Cond.selects "GalleyRoomModel" ({ cls := "GalleyRoomModel", name := "wordOf", desc := "(II)I" } : Jvm.MethodName) ({ cls := "GalleyRoomModel", name := "wordOf", desc := "(II)I" } : Jvm.MethodName) ∈ lwG := lwG_mem (List.mem_append_left _ (List.mem_of_getElem? (i := 50) rfl)) rfl
theorem wd5_125 : (Cond.fieldLink "GalleyRoomModel" (196 : Nat) "GalleyRoomModel" "bad" "I") ∈ lwG := lwG_5 (List.mem_of_getElem? (i := 125) rfl) rfl
theorem fl_10_196 : g_Fl RX10 196 10 21 := ⟨rfl, by decide, RX10, TX10, rfl, inX10, wd5_125⟩
theorem wd6_191 : (Cond.methodLink "GalleyRoomModel" (199 : Nat) ({ cls := "GalleyRoomModel", name := "fine", desc := "()Z" } : Jvm.MethodName)) ∈ lwG := lwG_6 (List.mem_of_getElem? (i := 191) rfl) rfl
theorem wd6_194 : (Cond.code ({ cls := "GalleyRoomModel", name := "fine", desc := "()Z" } : Jvm.MethodName) prog_12_method_34_code (1 : Nat) (Option.some Jvm.ClassFile.FieldType.boolean)) ∈ lwG := lwG_6 (List.mem_of_getElem? (i := 194) rfl) rfl
theorem wd6_193 : (Cond.instanceMethod ({ cls := "GalleyRoomModel", name := "fine", desc := "()Z" } : Jvm.MethodName)) ∈ lwG := lwG_6 (List.mem_of_getElem? (i := 193) rfl) rfl
theorem sel_GalleyRoomModel_fine___Z : Cond.selects "GalleyRoomModel" ({ cls := "GalleyRoomModel", name := "fine", desc := "()Z" } : Jvm.MethodName) ({ cls := "GalleyRoomModel", name := "fine", desc := "()Z" } : Jvm.MethodName) ∈ lwG := lwG_mem (List.mem_append_left _ (List.mem_of_getElem? (i := 54) rfl)) rfl
theorem wd5_123 : (Cond.fieldLink "GalleyRoomModel" (203 : Nat) "GalleyRoomModel" "token" "I") ∈ lwG := lwG_5 (List.mem_of_getElem? (i := 123) rfl) rfl
theorem fl_10_203 : g_Fl RX10 203 10 19 := ⟨rfl, by decide, RX10, TX10, rfl, inX10, wd5_123⟩
theorem fp_10_196 : g_Fp RX10 196 10 21 .int := ⟨rfl, by decide, RX10, TX10, tyX10, rfl, inX10, wd5_125, tyX10_ok, nmX10, rfl, tyX10_ok 21 (by decide)⟩
theorem wd5_126 : (Cond.fieldLink "GalleyRoomModel" (59 : Nat) "GalleyRoomModel" "op" "[I") ∈ lwG := lwG_5 (List.mem_of_getElem? (i := 126) rfl) rfl
theorem fl_10_59 : g_Fl RX10 59 10 22 := ⟨rfl, by decide, RX10, TX10, rfl, inX10, wd5_126⟩
theorem wd5_128 : (Cond.fieldLink "GalleyRoomModel" (206 : Nat) "GalleyRoomModel" "ops" "I") ∈ lwG := lwG_5 (List.mem_of_getElem? (i := 128) rfl) rfl
theorem fl_10_206 : g_Fl RX10 206 10 24 := ⟨rfl, by decide, RX10, TX10, rfl, inX10, wd5_128⟩
theorem wd5_127 : (Cond.fieldLink "GalleyRoomModel" (62 : Nat) "GalleyRoomModel" "opWith" "[I") ∈ lwG := lwG_5 (List.mem_of_getElem? (i := 127) rfl) rfl
theorem fl_10_62 : g_Fl RX10 62 10 23 := ⟨rfl, by decide, RX10, TX10, rfl, inX10, wd5_127⟩
theorem fp_10_206 : g_Fp RX10 206 10 24 .int := ⟨rfl, by decide, RX10, TX10, tyX10, rfl, inX10, wd5_128, tyX10_ok, nmX10, rfl, tyX10_ok 24 (by decide)⟩
theorem fp_10_203 : g_Fp RX10 203 10 19 .int := ⟨rfl, by decide, RX10, TX10, tyX10, rfl, inX10, wd5_123, tyX10_ok, nmX10, rfl, tyX10_ok 19 (by decide)⟩
theorem wd6_187 : (Cond.methodLink "GalleyRoomModel" (209 : Nat) ({ cls := "GalleyRoomModel", name := "takes0", desc := "(I)Z" } : Jvm.MethodName)) ∈ lwG := lwG_6 (List.mem_of_getElem? (i := 187) rfl) rfl
theorem wd6_190 : (Cond.code ({ cls := "GalleyRoomModel", name := "takes0", desc := "(I)Z" } : Jvm.MethodName) prog_12_method_37_code (3 : Nat) (Option.some Jvm.ClassFile.FieldType.boolean)) ∈ lwG := lwG_6 (List.mem_of_getElem? (i := 190) rfl) rfl
theorem wd6_189 : (Cond.instanceMethod ({ cls := "GalleyRoomModel", name := "takes0", desc := "(I)Z" } : Jvm.MethodName)) ∈ lwG := lwG_6 (List.mem_of_getElem? (i := 189) rfl) rfl
theorem sel_GalleyRoomModel_takes0__I_Z : Cond.selects "GalleyRoomModel" ({ cls := "GalleyRoomModel", name := "takes0", desc := "(I)Z" } : Jvm.MethodName) ({ cls := "GalleyRoomModel", name := "takes0", desc := "(I)Z" } : Jvm.MethodName) ∈ lwG := lwG_mem (List.mem_append_left _ (List.mem_of_getElem? (i := 53) rfl)) rfl
theorem wd6_210 : (Cond.methodLink "GalleyRoomModel" (212 : Nat) ({ cls := "GalleyRoomModel", name := "faults", desc := "()V" } : Jvm.MethodName)) ∈ lwG := lwG_6 (List.mem_of_getElem? (i := 210) rfl) rfl
theorem wd6_213 : (Cond.code ({ cls := "GalleyRoomModel", name := "faults", desc := "()V" } : Jvm.MethodName) prog_12_method_35_code (1 : Nat) (Option.none : Option Jvm.ClassFile.FieldType)) ∈ lwG := lwG_6 (List.mem_of_getElem? (i := 213) rfl) rfl
theorem wd6_212 : (Cond.instanceMethod ({ cls := "GalleyRoomModel", name := "faults", desc := "()V" } : Jvm.MethodName)) ∈ lwG := lwG_6 (List.mem_of_getElem? (i := 212) rfl) rfl
theorem sel_GalleyRoomModel_faults___V : Cond.selects "GalleyRoomModel" ({ cls := "GalleyRoomModel", name := "faults", desc := "()V" } : Jvm.MethodName) ({ cls := "GalleyRoomModel", name := "faults", desc := "()V" } : Jvm.MethodName) ∈ lwG := lwG_mem (List.mem_append_left _ (List.mem_of_getElem? (i := 58) rfl)) rfl
theorem wd5_124 : (Cond.fieldLink "GalleyRoomModel" (215 : Nat) "GalleyRoomModel" "leaves" "I") ∈ lwG := lwG_5 (List.mem_of_getElem? (i := 124) rfl) rfl
theorem fl_10_215 : g_Fl RX10 215 10 20 := ⟨rfl, by decide, RX10, TX10, rfl, inX10, wd5_124⟩
theorem fp_10_215 : g_Fp RX10 215 10 20 .int := ⟨rfl, by decide, RX10, TX10, tyX10, rfl, inX10, wd5_124, tyX10_ok, nmX10, rfl, tyX10_ok 20 (by decide)⟩
theorem wd6_218 : (Cond.methodLink "GalleyRoomModel" (218 : Nat) ({ cls := "GalleyRoomModel", name := "tellsOp", desc := "(II)I" } : Jvm.MethodName)) ∈ lwG := lwG_6 (List.mem_of_getElem? (i := 218) rfl) rfl
theorem wd6_221 : (Cond.code ({ cls := "GalleyRoomModel", name := "tellsOp", desc := "(II)I" } : Jvm.MethodName) prog_12_method_36_code (3 : Nat) (Option.some Jvm.ClassFile.FieldType.int)) ∈ lwG := lwG_6 (List.mem_of_getElem? (i := 221) rfl) rfl
theorem wd6_220 : (Cond.instanceMethod ({ cls := "GalleyRoomModel", name := "tellsOp", desc := "(II)I" } : Jvm.MethodName)) ∈ lwG := lwG_6 (List.mem_of_getElem? (i := 220) rfl) rfl
theorem sel_GalleyRoomModel_tellsOp__II_I : Cond.selects "GalleyRoomModel" ({ cls := "GalleyRoomModel", name := "tellsOp", desc := "(II)I" } : Jvm.MethodName) ({ cls := "GalleyRoomModel", name := "tellsOp", desc := "(II)I" } : Jvm.MethodName) ∈ lwG := lwG_mem (List.mem_append_left _ (List.mem_of_getElem? (i := 60) rfl)) rfl
theorem wd6_222 : (Cond.methodLink "GalleyRoomModel" (267 : Nat) ({ cls := "GalleyRoomModel", name := "leaf", desc := "()V" } : Jvm.MethodName)) ∈ lwG := lwG_6 (List.mem_of_getElem? (i := 222) rfl) rfl
theorem wd6_225 : (Cond.code ({ cls := "GalleyRoomModel", name := "leaf", desc := "()V" } : Jvm.MethodName) prog_12_method_39_code (1 : Nat) (Option.none : Option Jvm.ClassFile.FieldType)) ∈ lwG := lwG_6 (List.mem_of_getElem? (i := 225) rfl) rfl
theorem wd6_224 : (Cond.instanceMethod ({ cls := "GalleyRoomModel", name := "leaf", desc := "()V" } : Jvm.MethodName)) ∈ lwG := lwG_6 (List.mem_of_getElem? (i := 224) rfl) rfl
theorem sel_GalleyRoomModel_leaf___V : Cond.selects "GalleyRoomModel" ({ cls := "GalleyRoomModel", name := "leaf", desc := "()V" } : Jvm.MethodName) ({ cls := "GalleyRoomModel", name := "leaf", desc := "()V" } : Jvm.MethodName) ∈ lwG := lwG_mem (List.mem_append_left _ (List.mem_of_getElem? (i := 61) rfl)) rfl
theorem wd5_114 : (Cond.fieldLink "GalleyRoomModel" (235 : Nat) "GalleyRoomModel" "isOrders" "Z") ∈ lwG := lwG_5 (List.mem_of_getElem? (i := 114) rfl) rfl
theorem fl_10_235 : g_Fl RX10 235 10 10 := ⟨rfl, by decide, RX10, TX10, rfl, inX10, wd5_114⟩
theorem wd6_226 : (Cond.methodLink "GalleyRoomModel" (231 : Nat) ({ cls := "GalleyRoomModel", name := "mustNumber", desc := "(II)V" } : Jvm.MethodName)) ∈ lwG := lwG_6 (List.mem_of_getElem? (i := 226) rfl) rfl
theorem wd6_229 : (Cond.code ({ cls := "GalleyRoomModel", name := "mustNumber", desc := "(II)V" } : Jvm.MethodName) prog_12_method_41_code (3 : Nat) (Option.none : Option Jvm.ClassFile.FieldType)) ∈ lwG := lwG_6 (List.mem_of_getElem? (i := 229) rfl) rfl
theorem wd6_228 : (Cond.instanceMethod ({ cls := "GalleyRoomModel", name := "mustNumber", desc := "(II)V" } : Jvm.MethodName)) ∈ lwG := lwG_6 (List.mem_of_getElem? (i := 228) rfl) rfl
theorem sel_GalleyRoomModel_mustNumber__II_V : Cond.selects "GalleyRoomModel" ({ cls := "GalleyRoomModel", name := "mustNumber", desc := "(II)V" } : Jvm.MethodName) ({ cls := "GalleyRoomModel", name := "mustNumber", desc := "(II)V" } : Jvm.MethodName) ∈ lwG := lwG_mem (List.mem_append_left _ (List.mem_of_getElem? (i := 62) rfl)) rfl
theorem wd6_195 : (Cond.methodLink "GalleyRoomModel" (221 : Nat) ({ cls := "GalleyRoomModel", name := "readSum", desc := "(I)V" } : Jvm.MethodName)) ∈ lwG := lwG_6 (List.mem_of_getElem? (i := 195) rfl) rfl
theorem wd6_198 : (Cond.code ({ cls := "GalleyRoomModel", name := "readSum", desc := "(I)V" } : Jvm.MethodName) prog_12_method_48_code (3 : Nat) (Option.none : Option Jvm.ClassFile.FieldType)) ∈ lwG := lwG_6 (List.mem_of_getElem? (i := 198) rfl) rfl
theorem wd6_197 : (Cond.instanceMethod ({ cls := "GalleyRoomModel", name := "readSum", desc := "(I)V" } : Jvm.MethodName)) ∈ lwG := lwG_6 (List.mem_of_getElem? (i := 197) rfl) rfl
theorem sel_GalleyRoomModel_readSum__I_V : Cond.selects "GalleyRoomModel" ({ cls := "GalleyRoomModel", name := "readSum", desc := "(I)V" } : Jvm.MethodName) ({ cls := "GalleyRoomModel", name := "readSum", desc := "(I)V" } : Jvm.MethodName) ∈ lwG := lwG_mem (List.mem_append_left _ (List.mem_of_getElem? (i := 55) rfl)) rfl
theorem wd6_207 : (Cond.methodLink "GalleyRoomModel" (251 : Nat) ({ cls := "GalleyRoomModel", name := "sign", desc := "(C)I" } : Jvm.MethodName)) ∈ lwG := lwG_6 (List.mem_of_getElem? (i := 207) rfl) rfl
theorem wd6_209 : (Cond.code ({ cls := "GalleyRoomModel", name := "sign", desc := "(C)I" } : Jvm.MethodName) prog_12_method_40_code (1 : Nat) (Option.some Jvm.ClassFile.FieldType.int)) ∈ lwG := lwG_6 (List.mem_of_getElem? (i := 209) rfl) rfl
theorem wd6_208 : (Cond.static ({ cls := "GalleyRoomModel", name := "sign", desc := "(C)I" } : Jvm.MethodName)) ∈ lwG := lwG_6 (List.mem_of_getElem? (i := 208) rfl) rfl
theorem wd6_214 : (Cond.methodLink "GalleyRoomModel" (225 : Nat) ({ cls := "GalleyRoomModel", name := "must", desc := "(I)V" } : Jvm.MethodName)) ∈ lwG := lwG_6 (List.mem_of_getElem? (i := 214) rfl) rfl
theorem wd6_217 : (Cond.code ({ cls := "GalleyRoomModel", name := "must", desc := "(I)V" } : Jvm.MethodName) prog_12_method_38_code (2 : Nat) (Option.none : Option Jvm.ClassFile.FieldType)) ∈ lwG := lwG_6 (List.mem_of_getElem? (i := 217) rfl) rfl
theorem wd6_216 : (Cond.instanceMethod ({ cls := "GalleyRoomModel", name := "must", desc := "(I)V" } : Jvm.MethodName)) ∈ lwG := lwG_6 (List.mem_of_getElem? (i := 216) rfl) rfl
theorem sel_GalleyRoomModel_must__I_V : Cond.selects "GalleyRoomModel" ({ cls := "GalleyRoomModel", name := "must", desc := "(I)V" } : Jvm.MethodName) ({ cls := "GalleyRoomModel", name := "must", desc := "(I)V" } : Jvm.MethodName) ∈ lwG := lwG_mem (List.mem_append_left _ (List.mem_of_getElem? (i := 59) rfl)) rfl
theorem wd5_112 : (Cond.fieldLink "GalleyRoomModel" (261 : Nat) "GalleyRoomModel" "firstWord" "I") ∈ lwG := lwG_5 (List.mem_of_getElem? (i := 112) rfl) rfl
theorem fl_10_261 : g_Fl RX10 261 10 8 := ⟨rfl, by decide, RX10, TX10, rfl, inX10, wd5_112⟩
theorem wd5_113 : (Cond.fieldLink "GalleyRoomModel" (264 : Nat) "GalleyRoomModel" "lastWord" "I") ∈ lwG := lwG_5 (List.mem_of_getElem? (i := 113) rfl) rfl
theorem fl_10_264 : g_Fl RX10 264 10 9 := ⟨rfl, by decide, RX10, TX10, rfl, inX10, wd5_113⟩
theorem wd6_203 : (Cond.methodLink "GalleyRoomModel" (258 : Nat) ({ cls := "GalleyRoomModel", name := "readPart", desc := "(I)V" } : Jvm.MethodName)) ∈ lwG := lwG_6 (List.mem_of_getElem? (i := 203) rfl) rfl
theorem wd6_206 : (Cond.code ({ cls := "GalleyRoomModel", name := "readPart", desc := "(I)V" } : Jvm.MethodName) prog_12_method_50_code (3 : Nat) (Option.none : Option Jvm.ClassFile.FieldType)) ∈ lwG := lwG_6 (List.mem_of_getElem? (i := 206) rfl) rfl
theorem wd6_205 : (Cond.instanceMethod ({ cls := "GalleyRoomModel", name := "readPart", desc := "(I)V" } : Jvm.MethodName)) ∈ lwG := lwG_6 (List.mem_of_getElem? (i := 205) rfl) rfl
theorem sel_GalleyRoomModel_readPart__I_V : Cond.selects "GalleyRoomModel" ({ cls := "GalleyRoomModel", name := "readPart", desc := "(I)V" } : Jvm.MethodName) ({ cls := "GalleyRoomModel", name := "readPart", desc := "(I)V" } : Jvm.MethodName) ∈ lwG := lwG_mem (List.mem_append_left _ (List.mem_of_getElem? (i := 57) rfl)) rfl
theorem wd6_199 : (Cond.methodLink "GalleyRoomModel" (255 : Nat) ({ cls := "GalleyRoomModel", name := "readTerm", desc := "(I)V" } : Jvm.MethodName)) ∈ lwG := lwG_6 (List.mem_of_getElem? (i := 199) rfl) rfl
theorem wd6_202 : (Cond.code ({ cls := "GalleyRoomModel", name := "readTerm", desc := "(I)V" } : Jvm.MethodName) prog_12_method_49_code (3 : Nat) (Option.none : Option Jvm.ClassFile.FieldType)) ∈ lwG := lwG_6 (List.mem_of_getElem? (i := 202) rfl) rfl
theorem wd6_201 : (Cond.instanceMethod ({ cls := "GalleyRoomModel", name := "readTerm", desc := "(I)V" } : Jvm.MethodName)) ∈ lwG := lwG_6 (List.mem_of_getElem? (i := 201) rfl) rfl
theorem sel_GalleyRoomModel_readTerm__I_V : Cond.selects "GalleyRoomModel" ({ cls := "GalleyRoomModel", name := "readTerm", desc := "(I)V" } : Jvm.MethodName) ({ cls := "GalleyRoomModel", name := "readTerm", desc := "(I)V" } : Jvm.MethodName) ∈ lwG := lwG_mem (List.mem_append_left _ (List.mem_of_getElem? (i := 56) rfl)) rfl
theorem wd6_230 : (Cond.methodLink "GalleyRoomModel" (228 : Nat) ({ cls := "GalleyRoomModel", name := "readTest", desc := "(I)V" } : Jvm.MethodName)) ∈ lwG := lwG_6 (List.mem_of_getElem? (i := 230) rfl) rfl
theorem wd6_233 : (Cond.code ({ cls := "GalleyRoomModel", name := "readTest", desc := "(I)V" } : Jvm.MethodName) prog_12_method_45_code (3 : Nat) (Option.none : Option Jvm.ClassFile.FieldType)) ∈ lwG := lwG_6 (List.mem_of_getElem? (i := 233) rfl) rfl
theorem wd6_232 : (Cond.instanceMethod ({ cls := "GalleyRoomModel", name := "readTest", desc := "(I)V" } : Jvm.MethodName)) ∈ lwG := lwG_6 (List.mem_of_getElem? (i := 232) rfl) rfl
theorem sel_GalleyRoomModel_readTest__I_V : Cond.selects "GalleyRoomModel" ({ cls := "GalleyRoomModel", name := "readTest", desc := "(I)V" } : Jvm.MethodName) ({ cls := "GalleyRoomModel", name := "readTest", desc := "(I)V" } : Jvm.MethodName) ∈ lwG := lwG_mem (List.mem_append_left _ (List.mem_of_getElem? (i := 63) rfl)) rfl
theorem wd6_238 : (Cond.methodLink "GalleyRoomModel" (248 : Nat) ({ cls := "GalleyRoomModel", name := "readPlain", desc := "(I)V" } : Jvm.MethodName)) ∈ lwG := lwG_6 (List.mem_of_getElem? (i := 238) rfl) rfl
theorem wd7_1 : (Cond.code ({ cls := "GalleyRoomModel", name := "readPlain", desc := "(I)V" } : Jvm.MethodName) prog_12_method_47_code (5 : Nat) (Option.none : Option Jvm.ClassFile.FieldType)) ∈ lwG := lwG_7 (List.mem_of_getElem? (i := 1) rfl) rfl
theorem wd7_0 : (Cond.instanceMethod ({ cls := "GalleyRoomModel", name := "readPlain", desc := "(I)V" } : Jvm.MethodName)) ∈ lwG := lwG_7 (List.mem_of_getElem? (i := 0) rfl) rfl
theorem sel_GalleyRoomModel_readPlain__I_V : Cond.selects "GalleyRoomModel" ({ cls := "GalleyRoomModel", name := "readPlain", desc := "(I)V" } : Jvm.MethodName) ({ cls := "GalleyRoomModel", name := "readPlain", desc := "(I)V" } : Jvm.MethodName) ∈ lwG := lwG_mem (List.mem_append_left _ (List.mem_of_getElem? (i := 65) rfl)) rfl
theorem wd6_234 : (Cond.methodLink "GalleyRoomModel" (245 : Nat) ({ cls := "GalleyRoomModel", name := "readBoth", desc := "(I)V" } : Jvm.MethodName)) ∈ lwG := lwG_6 (List.mem_of_getElem? (i := 234) rfl) rfl
theorem wd6_237 : (Cond.code ({ cls := "GalleyRoomModel", name := "readBoth", desc := "(I)V" } : Jvm.MethodName) prog_12_method_46_code (3 : Nat) (Option.none : Option Jvm.ClassFile.FieldType)) ∈ lwG := lwG_6 (List.mem_of_getElem? (i := 237) rfl) rfl
theorem wd6_236 : (Cond.instanceMethod ({ cls := "GalleyRoomModel", name := "readBoth", desc := "(I)V" } : Jvm.MethodName)) ∈ lwG := lwG_6 (List.mem_of_getElem? (i := 236) rfl) rfl
theorem sel_GalleyRoomModel_readBoth__I_V : Cond.selects "GalleyRoomModel" ({ cls := "GalleyRoomModel", name := "readBoth", desc := "(I)V" } : Jvm.MethodName) ({ cls := "GalleyRoomModel", name := "readBoth", desc := "(I)V" } : Jvm.MethodName) ∈ lwG := lwG_mem (List.mem_append_left _ (List.mem_of_getElem? (i := 64) rfl)) rfl
theorem wd7_2 : (Cond.methodLink "GalleyRoomModel" (242 : Nat) ({ cls := "GalleyRoomModel", name := "readClause", desc := "()V" } : Jvm.MethodName)) ∈ lwG := lwG_7 (List.mem_of_getElem? (i := 2) rfl) rfl
theorem wd7_5 : (Cond.code ({ cls := "GalleyRoomModel", name := "readClause", desc := "()V" } : Jvm.MethodName) prog_12_method_42_code (2 : Nat) (Option.none : Option Jvm.ClassFile.FieldType)) ∈ lwG := lwG_7 (List.mem_of_getElem? (i := 5) rfl) rfl
theorem wd7_4 : (Cond.instanceMethod ({ cls := "GalleyRoomModel", name := "readClause", desc := "()V" } : Jvm.MethodName)) ∈ lwG := lwG_7 (List.mem_of_getElem? (i := 4) rfl) rfl
theorem sel_GalleyRoomModel_readClause___V : Cond.selects "GalleyRoomModel" ({ cls := "GalleyRoomModel", name := "readClause", desc := "()V" } : Jvm.MethodName) ({ cls := "GalleyRoomModel", name := "readClause", desc := "()V" } : Jvm.MethodName) ∈ lwG := lwG_mem (List.mem_append_left _ (List.mem_of_getElem? (i := 66) rfl)) rfl
theorem wd6_183 : (Cond.methodLink "GalleyRoomModel" (239 : Nat) ({ cls := "GalleyRoomModel", name := "readOrder", desc := "()V" } : Jvm.MethodName)) ∈ lwG := lwG_6 (List.mem_of_getElem? (i := 183) rfl) rfl
theorem wd6_186 : (Cond.code ({ cls := "GalleyRoomModel", name := "readOrder", desc := "()V" } : Jvm.MethodName) prog_12_method_43_code (1 : Nat) (Option.none : Option Jvm.ClassFile.FieldType)) ∈ lwG := lwG_6 (List.mem_of_getElem? (i := 186) rfl) rfl
theorem wd6_185 : (Cond.instanceMethod ({ cls := "GalleyRoomModel", name := "readOrder", desc := "()V" } : Jvm.MethodName)) ∈ lwG := lwG_6 (List.mem_of_getElem? (i := 185) rfl) rfl
theorem sel_GalleyRoomModel_readOrder___V : Cond.selects "GalleyRoomModel" ({ cls := "GalleyRoomModel", name := "readOrder", desc := "()V" } : Jvm.MethodName) ({ cls := "GalleyRoomModel", name := "readOrder", desc := "()V" } : Jvm.MethodName) ∈ lwG := lwG_mem (List.mem_append_left _ (List.mem_of_getElem? (i := 52) rfl)) rfl
theorem wd5_118 : (Cond.fieldLink "GalleyRoomModel" (47 : Nat) "GalleyRoomModel" "fault" "I") ∈ lwG := lwG_5 (List.mem_of_getElem? (i := 118) rfl) rfl
theorem fp_10_47 : g_Fp RX10 47 10 14 .int := ⟨rfl, by decide, RX10, TX10, tyX10, rfl, inX10, wd5_118, tyX10_ok, nmX10, rfl, tyX10_ok 14 (by decide)⟩
theorem wd6_179 : (Cond.methodLink "GalleyRoomModel" (273 : Nat) ({ cls := "GalleyRoomModel", name := "readOne", desc := "()V" } : Jvm.MethodName)) ∈ lwG := lwG_6 (List.mem_of_getElem? (i := 179) rfl) rfl
theorem wd6_182 : (Cond.code ({ cls := "GalleyRoomModel", name := "readOne", desc := "()V" } : Jvm.MethodName) prog_12_method_44_code (1 : Nat) (Option.none : Option Jvm.ClassFile.FieldType)) ∈ lwG := lwG_6 (List.mem_of_getElem? (i := 182) rfl) rfl
theorem wd6_181 : (Cond.instanceMethod ({ cls := "GalleyRoomModel", name := "readOne", desc := "()V" } : Jvm.MethodName)) ∈ lwG := lwG_6 (List.mem_of_getElem? (i := 181) rfl) rfl
theorem sel_GalleyRoomModel_readOne___V : Cond.selects "GalleyRoomModel" ({ cls := "GalleyRoomModel", name := "readOne", desc := "()V" } : Jvm.MethodName) ({ cls := "GalleyRoomModel", name := "readOne", desc := "()V" } : Jvm.MethodName) ∈ lwG := lwG_mem (List.mem_append_left _ (List.mem_of_getElem? (i := 51) rfl)) rfl
theorem wd6_164 : (Cond.methodLink "GalleyRoomModel" (270 : Nat) ({ cls := "GalleyRoomModel", name := "splits", desc := "(I)V" } : Jvm.MethodName)) ∈ lwG := lwG_6 (List.mem_of_getElem? (i := 164) rfl) rfl
theorem wd6_167 : (Cond.code ({ cls := "GalleyRoomModel", name := "splits", desc := "(I)V" } : Jvm.MethodName) prog_12_method_33_code (6 : Nat) (Option.none : Option Jvm.ClassFile.FieldType)) ∈ lwG := lwG_6 (List.mem_of_getElem? (i := 167) rfl) rfl
theorem wd6_166 : (Cond.instanceMethod ({ cls := "GalleyRoomModel", name := "splits", desc := "(I)V" } : Jvm.MethodName)) ∈ lwG := lwG_6 (List.mem_of_getElem? (i := 166) rfl) rfl
theorem sel_GalleyRoomModel_splits__I_V : Cond.selects "GalleyRoomModel" ({ cls := "GalleyRoomModel", name := "splits", desc := "(I)V" } : Jvm.MethodName) ({ cls := "GalleyRoomModel", name := "splits", desc := "(I)V" } : Jvm.MethodName) ∈ lwG := lwG_mem (List.mem_append_left _ (List.mem_of_getElem? (i := 49) rfl)) rfl
theorem fp_10_261 : g_Fp RX10 261 10 8 .int := ⟨rfl, by decide, RX10, TX10, tyX10, rfl, inX10, wd5_112, tyX10_ok, nmX10, rfl, tyX10_ok 8 (by decide)⟩
theorem fp_10_264 : g_Fp RX10 264 10 9 .int := ⟨rfl, by decide, RX10, TX10, tyX10, rfl, inX10, wd5_113, tyX10_ok, nmX10, rfl, tyX10_ok 9 (by decide)⟩
theorem wd6_160 : (Cond.methodLink "GalleyRoomModel" (276 : Nat) ({ cls := "GalleyRoomModel", name := "reads", desc := "()Z" } : Jvm.MethodName)) ∈ lwG := lwG_6 (List.mem_of_getElem? (i := 160) rfl) rfl
theorem wd6_163 : (Cond.code ({ cls := "GalleyRoomModel", name := "reads", desc := "()Z" } : Jvm.MethodName) prog_12_method_51_code (2 : Nat) (Option.some Jvm.ClassFile.FieldType.boolean)) ∈ lwG := lwG_6 (List.mem_of_getElem? (i := 163) rfl) rfl
theorem wd6_162 : (Cond.instanceMethod ({ cls := "GalleyRoomModel", name := "reads", desc := "()Z" } : Jvm.MethodName)) ∈ lwG := lwG_6 (List.mem_of_getElem? (i := 162) rfl) rfl
theorem sel_GalleyRoomModel_reads___Z : Cond.selects "GalleyRoomModel" ({ cls := "GalleyRoomModel", name := "reads", desc := "()Z" } : Jvm.MethodName) ({ cls := "GalleyRoomModel", name := "reads", desc := "()Z" } : Jvm.MethodName) ∈ lwG := lwG_mem (List.mem_append_left _ (List.mem_of_getElem? (i := 48) rfl)) rfl
theorem fp_10_235 : g_Fp RX10 235 10 10 .boolean := ⟨rfl, by decide, RX10, TX10, tyX10, rfl, inX10, wd5_114, tyX10_ok, nmX10, rfl, tyX10_ok 10 (by decide)⟩
theorem wd6_156 : (Cond.methodLink "GalleyRoomModel" (279 : Nat) ({ cls := "GalleyRoomModel", name := "readsAs", desc := "(Z)Z" } : Jvm.MethodName)) ∈ lwG := lwG_6 (List.mem_of_getElem? (i := 156) rfl) rfl
theorem wd6_159 : (Cond.code ({ cls := "GalleyRoomModel", name := "readsAs", desc := "(Z)Z" } : Jvm.MethodName) prog_12_method_52_code (2 : Nat) (Option.some Jvm.ClassFile.FieldType.boolean)) ∈ lwG := lwG_6 (List.mem_of_getElem? (i := 159) rfl) rfl
theorem wd6_158 : (Cond.instanceMethod ({ cls := "GalleyRoomModel", name := "readsAs", desc := "(Z)Z" } : Jvm.MethodName)) ∈ lwG := lwG_6 (List.mem_of_getElem? (i := 158) rfl) rfl
theorem sel_GalleyRoomModel_readsAs__Z_Z : Cond.selects "GalleyRoomModel" ({ cls := "GalleyRoomModel", name := "readsAs", desc := "(Z)Z" } : Jvm.MethodName) ({ cls := "GalleyRoomModel", name := "readsAs", desc := "(Z)Z" } : Jvm.MethodName) ∈ lwG := lwG_mem (List.mem_append_left _ (List.mem_of_getElem? (i := 47) rfl)) rfl
theorem wd7_6 : (Cond.methodLink "GalleyRoomModel" (283 : Nat) ({ cls := "GalleyRoomModel", name := "laysOps", desc := "(I)V" } : Jvm.MethodName)) ∈ lwG := lwG_7 (List.mem_of_getElem? (i := 6) rfl) rfl
theorem wd7_9 : (Cond.code ({ cls := "GalleyRoomModel", name := "laysOps", desc := "(I)V" } : Jvm.MethodName) prog_12_method_54_code (3 : Nat) (Option.none : Option Jvm.ClassFile.FieldType)) ∈ lwG := lwG_7 (List.mem_of_getElem? (i := 9) rfl) rfl
theorem wd7_8 : (Cond.instanceMethod ({ cls := "GalleyRoomModel", name := "laysOps", desc := "(I)V" } : Jvm.MethodName)) ∈ lwG := lwG_7 (List.mem_of_getElem? (i := 8) rfl) rfl
theorem sel_GalleyRoomModel_laysOps__I_V : Cond.selects "GalleyRoomModel" ({ cls := "GalleyRoomModel", name := "laysOps", desc := "(I)V" } : Jvm.MethodName) ({ cls := "GalleyRoomModel", name := "laysOps", desc := "(I)V" } : Jvm.MethodName) ∈ lwG := lwG_mem (List.mem_append_left _ (List.mem_of_getElem? (i := 67) rfl)) rfl
theorem fl_10_47 : g_Fl RX10 47 10 14 := ⟨rfl, by decide, RX10, TX10, rfl, inX10, wd5_118⟩
theorem wd7_18 : (Cond.methodLink "GalleyRoomModel" (286 : Nat) ({ cls := "GalleyRoomModel", name := "isLaw", desc := "(I)Z" } : Jvm.MethodName)) ∈ lwG := lwG_7 (List.mem_of_getElem? (i := 18) rfl) rfl
theorem wd7_21 : (Cond.code ({ cls := "GalleyRoomModel", name := "isLaw", desc := "(I)Z" } : Jvm.MethodName) prog_12_method_57_code (2 : Nat) (Option.some Jvm.ClassFile.FieldType.boolean)) ∈ lwG := lwG_7 (List.mem_of_getElem? (i := 21) rfl) rfl
theorem wd7_20 : (Cond.instanceMethod ({ cls := "GalleyRoomModel", name := "isLaw", desc := "(I)Z" } : Jvm.MethodName)) ∈ lwG := lwG_7 (List.mem_of_getElem? (i := 20) rfl) rfl
theorem sel_GalleyRoomModel_isLaw__I_Z : Cond.selects "GalleyRoomModel" ({ cls := "GalleyRoomModel", name := "isLaw", desc := "(I)Z" } : Jvm.MethodName) ({ cls := "GalleyRoomModel", name := "isLaw", desc := "(I)Z" } : Jvm.MethodName) ∈ lwG := lwG_mem (List.mem_append_left _ (List.mem_of_getElem? (i := 68) rfl)) rfl
theorem wd5_130 : (Cond.fieldLink "GalleyRoomModel" (289 : Nat) "GalleyRoomModel" "goEnd" "I") ∈ lwG := lwG_5 (List.mem_of_getElem? (i := 130) rfl) rfl
theorem fl_10_289 : g_Fl RX10 289 10 26 := ⟨rfl, by decide, RX10, TX10, rfl, inX10, wd5_130⟩
theorem wd5_129 : (Cond.fieldLink "GalleyRoomModel" (292 : Nat) "GalleyRoomModel" "go" "I") ∈ lwG := lwG_5 (List.mem_of_getElem? (i := 129) rfl) rfl
theorem fl_10_292 : g_Fl RX10 292 10 25 := ⟨rfl, by decide, RX10, TX10, rfl, inX10, wd5_129⟩
theorem wd8_89 : (Cond.methodLink "GalleyRoomModel" (295 : Nat) ({ cls := "GalleyRoomModel", name := "codeAt", desc := "(I)I" } : Jvm.MethodName)) ∈ lwG := lwG_8 (List.mem_of_getElem? (i := 89) rfl) rfl
theorem wd8_92 : (Cond.code ({ cls := "GalleyRoomModel", name := "codeAt", desc := "(I)I" } : Jvm.MethodName) prog_12_method_59_code (2 : Nat) (Option.some Jvm.ClassFile.FieldType.int)) ∈ lwG := lwG_8 (List.mem_of_getElem? (i := 92) rfl) rfl
theorem wd8_91 : (Cond.instanceMethod ({ cls := "GalleyRoomModel", name := "codeAt", desc := "(I)I" } : Jvm.MethodName)) ∈ lwG := lwG_8 (List.mem_of_getElem? (i := 91) rfl) rfl
theorem sel_GalleyRoomModel_codeAt__I_I : Cond.selects "GalleyRoomModel" ({ cls := "GalleyRoomModel", name := "codeAt", desc := "(I)I" } : Jvm.MethodName) ({ cls := "GalleyRoomModel", name := "codeAt", desc := "(I)I" } : Jvm.MethodName) ∈ lwG := lwG_mem (List.mem_append_left _ (List.mem_of_getElem? (i := 116) rfl)) rfl
theorem fp_10_292 : g_Fp RX10 292 10 25 .int := ⟨rfl, by decide, RX10, TX10, tyX10, rfl, inX10, wd5_129, tyX10_ok, nmX10, rfl, tyX10_ok 25 (by decide)⟩
theorem wd5_131 : (Cond.fieldLink "GalleyRoomModel" (302 : Nat) "GalleyRoomModel" "broken" "Z") ∈ lwG := lwG_5 (List.mem_of_getElem? (i := 131) rfl) rfl
theorem fl_10_302 : g_Fl RX10 302 10 27 := ⟨rfl, by decide, RX10, TX10, rfl, inX10, wd5_131⟩
theorem wd7_80 : (Cond.constantLong "GalleyRoomModel" (298 : Nat) (1000000000 : Int64)) ∈ lwG := lwG_7 (List.mem_of_getElem? (i := 80) rfl) rfl
theorem fp_10_302 : g_Fp RX10 302 10 27 .boolean := ⟨rfl, by decide, RX10, TX10, tyX10, rfl, inX10, wd5_131, tyX10_ok, nmX10, rfl, tyX10_ok 27 (by decide)⟩
theorem wd7_81 : (Cond.constantLong "GalleyRoomModel" (300 : Nat) (-1000000000 : Int64)) ∈ lwG := lwG_7 (List.mem_of_getElem? (i := 81) rfl) rfl
theorem wd5_133 : (Cond.fieldLink "GalleyRoomModel" (325 : Nat) "GalleyRoomModel" "orderDone" "I") ∈ lwG := lwG_5 (List.mem_of_getElem? (i := 133) rfl) rfl
theorem fl_10_325 : g_Fl RX10 325 10 29 := ⟨rfl, by decide, RX10, TX10, rfl, inX10, wd5_133⟩
theorem wd5_134 : (Cond.fieldLink "GalleyRoomModel" (328 : Nat) "GalleyRoomModel" "orderLatest" "I") ∈ lwG := lwG_5 (List.mem_of_getElem? (i := 134) rfl) rfl
theorem fl_10_328 : g_Fl RX10 328 10 30 := ⟨rfl, by decide, RX10, TX10, rfl, inX10, wd5_134⟩
theorem wd5_135 : (Cond.fieldLink "GalleyRoomModel" (331 : Nat) "GalleyRoomModel" "orderLines" "I") ∈ lwG := lwG_5 (List.mem_of_getElem? (i := 135) rfl) rfl
theorem fl_10_331 : g_Fl RX10 331 10 31 := ⟨rfl, by decide, RX10, TX10, rfl, inX10, wd5_135⟩
theorem wd5_136 : (Cond.fieldLink "GalleyRoomModel" (334 : Nat) "GalleyRoomModel" "orderFit" "I") ∈ lwG := lwG_5 (List.mem_of_getElem? (i := 136) rfl) rfl
theorem fl_10_334 : g_Fl RX10 334 10 32 := ⟨rfl, by decide, RX10, TX10, rfl, inX10, wd5_136⟩
theorem wd8_109 : (Cond.methodLink "GalleyRoomModel" (322 : Nat) ({ cls := "GalleyRoomModel", name := "orderValue", desc := "(II)I" } : Jvm.MethodName)) ∈ lwG := lwG_8 (List.mem_of_getElem? (i := 109) rfl) rfl
theorem wd8_112 : (Cond.code ({ cls := "GalleyRoomModel", name := "orderValue", desc := "(II)I" } : Jvm.MethodName) prog_12_method_65_code (3 : Nat) (Option.some Jvm.ClassFile.FieldType.int)) ∈ lwG := lwG_8 (List.mem_of_getElem? (i := 112) rfl) rfl
theorem wd8_111 : (Cond.instanceMethod ({ cls := "GalleyRoomModel", name := "orderValue", desc := "(II)I" } : Jvm.MethodName)) ∈ lwG := lwG_8 (List.mem_of_getElem? (i := 111) rfl) rfl
theorem sel_GalleyRoomModel_orderValue__II_I : Cond.selects "GalleyRoomModel" ({ cls := "GalleyRoomModel", name := "orderValue", desc := "(II)I" } : Jvm.MethodName) ({ cls := "GalleyRoomModel", name := "orderValue", desc := "(II)I" } : Jvm.MethodName) ∈ lwG := lwG_mem (List.mem_append_left _ (List.mem_of_getElem? (i := 121) rfl)) rfl
theorem wd8_105 : (Cond.methodLink "GalleyRoomModel" (316 : Nat) ({ cls := "GalleyRoomModel", name := "passes0", desc := "(I)Z" } : Jvm.MethodName)) ∈ lwG := lwG_8 (List.mem_of_getElem? (i := 105) rfl) rfl
theorem wd8_108 : (Cond.code ({ cls := "GalleyRoomModel", name := "passes0", desc := "(I)Z" } : Jvm.MethodName) prog_12_method_60_code (3 : Nat) (Option.some Jvm.ClassFile.FieldType.boolean)) ∈ lwG := lwG_8 (List.mem_of_getElem? (i := 108) rfl) rfl
theorem wd8_107 : (Cond.instanceMethod ({ cls := "GalleyRoomModel", name := "passes0", desc := "(I)Z" } : Jvm.MethodName)) ∈ lwG := lwG_8 (List.mem_of_getElem? (i := 107) rfl) rfl
theorem sel_GalleyRoomModel_passes0__I_Z : Cond.selects "GalleyRoomModel" ({ cls := "GalleyRoomModel", name := "passes0", desc := "(I)Z" } : Jvm.MethodName) ({ cls := "GalleyRoomModel", name := "passes0", desc := "(I)Z" } : Jvm.MethodName) ∈ lwG := lwG_mem (List.mem_append_left _ (List.mem_of_getElem? (i := 120) rfl)) rfl
theorem wd8_93 : (Cond.methodLink "GalleyRoomModel" (319 : Nat) ({ cls := "GalleyRoomModel", name := "sumOf", desc := "(Z)J" } : Jvm.MethodName)) ∈ lwG := lwG_8 (List.mem_of_getElem? (i := 93) rfl) rfl
theorem wd8_96 : (Cond.code ({ cls := "GalleyRoomModel", name := "sumOf", desc := "(Z)J" } : Jvm.MethodName) prog_12_method_62_code (7 : Nat) (Option.some Jvm.ClassFile.FieldType.long)) ∈ lwG := lwG_8 (List.mem_of_getElem? (i := 96) rfl) rfl
theorem wd8_95 : (Cond.instanceMethod ({ cls := "GalleyRoomModel", name := "sumOf", desc := "(Z)J" } : Jvm.MethodName)) ∈ lwG := lwG_8 (List.mem_of_getElem? (i := 95) rfl) rfl
theorem sel_GalleyRoomModel_sumOf__Z_J : Cond.selects "GalleyRoomModel" ({ cls := "GalleyRoomModel", name := "sumOf", desc := "(Z)J" } : Jvm.MethodName) ({ cls := "GalleyRoomModel", name := "sumOf", desc := "(Z)J" } : Jvm.MethodName) ∈ lwG := lwG_mem (List.mem_append_left _ (List.mem_of_getElem? (i := 117) rfl)) rfl
theorem wd7_76 : (Cond.methodLink "GalleyRoomModel" (309 : Nat) ({ cls := "GalleyRoomModel", name := "bounded", desc := "(JZ)J" } : Jvm.MethodName)) ∈ lwG := lwG_7 (List.mem_of_getElem? (i := 76) rfl) rfl
theorem wd7_79 : (Cond.code ({ cls := "GalleyRoomModel", name := "bounded", desc := "(JZ)J" } : Jvm.MethodName) prog_12_method_61_code (4 : Nat) (Option.some Jvm.ClassFile.FieldType.long)) ∈ lwG := lwG_7 (List.mem_of_getElem? (i := 79) rfl) rfl
theorem wd7_78 : (Cond.instanceMethod ({ cls := "GalleyRoomModel", name := "bounded", desc := "(JZ)J" } : Jvm.MethodName)) ∈ lwG := lwG_7 (List.mem_of_getElem? (i := 78) rfl) rfl
theorem sel_GalleyRoomModel_bounded__JZ_J : Cond.selects "GalleyRoomModel" ({ cls := "GalleyRoomModel", name := "bounded", desc := "(JZ)J" } : Jvm.MethodName) ({ cls := "GalleyRoomModel", name := "bounded", desc := "(JZ)J" } : Jvm.MethodName) ∈ lwG := lwG_mem (List.mem_append_left _ (List.mem_of_getElem? (i := 80) rfl)) rfl
theorem wd8_101 : (Cond.methodLink "GalleyRoomModel" (313 : Nat) ({ cls := "GalleyRoomModel", name := "partOf", desc := "(Z)J" } : Jvm.MethodName)) ∈ lwG := lwG_8 (List.mem_of_getElem? (i := 101) rfl) rfl
theorem wd8_104 : (Cond.code ({ cls := "GalleyRoomModel", name := "partOf", desc := "(Z)J" } : Jvm.MethodName) prog_12_method_64_code (4 : Nat) (Option.some Jvm.ClassFile.FieldType.long)) ∈ lwG := lwG_8 (List.mem_of_getElem? (i := 104) rfl) rfl
theorem wd8_103 : (Cond.instanceMethod ({ cls := "GalleyRoomModel", name := "partOf", desc := "(Z)J" } : Jvm.MethodName)) ∈ lwG := lwG_8 (List.mem_of_getElem? (i := 103) rfl) rfl
theorem sel_GalleyRoomModel_partOf__Z_J : Cond.selects "GalleyRoomModel" ({ cls := "GalleyRoomModel", name := "partOf", desc := "(Z)J" } : Jvm.MethodName) ({ cls := "GalleyRoomModel", name := "partOf", desc := "(Z)J" } : Jvm.MethodName) ∈ lwG := lwG_mem (List.mem_append_left _ (List.mem_of_getElem? (i := 119) rfl)) rfl
theorem wd8_97 : (Cond.methodLink "GalleyRoomModel" (305 : Nat) ({ cls := "GalleyRoomModel", name := "termOf", desc := "(Z)J" } : Jvm.MethodName)) ∈ lwG := lwG_8 (List.mem_of_getElem? (i := 97) rfl) rfl
theorem wd8_100 : (Cond.code ({ cls := "GalleyRoomModel", name := "termOf", desc := "(Z)J" } : Jvm.MethodName) prog_12_method_63_code (7 : Nat) (Option.some Jvm.ClassFile.FieldType.long)) ∈ lwG := lwG_8 (List.mem_of_getElem? (i := 100) rfl) rfl
theorem wd8_99 : (Cond.instanceMethod ({ cls := "GalleyRoomModel", name := "termOf", desc := "(Z)J" } : Jvm.MethodName)) ∈ lwG := lwG_8 (List.mem_of_getElem? (i := 99) rfl) rfl
theorem sel_GalleyRoomModel_termOf__Z_J : Cond.selects "GalleyRoomModel" ({ cls := "GalleyRoomModel", name := "termOf", desc := "(Z)J" } : Jvm.MethodName) ({ cls := "GalleyRoomModel", name := "termOf", desc := "(Z)J" } : Jvm.MethodName) ∈ lwG := lwG_mem (List.mem_append_left _ (List.mem_of_getElem? (i := 118) rfl)) rfl
theorem wd8_113 : (Cond.methodLink "GalleyRoomModel" (346 : Nat) ({ cls := "GalleyRoomModel", name := "testOf", desc := "(Z)Z" } : Jvm.MethodName)) ∈ lwG := lwG_8 (List.mem_of_getElem? (i := 113) rfl) rfl
theorem wd8_116 : (Cond.code ({ cls := "GalleyRoomModel", name := "testOf", desc := "(Z)Z" } : Jvm.MethodName) prog_12_method_66_code (4 : Nat) (Option.some Jvm.ClassFile.FieldType.boolean)) ∈ lwG := lwG_8 (List.mem_of_getElem? (i := 116) rfl) rfl
theorem wd8_115 : (Cond.instanceMethod ({ cls := "GalleyRoomModel", name := "testOf", desc := "(Z)Z" } : Jvm.MethodName)) ∈ lwG := lwG_8 (List.mem_of_getElem? (i := 115) rfl) rfl
theorem sel_GalleyRoomModel_testOf__Z_Z : Cond.selects "GalleyRoomModel" ({ cls := "GalleyRoomModel", name := "testOf", desc := "(Z)Z" } : Jvm.MethodName) ({ cls := "GalleyRoomModel", name := "testOf", desc := "(Z)Z" } : Jvm.MethodName) ∈ lwG := lwG_mem (List.mem_append_left _ (List.mem_of_getElem? (i := 122) rfl)) rfl
theorem wd8_125 : (Cond.methodLink "GalleyRoomModel" (343 : Nat) ({ cls := "GalleyRoomModel", name := "positiveOf", desc := "(Z)Z" } : Jvm.MethodName)) ∈ lwG := lwG_8 (List.mem_of_getElem? (i := 125) rfl) rfl
theorem wd8_128 : (Cond.code ({ cls := "GalleyRoomModel", name := "positiveOf", desc := "(Z)Z" } : Jvm.MethodName) prog_12_method_69_code (7 : Nat) (Option.some Jvm.ClassFile.FieldType.boolean)) ∈ lwG := lwG_8 (List.mem_of_getElem? (i := 128) rfl) rfl
theorem wd8_127 : (Cond.instanceMethod ({ cls := "GalleyRoomModel", name := "positiveOf", desc := "(Z)Z" } : Jvm.MethodName)) ∈ lwG := lwG_8 (List.mem_of_getElem? (i := 127) rfl) rfl
theorem sel_GalleyRoomModel_positiveOf__Z_Z : Cond.selects "GalleyRoomModel" ({ cls := "GalleyRoomModel", name := "positiveOf", desc := "(Z)Z" } : Jvm.MethodName) ({ cls := "GalleyRoomModel", name := "positiveOf", desc := "(Z)Z" } : Jvm.MethodName) ∈ lwG := lwG_mem (List.mem_append_left _ (List.mem_of_getElem? (i := 125) rfl)) rfl
theorem wd8_121 : (Cond.methodLink "GalleyRoomModel" (340 : Nat) ({ cls := "GalleyRoomModel", name := "plainOf", desc := "(Z)Z" } : Jvm.MethodName)) ∈ lwG := lwG_8 (List.mem_of_getElem? (i := 121) rfl) rfl
theorem wd8_124 : (Cond.code ({ cls := "GalleyRoomModel", name := "plainOf", desc := "(Z)Z" } : Jvm.MethodName) prog_12_method_68_code (3 : Nat) (Option.some Jvm.ClassFile.FieldType.boolean)) ∈ lwG := lwG_8 (List.mem_of_getElem? (i := 124) rfl) rfl
theorem wd8_123 : (Cond.instanceMethod ({ cls := "GalleyRoomModel", name := "plainOf", desc := "(Z)Z" } : Jvm.MethodName)) ∈ lwG := lwG_8 (List.mem_of_getElem? (i := 123) rfl) rfl
theorem sel_GalleyRoomModel_plainOf__Z_Z : Cond.selects "GalleyRoomModel" ({ cls := "GalleyRoomModel", name := "plainOf", desc := "(Z)Z" } : Jvm.MethodName) ({ cls := "GalleyRoomModel", name := "plainOf", desc := "(Z)Z" } : Jvm.MethodName) ∈ lwG := lwG_mem (List.mem_append_left _ (List.mem_of_getElem? (i := 124) rfl)) rfl
theorem wd8_117 : (Cond.methodLink "GalleyRoomModel" (337 : Nat) ({ cls := "GalleyRoomModel", name := "bothOf", desc := "(Z)Z" } : Jvm.MethodName)) ∈ lwG := lwG_8 (List.mem_of_getElem? (i := 117) rfl) rfl
theorem wd8_120 : (Cond.code ({ cls := "GalleyRoomModel", name := "bothOf", desc := "(Z)Z" } : Jvm.MethodName) prog_12_method_67_code (4 : Nat) (Option.some Jvm.ClassFile.FieldType.boolean)) ∈ lwG := lwG_8 (List.mem_of_getElem? (i := 120) rfl) rfl
theorem wd8_119 : (Cond.instanceMethod ({ cls := "GalleyRoomModel", name := "bothOf", desc := "(Z)Z" } : Jvm.MethodName)) ∈ lwG := lwG_8 (List.mem_of_getElem? (i := 119) rfl) rfl
theorem sel_GalleyRoomModel_bothOf__Z_Z : Cond.selects "GalleyRoomModel" ({ cls := "GalleyRoomModel", name := "bothOf", desc := "(Z)Z" } : Jvm.MethodName) ({ cls := "GalleyRoomModel", name := "bothOf", desc := "(Z)Z" } : Jvm.MethodName) ∈ lwG := lwG_mem (List.mem_append_left _ (List.mem_of_getElem? (i := 123) rfl)) rfl
theorem wd5_137 : (Cond.fieldLink "GalleyRoomModel" (68 : Nat) "GalleyRoomModel" "stack" "[J") ∈ lwG := lwG_5 (List.mem_of_getElem? (i := 137) rfl) rfl
theorem fl_10_68 : g_Fl RX10 68 10 33 := ⟨rfl, by decide, RX10, TX10, rfl, inX10, wd5_137⟩
theorem wd5_138 : (Cond.fieldLink "GalleyRoomModel" (349 : Nat) "GalleyRoomModel" "summed" "J") ∈ lwG := lwG_5 (List.mem_of_getElem? (i := 138) rfl) rfl
theorem fp_10_349 : g_Fp RX10 349 10 34 .long := ⟨rfl, by decide, RX10, TX10, tyX10, rfl, inX10, wd5_138, tyX10_ok, nmX10, rfl, tyX10_ok 34 (by decide)⟩
theorem wd7_72 : (Cond.methodLink "GalleyRoomModel" (353 : Nat) ({ cls := "GalleyRoomModel", name := "workedOff", desc := "(IJJ)J" } : Jvm.MethodName)) ∈ lwG := lwG_7 (List.mem_of_getElem? (i := 72) rfl) rfl
theorem wd7_75 : (Cond.code ({ cls := "GalleyRoomModel", name := "workedOff", desc := "(IJJ)J" } : Jvm.MethodName) prog_12_method_70_code (6 : Nat) (Option.some Jvm.ClassFile.FieldType.long)) ∈ lwG := lwG_7 (List.mem_of_getElem? (i := 75) rfl) rfl
theorem wd7_74 : (Cond.instanceMethod ({ cls := "GalleyRoomModel", name := "workedOff", desc := "(IJJ)J" } : Jvm.MethodName)) ∈ lwG := lwG_7 (List.mem_of_getElem? (i := 74) rfl) rfl
theorem sel_GalleyRoomModel_workedOff__IJJ_J : Cond.selects "GalleyRoomModel" ({ cls := "GalleyRoomModel", name := "workedOff", desc := "(IJJ)J" } : Jvm.MethodName) ({ cls := "GalleyRoomModel", name := "workedOff", desc := "(IJJ)J" } : Jvm.MethodName) ∈ lwG := lwG_mem (List.mem_append_left _ (List.mem_of_getElem? (i := 79) rfl)) rfl
theorem wd5_132 : (Cond.fieldLink "GalleyRoomModel" (65 : Nat) "GalleyRoomModel" "asked" "[I") ∈ lwG := lwG_5 (List.mem_of_getElem? (i := 132) rfl) rfl
theorem fl_10_65 : g_Fl RX10 65 10 28 := ⟨rfl, by decide, RX10, TX10, rfl, inX10, wd5_132⟩
theorem wd7_68 : (Cond.methodLink "GalleyRoomModel" (357 : Nat) ({ cls := "GalleyRoomModel", name := "holds", desc := "(III)Z" } : Jvm.MethodName)) ∈ lwG := lwG_7 (List.mem_of_getElem? (i := 68) rfl) rfl
theorem wd7_71 : (Cond.code ({ cls := "GalleyRoomModel", name := "holds", desc := "(III)Z" } : Jvm.MethodName) prog_12_method_71_code (8 : Nat) (Option.some Jvm.ClassFile.FieldType.boolean)) ∈ lwG := lwG_7 (List.mem_of_getElem? (i := 71) rfl) rfl
theorem wd7_70 : (Cond.instanceMethod ({ cls := "GalleyRoomModel", name := "holds", desc := "(III)Z" } : Jvm.MethodName)) ∈ lwG := lwG_7 (List.mem_of_getElem? (i := 70) rfl) rfl
theorem sel_GalleyRoomModel_holds__III_Z : Cond.selects "GalleyRoomModel" ({ cls := "GalleyRoomModel", name := "holds", desc := "(III)Z" } : Jvm.MethodName) ({ cls := "GalleyRoomModel", name := "holds", desc := "(III)Z" } : Jvm.MethodName) ∈ lwG := lwG_mem (List.mem_append_left _ (List.mem_of_getElem? (i := 78) rfl)) rfl
theorem fl_10_349 : g_Fl RX10 349 10 34 := ⟨rfl, by decide, RX10, TX10, rfl, inX10, wd5_138⟩
theorem wd5_142 : (Cond.fieldLink "GalleyRoomModel" (363 : Nat) "GalleyRoomModel" "lineWidth" "I") ∈ lwG := lwG_5 (List.mem_of_getElem? (i := 142) rfl) rfl
theorem fl_10_363 : g_Fl RX10 363 10 38 := ⟨rfl, by decide, RX10, TX10, rfl, inX10, wd5_142⟩
theorem wd5_141 : (Cond.fieldLink "GalleyRoomModel" (366 : Nat) "GalleyRoomModel" "linePieces" "I") ∈ lwG := lwG_5 (List.mem_of_getElem? (i := 141) rfl) rfl
theorem fl_10_366 : g_Fl RX10 366 10 37 := ⟨rfl, by decide, RX10, TX10, rfl, inX10, wd5_141⟩
theorem fp_10_363 : g_Fp RX10 363 10 38 .int := ⟨rfl, by decide, RX10, TX10, tyX10, rfl, inX10, wd5_142, tyX10_ok, nmX10, rfl, tyX10_ok 38 (by decide)⟩
theorem fp_10_366 : g_Fp RX10 366 10 37 .int := ⟨rfl, by decide, RX10, TX10, tyX10, rfl, inX10, wd5_141, tyX10_ok, nmX10, rfl, tyX10_ok 37 (by decide)⟩
theorem wd7_41 : (Cond.methodLink "GalleyRoomModel" (381 : Nat) ({ cls := "GalleyRoomModel", name := "addsPiece", desc := "(I)V" } : Jvm.MethodName)) ∈ lwG := lwG_7 (List.mem_of_getElem? (i := 41) rfl) rfl
theorem wd7_44 : (Cond.code ({ cls := "GalleyRoomModel", name := "addsPiece", desc := "(I)V" } : Jvm.MethodName) prog_12_method_78_code (2 : Nat) (Option.none : Option Jvm.ClassFile.FieldType)) ∈ lwG := lwG_7 (List.mem_of_getElem? (i := 44) rfl) rfl
theorem wd7_43 : (Cond.instanceMethod ({ cls := "GalleyRoomModel", name := "addsPiece", desc := "(I)V" } : Jvm.MethodName)) ∈ lwG := lwG_7 (List.mem_of_getElem? (i := 43) rfl) rfl
theorem sel_GalleyRoomModel_addsPiece__I_V : Cond.selects "GalleyRoomModel" ({ cls := "GalleyRoomModel", name := "addsPiece", desc := "(I)V" } : Jvm.MethodName) ({ cls := "GalleyRoomModel", name := "addsPiece", desc := "(I)V" } : Jvm.MethodName) ∈ lwG := lwG_mem (List.mem_append_left _ (List.mem_of_getElem? (i := 72) rfl)) rfl
theorem wd7_38 : (Cond.methodLink "GalleyRoomModel" (378 : Nat) ({ cls := "GalleyRoomModel", name := "isWithin", desc := "(I)Z" } : Jvm.MethodName)) ∈ lwG := lwG_7 (List.mem_of_getElem? (i := 38) rfl) rfl
theorem wd7_40 : (Cond.code ({ cls := "GalleyRoomModel", name := "isWithin", desc := "(I)Z" } : Jvm.MethodName) prog_12_method_76_code (1 : Nat) (Option.some Jvm.ClassFile.FieldType.boolean)) ∈ lwG := lwG_7 (List.mem_of_getElem? (i := 40) rfl) rfl
theorem wd7_39 : (Cond.static ({ cls := "GalleyRoomModel", name := "isWithin", desc := "(I)Z" } : Jvm.MethodName)) ∈ lwG := lwG_7 (List.mem_of_getElem? (i := 39) rfl) rfl
theorem wd5_143 : (Cond.fieldLink "GalleyRoomModel" (369 : Nat) "GalleyRoomModel" "lineNumber" "I") ∈ lwG := lwG_5 (List.mem_of_getElem? (i := 143) rfl) rfl
theorem fp_10_369 : g_Fp RX10 369 10 39 .int := ⟨rfl, by decide, RX10, TX10, tyX10, rfl, inX10, wd5_143, tyX10_ok, nmX10, rfl, tyX10_ok 39 (by decide)⟩
theorem wd5_144 : (Cond.fieldLink "GalleyRoomModel" (372 : Nat) "GalleyRoomModel" "lineEnd" "I") ∈ lwG := lwG_5 (List.mem_of_getElem? (i := 144) rfl) rfl
theorem fp_10_372 : g_Fp RX10 372 10 40 .int := ⟨rfl, by decide, RX10, TX10, tyX10, rfl, inX10, wd5_144, tyX10_ok, nmX10, rfl, tyX10_ok 40 (by decide)⟩
theorem wd5_145 : (Cond.fieldLink "GalleyRoomModel" (375 : Nat) "GalleyRoomModel" "lineMeasure" "I") ∈ lwG := lwG_5 (List.mem_of_getElem? (i := 145) rfl) rfl
theorem fp_10_375 : g_Fp RX10 375 10 41 .int := ⟨rfl, by decide, RX10, TX10, tyX10, rfl, inX10, wd5_145, tyX10_ok, nmX10, rfl, tyX10_ok 41 (by decide)⟩
theorem fl_10_372 : g_Fl RX10 372 10 40 := ⟨rfl, by decide, RX10, TX10, rfl, inX10, wd5_144⟩
theorem wd7_57 : (Cond.methodLink "GalleyRoomModel" (384 : Nat) ({ cls := "GalleyRoomModel", name := "lastPlace", desc := "()I" } : Jvm.MethodName)) ∈ lwG := lwG_7 (List.mem_of_getElem? (i := 57) rfl) rfl
theorem wd7_60 : (Cond.code ({ cls := "GalleyRoomModel", name := "lastPlace", desc := "()I" } : Jvm.MethodName) prog_12_method_75_code (1 : Nat) (Option.some Jvm.ClassFile.FieldType.int)) ∈ lwG := lwG_7 (List.mem_of_getElem? (i := 60) rfl) rfl
theorem wd7_59 : (Cond.instanceMethod ({ cls := "GalleyRoomModel", name := "lastPlace", desc := "()I" } : Jvm.MethodName)) ∈ lwG := lwG_7 (List.mem_of_getElem? (i := 59) rfl) rfl
theorem sel_GalleyRoomModel_lastPlace___I : Cond.selects "GalleyRoomModel" ({ cls := "GalleyRoomModel", name := "lastPlace", desc := "()I" } : Jvm.MethodName) ({ cls := "GalleyRoomModel", name := "lastPlace", desc := "()I" } : Jvm.MethodName) ∈ lwG := lwG_mem (List.mem_append_left _ (List.mem_of_getElem? (i := 76) rfl)) rfl
theorem fl_10_369 : g_Fl RX10 369 10 39 := ⟨rfl, by decide, RX10, TX10, rfl, inX10, wd5_143⟩
theorem fl_10_375 : g_Fl RX10 375 10 41 := ⟨rfl, by decide, RX10, TX10, rfl, inX10, wd5_145⟩
theorem wd7_53 : (Cond.methodLink "GalleyRoomModel" (387 : Nat) ({ cls := "GalleyRoomModel", name := "isLastLine", desc := "()Z" } : Jvm.MethodName)) ∈ lwG := lwG_7 (List.mem_of_getElem? (i := 53) rfl) rfl
theorem wd7_56 : (Cond.code ({ cls := "GalleyRoomModel", name := "isLastLine", desc := "()Z" } : Jvm.MethodName) prog_12_method_80_code (1 : Nat) (Option.some Jvm.ClassFile.FieldType.boolean)) ∈ lwG := lwG_7 (List.mem_of_getElem? (i := 56) rfl) rfl
theorem wd7_55 : (Cond.instanceMethod ({ cls := "GalleyRoomModel", name := "isLastLine", desc := "()Z" } : Jvm.MethodName)) ∈ lwG := lwG_7 (List.mem_of_getElem? (i := 55) rfl) rfl
theorem sel_GalleyRoomModel_isLastLine___Z : Cond.selects "GalleyRoomModel" ({ cls := "GalleyRoomModel", name := "isLastLine", desc := "()Z" } : Jvm.MethodName) ({ cls := "GalleyRoomModel", name := "isLastLine", desc := "()Z" } : Jvm.MethodName) ∈ lwG := lwG_mem (List.mem_append_left _ (List.mem_of_getElem? (i := 75) rfl)) rfl
theorem wd7_49 : (Cond.methodLink "GalleyRoomModel" (390 : Nat) ({ cls := "GalleyRoomModel", name := "setsAsked", desc := "()V" } : Jvm.MethodName)) ∈ lwG := lwG_7 (List.mem_of_getElem? (i := 49) rfl) rfl
theorem wd7_52 : (Cond.code ({ cls := "GalleyRoomModel", name := "setsAsked", desc := "()V" } : Jvm.MethodName) prog_12_method_81_code (1 : Nat) (Option.none : Option Jvm.ClassFile.FieldType)) ∈ lwG := lwG_7 (List.mem_of_getElem? (i := 52) rfl) rfl
theorem wd7_51 : (Cond.instanceMethod ({ cls := "GalleyRoomModel", name := "setsAsked", desc := "()V" } : Jvm.MethodName)) ∈ lwG := lwG_7 (List.mem_of_getElem? (i := 51) rfl) rfl
theorem sel_GalleyRoomModel_setsAsked___V : Cond.selects "GalleyRoomModel" ({ cls := "GalleyRoomModel", name := "setsAsked", desc := "()V" } : Jvm.MethodName) ({ cls := "GalleyRoomModel", name := "setsAsked", desc := "()V" } : Jvm.MethodName) ∈ lwG := lwG_mem (List.mem_append_left _ (List.mem_of_getElem? (i := 74) rfl)) rfl
theorem wd7_61 : (Cond.methodLink "GalleyRoomModel" (393 : Nat) ({ cls := "GalleyRoomModel", name := "greater", desc := "(II)I" } : Jvm.MethodName)) ∈ lwG := lwG_7 (List.mem_of_getElem? (i := 61) rfl) rfl
theorem wd7_63 : (Cond.code ({ cls := "GalleyRoomModel", name := "greater", desc := "(II)I" } : Jvm.MethodName) prog_12_method_3_code (2 : Nat) (Option.some Jvm.ClassFile.FieldType.int)) ∈ lwG := lwG_7 (List.mem_of_getElem? (i := 63) rfl) rfl
theorem wd7_62 : (Cond.static ({ cls := "GalleyRoomModel", name := "greater", desc := "(II)I" } : Jvm.MethodName)) ∈ lwG := lwG_7 (List.mem_of_getElem? (i := 62) rfl) rfl
theorem wd7_64 : (Cond.methodLink "GalleyRoomModel" (396 : Nat) ({ cls := "GalleyRoomModel", name := "tells", desc := "(III)I" } : Jvm.MethodName)) ∈ lwG := lwG_7 (List.mem_of_getElem? (i := 64) rfl) rfl
theorem wd7_67 : (Cond.code ({ cls := "GalleyRoomModel", name := "tells", desc := "(III)I" } : Jvm.MethodName) prog_12_method_72_code (9 : Nat) (Option.some Jvm.ClassFile.FieldType.int)) ∈ lwG := lwG_7 (List.mem_of_getElem? (i := 67) rfl) rfl
theorem wd7_66 : (Cond.instanceMethod ({ cls := "GalleyRoomModel", name := "tells", desc := "(III)I" } : Jvm.MethodName)) ∈ lwG := lwG_7 (List.mem_of_getElem? (i := 66) rfl) rfl
theorem sel_GalleyRoomModel_tells__III_I : Cond.selects "GalleyRoomModel" ({ cls := "GalleyRoomModel", name := "tells", desc := "(III)I" } : Jvm.MethodName) ({ cls := "GalleyRoomModel", name := "tells", desc := "(III)I" } : Jvm.MethodName) ∈ lwG := lwG_mem (List.mem_append_left _ (List.mem_of_getElem? (i := 77) rfl)) rfl
theorem wd7_86 : (Cond.methodLink "GalleyRoomModel" (400 : Nat) ({ cls := "GalleyRoomModel", name := "isBarred", desc := "()Z" } : Jvm.MethodName)) ∈ lwG := lwG_7 (List.mem_of_getElem? (i := 86) rfl) rfl
theorem wd7_89 : (Cond.code ({ cls := "GalleyRoomModel", name := "isBarred", desc := "()Z" } : Jvm.MethodName) prog_12_method_84_code (1 : Nat) (Option.some Jvm.ClassFile.FieldType.boolean)) ∈ lwG := lwG_7 (List.mem_of_getElem? (i := 89) rfl) rfl
theorem wd7_88 : (Cond.instanceMethod ({ cls := "GalleyRoomModel", name := "isBarred", desc := "()Z" } : Jvm.MethodName)) ∈ lwG := lwG_7 (List.mem_of_getElem? (i := 88) rfl) rfl
theorem sel_GalleyRoomModel_isBarred___Z : Cond.selects "GalleyRoomModel" ({ cls := "GalleyRoomModel", name := "isBarred", desc := "()Z" } : Jvm.MethodName) ({ cls := "GalleyRoomModel", name := "isBarred", desc := "()Z" } : Jvm.MethodName) ∈ lwG := lwG_mem (List.mem_append_left _ (List.mem_of_getElem? (i := 82) rfl)) rfl
theorem wd5_146 : (Cond.fieldLink "GalleyRoomModel" (75 : Nat) "GalleyRoomModel" "ending" "[I") ∈ lwG := lwG_5 (List.mem_of_getElem? (i := 146) rfl) rfl
theorem fl_10_75 : g_Fl RX10 75 10 42 := ⟨rfl, by decide, RX10, TX10, rfl, inX10, wd5_146⟩
theorem wd5_147 : (Cond.fieldLink "GalleyRoomModel" (403 : Nat) "GalleyRoomModel" "lineMany" "I") ∈ lwG := lwG_5 (List.mem_of_getElem? (i := 147) rfl) rfl
theorem fl_10_403 : g_Fl RX10 403 10 43 := ⟨rfl, by decide, RX10, TX10, rfl, inX10, wd5_147⟩
theorem fp_10_403 : g_Fp RX10 403 10 43 .int := ⟨rfl, by decide, RX10, TX10, tyX10, rfl, inX10, wd5_147, tyX10_ok, nmX10, rfl, tyX10_ok 43 (by decide)⟩
theorem wd7_34 : (Cond.methodLink "GalleyRoomModel" (406 : Nat) ({ cls := "GalleyRoomModel", name := "takesLine", desc := "(IIII)V" } : Jvm.MethodName)) ∈ lwG := lwG_7 (List.mem_of_getElem? (i := 34) rfl) rfl
theorem wd7_37 : (Cond.code ({ cls := "GalleyRoomModel", name := "takesLine", desc := "(IIII)V" } : Jvm.MethodName) prog_12_method_79_code (7 : Nat) (Option.none : Option Jvm.ClassFile.FieldType)) ∈ lwG := lwG_7 (List.mem_of_getElem? (i := 37) rfl) rfl
theorem wd7_36 : (Cond.instanceMethod ({ cls := "GalleyRoomModel", name := "takesLine", desc := "(IIII)V" } : Jvm.MethodName)) ∈ lwG := lwG_7 (List.mem_of_getElem? (i := 36) rfl) rfl
theorem sel_GalleyRoomModel_takesLine__IIII_V : Cond.selects "GalleyRoomModel" ({ cls := "GalleyRoomModel", name := "takesLine", desc := "(IIII)V" } : Jvm.MethodName) ({ cls := "GalleyRoomModel", name := "takesLine", desc := "(IIII)V" } : Jvm.MethodName) ∈ lwG := lwG_mem (List.mem_append_left _ (List.mem_of_getElem? (i := 71) rfl)) rfl
theorem wd7_26 : (Cond.methodLink "GalleyRoomModel" (410 : Nat) ({ cls := "GalleyRoomModel", name := "laysSetting", desc := "()V" } : Jvm.MethodName)) ∈ lwG := lwG_7 (List.mem_of_getElem? (i := 26) rfl) rfl
theorem wd7_29 : (Cond.code ({ cls := "GalleyRoomModel", name := "laysSetting", desc := "()V" } : Jvm.MethodName) prog_12_method_86_code (2 : Nat) (Option.none : Option Jvm.ClassFile.FieldType)) ∈ lwG := lwG_7 (List.mem_of_getElem? (i := 29) rfl) rfl
theorem wd7_28 : (Cond.instanceMethod ({ cls := "GalleyRoomModel", name := "laysSetting", desc := "()V" } : Jvm.MethodName)) ∈ lwG := lwG_7 (List.mem_of_getElem? (i := 28) rfl) rfl
theorem sel_GalleyRoomModel_laysSetting___V : Cond.selects "GalleyRoomModel" ({ cls := "GalleyRoomModel", name := "laysSetting", desc := "()V" } : Jvm.MethodName) ({ cls := "GalleyRoomModel", name := "laysSetting", desc := "()V" } : Jvm.MethodName) ∈ lwG := lwG_mem (List.mem_append_left _ (List.mem_of_getElem? (i := 69) rfl)) rfl
theorem wd7_30 : (Cond.methodLink "GalleyRoomModel" (413 : Nat) ({ cls := "GalleyRoomModel", name := "takesSet", desc := "(I)V" } : Jvm.MethodName)) ∈ lwG := lwG_7 (List.mem_of_getElem? (i := 30) rfl) rfl
theorem wd7_33 : (Cond.code ({ cls := "GalleyRoomModel", name := "takesSet", desc := "(I)V" } : Jvm.MethodName) prog_12_method_87_code (2 : Nat) (Option.none : Option Jvm.ClassFile.FieldType)) ∈ lwG := lwG_7 (List.mem_of_getElem? (i := 33) rfl) rfl
theorem wd7_32 : (Cond.instanceMethod ({ cls := "GalleyRoomModel", name := "takesSet", desc := "(I)V" } : Jvm.MethodName)) ∈ lwG := lwG_7 (List.mem_of_getElem? (i := 32) rfl) rfl
theorem sel_GalleyRoomModel_takesSet__I_V : Cond.selects "GalleyRoomModel" ({ cls := "GalleyRoomModel", name := "takesSet", desc := "(I)V" } : Jvm.MethodName) ({ cls := "GalleyRoomModel", name := "takesSet", desc := "(I)V" } : Jvm.MethodName) ∈ lwG := lwG_mem (List.mem_append_left _ (List.mem_of_getElem? (i := 70) rfl)) rfl
theorem wd7_45 : (Cond.methodLink "GalleyRoomModel" (416 : Nat) ({ cls := "GalleyRoomModel", name := "costsNow", desc := "()I" } : Jvm.MethodName)) ∈ lwG := lwG_7 (List.mem_of_getElem? (i := 45) rfl) rfl
theorem wd7_48 : (Cond.code ({ cls := "GalleyRoomModel", name := "costsNow", desc := "()I" } : Jvm.MethodName) prog_12_method_82_code (1 : Nat) (Option.some Jvm.ClassFile.FieldType.int)) ∈ lwG := lwG_7 (List.mem_of_getElem? (i := 48) rfl) rfl
theorem wd7_47 : (Cond.instanceMethod ({ cls := "GalleyRoomModel", name := "costsNow", desc := "()I" } : Jvm.MethodName)) ∈ lwG := lwG_7 (List.mem_of_getElem? (i := 47) rfl) rfl
theorem sel_GalleyRoomModel_costsNow___I : Cond.selects "GalleyRoomModel" ({ cls := "GalleyRoomModel", name := "costsNow", desc := "()I" } : Jvm.MethodName) ({ cls := "GalleyRoomModel", name := "costsNow", desc := "()I" } : Jvm.MethodName) ∈ lwG := lwG_mem (List.mem_append_left _ (List.mem_of_getElem? (i := 73) rfl)) rfl
theorem wd7_82 : (Cond.methodLink "GalleyRoomModel" (419 : Nat) ({ cls := "GalleyRoomModel", name := "paysNow", desc := "()I" } : Jvm.MethodName)) ∈ lwG := lwG_7 (List.mem_of_getElem? (i := 82) rfl) rfl
theorem wd7_85 : (Cond.code ({ cls := "GalleyRoomModel", name := "paysNow", desc := "()I" } : Jvm.MethodName) prog_12_method_83_code (1 : Nat) (Option.some Jvm.ClassFile.FieldType.int)) ∈ lwG := lwG_7 (List.mem_of_getElem? (i := 85) rfl) rfl
theorem wd7_84 : (Cond.instanceMethod ({ cls := "GalleyRoomModel", name := "paysNow", desc := "()I" } : Jvm.MethodName)) ∈ lwG := lwG_7 (List.mem_of_getElem? (i := 84) rfl) rfl
theorem sel_GalleyRoomModel_paysNow___I : Cond.selects "GalleyRoomModel" ({ cls := "GalleyRoomModel", name := "paysNow", desc := "()I" } : Jvm.MethodName) ({ cls := "GalleyRoomModel", name := "paysNow", desc := "()I" } : Jvm.MethodName) ∈ lwG := lwG_mem (List.mem_append_left _ (List.mem_of_getElem? (i := 81) rfl)) rfl
theorem wd7_90 : (Cond.methodLink "GalleyRoomModel" (422 : Nat) ({ cls := "GalleyRoomModel", name := "fitsNow", desc := "()Z" } : Jvm.MethodName)) ∈ lwG := lwG_7 (List.mem_of_getElem? (i := 90) rfl) rfl
theorem wd7_93 : (Cond.code ({ cls := "GalleyRoomModel", name := "fitsNow", desc := "()Z" } : Jvm.MethodName) prog_12_method_85_code (1 : Nat) (Option.some Jvm.ClassFile.FieldType.boolean)) ∈ lwG := lwG_7 (List.mem_of_getElem? (i := 93) rfl) rfl
theorem wd7_92 : (Cond.instanceMethod ({ cls := "GalleyRoomModel", name := "fitsNow", desc := "()Z" } : Jvm.MethodName)) ∈ lwG := lwG_7 (List.mem_of_getElem? (i := 92) rfl) rfl
theorem sel_GalleyRoomModel_fitsNow___Z : Cond.selects "GalleyRoomModel" ({ cls := "GalleyRoomModel", name := "fitsNow", desc := "()Z" } : Jvm.MethodName) ({ cls := "GalleyRoomModel", name := "fitsNow", desc := "()Z" } : Jvm.MethodName) ∈ lwG := lwG_mem (List.mem_append_left _ (List.mem_of_getElem? (i := 83) rfl)) rfl
theorem wd7_98 : (Cond.methodLink "GalleyRoomModel" (425 : Nat) ({ cls := "GalleyRoomModel", name := "allOf", desc := "(I)I" } : Jvm.MethodName)) ∈ lwG := lwG_7 (List.mem_of_getElem? (i := 98) rfl) rfl
theorem wd7_101 : (Cond.code ({ cls := "GalleyRoomModel", name := "allOf", desc := "(I)I" } : Jvm.MethodName) prog_12_method_89_code (4 : Nat) (Option.some Jvm.ClassFile.FieldType.int)) ∈ lwG := lwG_7 (List.mem_of_getElem? (i := 101) rfl) rfl
theorem wd7_100 : (Cond.instanceMethod ({ cls := "GalleyRoomModel", name := "allOf", desc := "(I)I" } : Jvm.MethodName)) ∈ lwG := lwG_7 (List.mem_of_getElem? (i := 100) rfl) rfl
theorem sel_GalleyRoomModel_allOf__I_I : Cond.selects "GalleyRoomModel" ({ cls := "GalleyRoomModel", name := "allOf", desc := "(I)I" } : Jvm.MethodName) ({ cls := "GalleyRoomModel", name := "allOf", desc := "(I)I" } : Jvm.MethodName) ∈ lwG := lwG_mem (List.mem_append_left _ (List.mem_of_getElem? (i := 84) rfl)) rfl
theorem wd5_148 : (Cond.fieldLink "GalleyRoomModel" (78 : Nat) "GalleyRoomModel" "left0" "[I") ∈ lwG := lwG_5 (List.mem_of_getElem? (i := 148) rfl) rfl
theorem fl_10_78 : g_Fl RX10 78 10 44 := ⟨rfl, by decide, RX10, TX10, rfl, inX10, wd5_148⟩
theorem fl_10_11 : g_Fl RX10 11 10 46 := ⟨rfl, by decide, RX10, TX10, rfl, inX10, wd5_150⟩
theorem wd7_114 : (Cond.methodLink "GalleyRoomModel" (428 : Nat) ({ cls := "GalleyRoomModel", name := "keeps", desc := "(I)V" } : Jvm.MethodName)) ∈ lwG := lwG_7 (List.mem_of_getElem? (i := 114) rfl) rfl
theorem wd7_117 : (Cond.code ({ cls := "GalleyRoomModel", name := "keeps", desc := "(I)V" } : Jvm.MethodName) prog_12_method_92_code (4 : Nat) (Option.none : Option Jvm.ClassFile.FieldType)) ∈ lwG := lwG_7 (List.mem_of_getElem? (i := 117) rfl) rfl
theorem wd7_116 : (Cond.instanceMethod ({ cls := "GalleyRoomModel", name := "keeps", desc := "(I)V" } : Jvm.MethodName)) ∈ lwG := lwG_7 (List.mem_of_getElem? (i := 116) rfl) rfl
theorem sel_GalleyRoomModel_keeps__I_V : Cond.selects "GalleyRoomModel" ({ cls := "GalleyRoomModel", name := "keeps", desc := "(I)V" } : Jvm.MethodName) ({ cls := "GalleyRoomModel", name := "keeps", desc := "(I)V" } : Jvm.MethodName) ∈ lwG := lwG_mem (List.mem_append_left _ (List.mem_of_getElem? (i := 86) rfl)) rfl
theorem wd7_138 : (Cond.methodLink "GalleyRoomModel" (431 : Nat) ({ cls := "GalleyRoomModel", name := "canSwell", desc := "(II)Z" } : Jvm.MethodName)) ∈ lwG := lwG_7 (List.mem_of_getElem? (i := 138) rfl) rfl
theorem wd7_141 : (Cond.code ({ cls := "GalleyRoomModel", name := "canSwell", desc := "(II)Z" } : Jvm.MethodName) prog_12_method_97_code (3 : Nat) (Option.some Jvm.ClassFile.FieldType.boolean)) ∈ lwG := lwG_7 (List.mem_of_getElem? (i := 141) rfl) rfl
theorem wd7_140 : (Cond.instanceMethod ({ cls := "GalleyRoomModel", name := "canSwell", desc := "(II)Z" } : Jvm.MethodName)) ∈ lwG := lwG_7 (List.mem_of_getElem? (i := 140) rfl) rfl
theorem sel_GalleyRoomModel_canSwell__II_Z : Cond.selects "GalleyRoomModel" ({ cls := "GalleyRoomModel", name := "canSwell", desc := "(II)Z" } : Jvm.MethodName) ({ cls := "GalleyRoomModel", name := "canSwell", desc := "(II)Z" } : Jvm.MethodName) ∈ lwG := lwG_mem (List.mem_append_left _ (List.mem_of_getElem? (i := 90) rfl)) rfl
theorem wd7_110 : (Cond.methodLink "GalleyRoomModel" (434 : Nat) ({ cls := "GalleyRoomModel", name := "stopsKept", desc := "(I)I" } : Jvm.MethodName)) ∈ lwG := lwG_7 (List.mem_of_getElem? (i := 110) rfl) rfl
theorem wd7_113 : (Cond.code ({ cls := "GalleyRoomModel", name := "stopsKept", desc := "(I)I" } : Jvm.MethodName) prog_12_method_95_code (2 : Nat) (Option.some Jvm.ClassFile.FieldType.int)) ∈ lwG := lwG_7 (List.mem_of_getElem? (i := 113) rfl) rfl
theorem wd7_112 : (Cond.instanceMethod ({ cls := "GalleyRoomModel", name := "stopsKept", desc := "(I)I" } : Jvm.MethodName)) ∈ lwG := lwG_7 (List.mem_of_getElem? (i := 112) rfl) rfl
theorem sel_GalleyRoomModel_stopsKept__I_I : Cond.selects "GalleyRoomModel" ({ cls := "GalleyRoomModel", name := "stopsKept", desc := "(I)I" } : Jvm.MethodName) ({ cls := "GalleyRoomModel", name := "stopsKept", desc := "(I)I" } : Jvm.MethodName) ∈ lwG := lwG_mem (List.mem_append_left _ (List.mem_of_getElem? (i := 85) rfl)) rfl
theorem wd7_118 : (Cond.methodLink "GalleyRoomModel" (437 : Nat) ({ cls := "GalleyRoomModel", name := "goodOr", desc := "(I)I" } : Jvm.MethodName)) ∈ lwG := lwG_7 (List.mem_of_getElem? (i := 118) rfl) rfl
theorem wd7_121 : (Cond.code ({ cls := "GalleyRoomModel", name := "goodOr", desc := "(I)I" } : Jvm.MethodName) prog_12_method_94_code (2 : Nat) (Option.some Jvm.ClassFile.FieldType.int)) ∈ lwG := lwG_7 (List.mem_of_getElem? (i := 121) rfl) rfl
theorem wd7_120 : (Cond.instanceMethod ({ cls := "GalleyRoomModel", name := "goodOr", desc := "(I)I" } : Jvm.MethodName)) ∈ lwG := lwG_7 (List.mem_of_getElem? (i := 120) rfl) rfl
theorem sel_GalleyRoomModel_goodOr__I_I : Cond.selects "GalleyRoomModel" ({ cls := "GalleyRoomModel", name := "goodOr", desc := "(I)I" } : Jvm.MethodName) ({ cls := "GalleyRoomModel", name := "goodOr", desc := "(I)I" } : Jvm.MethodName) ∈ lwG := lwG_mem (List.mem_append_left _ (List.mem_of_getElem? (i := 87) rfl)) rfl
theorem wd7_126 : (Cond.methodLink "GalleyRoomModel" (440 : Nat) ({ cls := "GalleyRoomModel", name := "splitsKept", desc := "(I)I" } : Jvm.MethodName)) ∈ lwG := lwG_7 (List.mem_of_getElem? (i := 126) rfl) rfl
theorem wd7_129 : (Cond.code ({ cls := "GalleyRoomModel", name := "splitsKept", desc := "(I)I" } : Jvm.MethodName) prog_12_method_96_code (2 : Nat) (Option.some Jvm.ClassFile.FieldType.int)) ∈ lwG := lwG_7 (List.mem_of_getElem? (i := 129) rfl) rfl
theorem wd7_128 : (Cond.instanceMethod ({ cls := "GalleyRoomModel", name := "splitsKept", desc := "(I)I" } : Jvm.MethodName)) ∈ lwG := lwG_7 (List.mem_of_getElem? (i := 128) rfl) rfl
theorem sel_GalleyRoomModel_splitsKept__I_I : Cond.selects "GalleyRoomModel" ({ cls := "GalleyRoomModel", name := "splitsKept", desc := "(I)I" } : Jvm.MethodName) ({ cls := "GalleyRoomModel", name := "splitsKept", desc := "(I)I" } : Jvm.MethodName) ∈ lwG := lwG_mem (List.mem_append_left _ (List.mem_of_getElem? (i := 88) rfl)) rfl
theorem wd7_134 : (Cond.methodLink "GalleyRoomModel" (443 : Nat) ({ cls := "GalleyRoomModel", name := "swellsKept", desc := "(II)I" } : Jvm.MethodName)) ∈ lwG := lwG_7 (List.mem_of_getElem? (i := 134) rfl) rfl
theorem wd7_137 : (Cond.code ({ cls := "GalleyRoomModel", name := "swellsKept", desc := "(II)I" } : Jvm.MethodName) prog_12_method_98_code (4 : Nat) (Option.some Jvm.ClassFile.FieldType.int)) ∈ lwG := lwG_7 (List.mem_of_getElem? (i := 137) rfl) rfl
theorem wd7_136 : (Cond.instanceMethod ({ cls := "GalleyRoomModel", name := "swellsKept", desc := "(II)I" } : Jvm.MethodName)) ∈ lwG := lwG_7 (List.mem_of_getElem? (i := 136) rfl) rfl
theorem sel_GalleyRoomModel_swellsKept__II_I : Cond.selects "GalleyRoomModel" ({ cls := "GalleyRoomModel", name := "swellsKept", desc := "(II)I" } : Jvm.MethodName) ({ cls := "GalleyRoomModel", name := "swellsKept", desc := "(II)I" } : Jvm.MethodName) ∈ lwG := lwG_mem (List.mem_append_left _ (List.mem_of_getElem? (i := 89) rfl)) rfl
theorem wd7_146 : (Cond.methodLink "GalleyRoomModel" (446 : Nat) ({ cls := "GalleyRoomModel", name := "passesKept", desc := "()I" } : Jvm.MethodName)) ∈ lwG := lwG_7 (List.mem_of_getElem? (i := 146) rfl) rfl
theorem wd7_149 : (Cond.code ({ cls := "GalleyRoomModel", name := "passesKept", desc := "()I" } : Jvm.MethodName) prog_12_method_99_code (2 : Nat) (Option.some Jvm.ClassFile.FieldType.int)) ∈ lwG := lwG_7 (List.mem_of_getElem? (i := 149) rfl) rfl
theorem wd7_148 : (Cond.instanceMethod ({ cls := "GalleyRoomModel", name := "passesKept", desc := "()I" } : Jvm.MethodName)) ∈ lwG := lwG_7 (List.mem_of_getElem? (i := 148) rfl) rfl
theorem sel_GalleyRoomModel_passesKept___I : Cond.selects "GalleyRoomModel" ({ cls := "GalleyRoomModel", name := "passesKept", desc := "()I" } : Jvm.MethodName) ({ cls := "GalleyRoomModel", name := "passesKept", desc := "()I" } : Jvm.MethodName) ∈ lwG := lwG_mem (List.mem_append_left _ (List.mem_of_getElem? (i := 91) rfl)) rfl
theorem wd7_170 : (Cond.methodLink "GalleyRoomModel" (456 : Nat) ({ cls := "GalleyRoomModel", name := "lineAt", desc := "(III)I" } : Jvm.MethodName)) ∈ lwG := lwG_7 (List.mem_of_getElem? (i := 170) rfl) rfl
theorem wd7_172 : (Cond.code ({ cls := "GalleyRoomModel", name := "lineAt", desc := "(III)I" } : Jvm.MethodName) prog_12_method_104_code (3 : Nat) (Option.some Jvm.ClassFile.FieldType.int)) ∈ lwG := lwG_7 (List.mem_of_getElem? (i := 172) rfl) rfl
theorem wd7_171 : (Cond.static ({ cls := "GalleyRoomModel", name := "lineAt", desc := "(III)I" } : Jvm.MethodName)) ∈ lwG := lwG_7 (List.mem_of_getElem? (i := 171) rfl) rfl
theorem wd5_151 : (Cond.fieldLink "GalleyRoomModel" (84 : Nat) "GalleyRoomModel" "fitting" "[Z") ∈ lwG := lwG_5 (List.mem_of_getElem? (i := 151) rfl) rfl
theorem fl_10_84 : g_Fl RX10 84 10 47 := ⟨rfl, by decide, RX10, TX10, rfl, inX10, wd5_151⟩
theorem wd5_152 : (Cond.fieldLink "GalleyRoomModel" (87 : Nat) "GalleyRoomModel" "price" "[I") ∈ lwG := lwG_5 (List.mem_of_getElem? (i := 152) rfl) rfl
theorem fl_10_87 : g_Fl RX10 87 10 48 := ⟨rfl, by decide, RX10, TX10, rfl, inX10, wd5_152⟩
theorem wd5_153 : (Cond.fieldLink "GalleyRoomModel" (90 : Nat) "GalleyRoomModel" "gain" "[I") ∈ lwG := lwG_5 (List.mem_of_getElem? (i := 153) rfl) rfl
theorem fl_10_90 : g_Fl RX10 90 10 49 := ⟨rfl, by decide, RX10, TX10, rfl, inX10, wd5_153⟩
theorem wd7_162 : (Cond.methodLink "GalleyRoomModel" (449 : Nat) ({ cls := "GalleyRoomModel", name := "isPlace", desc := "(I)Z" } : Jvm.MethodName)) ∈ lwG := lwG_7 (List.mem_of_getElem? (i := 162) rfl) rfl
theorem wd7_165 : (Cond.code ({ cls := "GalleyRoomModel", name := "isPlace", desc := "(I)Z" } : Jvm.MethodName) prog_12_method_77_code (2 : Nat) (Option.some Jvm.ClassFile.FieldType.boolean)) ∈ lwG := lwG_7 (List.mem_of_getElem? (i := 165) rfl) rfl
theorem wd7_164 : (Cond.instanceMethod ({ cls := "GalleyRoomModel", name := "isPlace", desc := "(I)Z" } : Jvm.MethodName)) ∈ lwG := lwG_7 (List.mem_of_getElem? (i := 164) rfl) rfl
theorem sel_GalleyRoomModel_isPlace__I_Z : Cond.selects "GalleyRoomModel" ({ cls := "GalleyRoomModel", name := "isPlace", desc := "(I)Z" } : Jvm.MethodName) ({ cls := "GalleyRoomModel", name := "isPlace", desc := "(I)Z" } : Jvm.MethodName) ∈ lwG := lwG_mem (List.mem_append_left _ (List.mem_of_getElem? (i := 94) rfl)) rfl
theorem wd7_166 : (Cond.methodLink "GalleyRoomModel" (452 : Nat) ({ cls := "GalleyRoomModel", name := "laysLine", desc := "(IIIIZ)V" } : Jvm.MethodName)) ∈ lwG := lwG_7 (List.mem_of_getElem? (i := 166) rfl) rfl
theorem wd7_169 : (Cond.code ({ cls := "GalleyRoomModel", name := "laysLine", desc := "(IIIIZ)V" } : Jvm.MethodName) prog_12_method_107_code (7 : Nat) (Option.none : Option Jvm.ClassFile.FieldType)) ∈ lwG := lwG_7 (List.mem_of_getElem? (i := 169) rfl) rfl
theorem wd7_168 : (Cond.instanceMethod ({ cls := "GalleyRoomModel", name := "laysLine", desc := "(IIIIZ)V" } : Jvm.MethodName)) ∈ lwG := lwG_7 (List.mem_of_getElem? (i := 168) rfl) rfl
theorem sel_GalleyRoomModel_laysLine__IIIIZ_V : Cond.selects "GalleyRoomModel" ({ cls := "GalleyRoomModel", name := "laysLine", desc := "(IIIIZ)V" } : Jvm.MethodName) ({ cls := "GalleyRoomModel", name := "laysLine", desc := "(IIIIZ)V" } : Jvm.MethodName) ∈ lwG := lwG_mem (List.mem_append_left _ (List.mem_of_getElem? (i := 95) rfl)) rfl
theorem wd5_154 : (Cond.fieldLink "GalleyRoomModel" (93 : Nat) "GalleyRoomModel" "sum0" "[I") ∈ lwG := lwG_5 (List.mem_of_getElem? (i := 154) rfl) rfl
theorem fl_10_93 : g_Fl RX10 93 10 50 := ⟨rfl, by decide, RX10, TX10, rfl, inX10, wd5_154⟩
theorem wd7_186 : (Cond.methodLink "GalleyRoomModel" (466 : Nat) ({ cls := "GalleyRoomModel", name := "stateAt", desc := "(II)I" } : Jvm.MethodName)) ∈ lwG := lwG_7 (List.mem_of_getElem? (i := 186) rfl) rfl
theorem wd7_188 : (Cond.code ({ cls := "GalleyRoomModel", name := "stateAt", desc := "(II)I" } : Jvm.MethodName) prog_12_method_105_code (2 : Nat) (Option.some Jvm.ClassFile.FieldType.int)) ∈ lwG := lwG_7 (List.mem_of_getElem? (i := 188) rfl) rfl
theorem wd7_187 : (Cond.static ({ cls := "GalleyRoomModel", name := "stateAt", desc := "(II)I" } : Jvm.MethodName)) ∈ lwG := lwG_7 (List.mem_of_getElem? (i := 187) rfl) rfl
theorem wd7_178 : (Cond.methodLink "GalleyRoomModel" (460 : Nat) ({ cls := "GalleyRoomModel", name := "isStart", desc := "(I)Z" } : Jvm.MethodName)) ∈ lwG := lwG_7 (List.mem_of_getElem? (i := 178) rfl) rfl
theorem wd7_181 : (Cond.code ({ cls := "GalleyRoomModel", name := "isStart", desc := "(I)Z" } : Jvm.MethodName) prog_12_method_110_code (2 : Nat) (Option.some Jvm.ClassFile.FieldType.boolean)) ∈ lwG := lwG_7 (List.mem_of_getElem? (i := 181) rfl) rfl
theorem wd7_180 : (Cond.instanceMethod ({ cls := "GalleyRoomModel", name := "isStart", desc := "(I)Z" } : Jvm.MethodName)) ∈ lwG := lwG_7 (List.mem_of_getElem? (i := 180) rfl) rfl
theorem sel_GalleyRoomModel_isStart__I_Z : Cond.selects "GalleyRoomModel" ({ cls := "GalleyRoomModel", name := "isStart", desc := "(I)Z" } : Jvm.MethodName) ({ cls := "GalleyRoomModel", name := "isStart", desc := "(I)Z" } : Jvm.MethodName) ∈ lwG := lwG_mem (List.mem_append_left _ (List.mem_of_getElem? (i := 97) rfl)) rfl
theorem wd7_182 : (Cond.methodLink "GalleyRoomModel" (463 : Nat) ({ cls := "GalleyRoomModel", name := "canLine", desc := "(III)Z" } : Jvm.MethodName)) ∈ lwG := lwG_7 (List.mem_of_getElem? (i := 182) rfl) rfl
theorem wd7_185 : (Cond.code ({ cls := "GalleyRoomModel", name := "canLine", desc := "(III)Z" } : Jvm.MethodName) prog_12_method_108_code (4 : Nat) (Option.some Jvm.ClassFile.FieldType.boolean)) ∈ lwG := lwG_7 (List.mem_of_getElem? (i := 185) rfl) rfl
theorem wd7_184 : (Cond.instanceMethod ({ cls := "GalleyRoomModel", name := "canLine", desc := "(III)Z" } : Jvm.MethodName)) ∈ lwG := lwG_7 (List.mem_of_getElem? (i := 184) rfl) rfl
theorem sel_GalleyRoomModel_canLine__III_Z : Cond.selects "GalleyRoomModel" ({ cls := "GalleyRoomModel", name := "canLine", desc := "(III)Z" } : Jvm.MethodName) ({ cls := "GalleyRoomModel", name := "canLine", desc := "(III)Z" } : Jvm.MethodName) ∈ lwG := lwG_mem (List.mem_append_left _ (List.mem_of_getElem? (i := 98) rfl)) rfl
theorem wd7_189 : (Cond.methodLink "GalleyRoomModel" (469 : Nat) ({ cls := "GalleyRoomModel", name := "lesser", desc := "(II)I" } : Jvm.MethodName)) ∈ lwG := lwG_7 (List.mem_of_getElem? (i := 189) rfl) rfl
theorem wd7_191 : (Cond.code ({ cls := "GalleyRoomModel", name := "lesser", desc := "(II)I" } : Jvm.MethodName) prog_12_method_2_code (2 : Nat) (Option.some Jvm.ClassFile.FieldType.int)) ∈ lwG := lwG_7 (List.mem_of_getElem? (i := 191) rfl) rfl
theorem wd7_190 : (Cond.static ({ cls := "GalleyRoomModel", name := "lesser", desc := "(II)I" } : Jvm.MethodName)) ∈ lwG := lwG_7 (List.mem_of_getElem? (i := 190) rfl) rfl
theorem wd7_177 : (Cond.constant "GalleyRoomModel" (459 : Nat) (100000000 : Int32)) ∈ lwG := lwG_7 (List.mem_of_getElem? (i := 177) rfl) rfl
theorem wd7_158 : (Cond.methodLink "GalleyRoomModel" (472 : Nat) ({ cls := "GalleyRoomModel", name := "laysLines", desc := "(IZ)V" } : Jvm.MethodName)) ∈ lwG := lwG_7 (List.mem_of_getElem? (i := 158) rfl) rfl
theorem wd7_161 : (Cond.code ({ cls := "GalleyRoomModel", name := "laysLines", desc := "(IZ)V" } : Jvm.MethodName) prog_12_method_106_code (6 : Nat) (Option.none : Option Jvm.ClassFile.FieldType)) ∈ lwG := lwG_7 (List.mem_of_getElem? (i := 161) rfl) rfl
theorem wd7_160 : (Cond.instanceMethod ({ cls := "GalleyRoomModel", name := "laysLines", desc := "(IZ)V" } : Jvm.MethodName)) ∈ lwG := lwG_7 (List.mem_of_getElem? (i := 160) rfl) rfl
theorem sel_GalleyRoomModel_laysLines__IZ_V : Cond.selects "GalleyRoomModel" ({ cls := "GalleyRoomModel", name := "laysLines", desc := "(IZ)V" } : Jvm.MethodName) ({ cls := "GalleyRoomModel", name := "laysLines", desc := "(IZ)V" } : Jvm.MethodName) ∈ lwG := lwG_mem (List.mem_append_left _ (List.mem_of_getElem? (i := 93) rfl)) rfl
theorem wd7_173 : (Cond.methodLink "GalleyRoomModel" (476 : Nat) ({ cls := "GalleyRoomModel", name := "laysLeast", desc := "()V" } : Jvm.MethodName)) ∈ lwG := lwG_7 (List.mem_of_getElem? (i := 173) rfl) rfl
theorem wd7_176 : (Cond.code ({ cls := "GalleyRoomModel", name := "laysLeast", desc := "()V" } : Jvm.MethodName) prog_12_method_109_code (5 : Nat) (Option.none : Option Jvm.ClassFile.FieldType)) ∈ lwG := lwG_7 (List.mem_of_getElem? (i := 176) rfl) rfl
theorem wd7_175 : (Cond.instanceMethod ({ cls := "GalleyRoomModel", name := "laysLeast", desc := "()V" } : Jvm.MethodName)) ∈ lwG := lwG_7 (List.mem_of_getElem? (i := 175) rfl) rfl
theorem sel_GalleyRoomModel_laysLeast___V : Cond.selects "GalleyRoomModel" ({ cls := "GalleyRoomModel", name := "laysLeast", desc := "()V" } : Jvm.MethodName) ({ cls := "GalleyRoomModel", name := "laysLeast", desc := "()V" } : Jvm.MethodName) ∈ lwG := lwG_mem (List.mem_append_left _ (List.mem_of_getElem? (i := 96) rfl)) rfl
theorem wd7_154 : (Cond.methodLink "GalleyRoomModel" (479 : Nat) ({ cls := "GalleyRoomModel", name := "bestNow", desc := "()I" } : Jvm.MethodName)) ∈ lwG := lwG_7 (List.mem_of_getElem? (i := 154) rfl) rfl
theorem wd7_157 : (Cond.code ({ cls := "GalleyRoomModel", name := "bestNow", desc := "()I" } : Jvm.MethodName) prog_12_method_111_code (2 : Nat) (Option.some Jvm.ClassFile.FieldType.int)) ∈ lwG := lwG_7 (List.mem_of_getElem? (i := 157) rfl) rfl
theorem wd7_156 : (Cond.instanceMethod ({ cls := "GalleyRoomModel", name := "bestNow", desc := "()I" } : Jvm.MethodName)) ∈ lwG := lwG_7 (List.mem_of_getElem? (i := 156) rfl) rfl
theorem sel_GalleyRoomModel_bestNow___I : Cond.selects "GalleyRoomModel" ({ cls := "GalleyRoomModel", name := "bestNow", desc := "()I" } : Jvm.MethodName) ({ cls := "GalleyRoomModel", name := "bestNow", desc := "()I" } : Jvm.MethodName) ∈ lwG := lwG_mem (List.mem_append_left _ (List.mem_of_getElem? (i := 92) rfl)) rfl
theorem wd7_204 : (Cond.constant "GalleyRoomModel" (482 : Nat) (-100000000 : Int32)) ∈ lwG := lwG_7 (List.mem_of_getElem? (i := 204) rfl) rfl
theorem wd7_205 : (Cond.methodLink "GalleyRoomModel" (483 : Nat) ({ cls := "GalleyRoomModel", name := "takesSum", desc := "(IIIZ)V" } : Jvm.MethodName)) ∈ lwG := lwG_7 (List.mem_of_getElem? (i := 205) rfl) rfl
theorem wd7_208 : (Cond.code ({ cls := "GalleyRoomModel", name := "takesSum", desc := "(IIIZ)V" } : Jvm.MethodName) prog_12_method_114_code (7 : Nat) (Option.none : Option Jvm.ClassFile.FieldType)) ∈ lwG := lwG_7 (List.mem_of_getElem? (i := 208) rfl) rfl
theorem wd7_207 : (Cond.instanceMethod ({ cls := "GalleyRoomModel", name := "takesSum", desc := "(IIIZ)V" } : Jvm.MethodName)) ∈ lwG := lwG_7 (List.mem_of_getElem? (i := 207) rfl) rfl
theorem sel_GalleyRoomModel_takesSum__IIIZ_V : Cond.selects "GalleyRoomModel" ({ cls := "GalleyRoomModel", name := "takesSum", desc := "(IIIZ)V" } : Jvm.MethodName) ({ cls := "GalleyRoomModel", name := "takesSum", desc := "(IIIZ)V" } : Jvm.MethodName) ∈ lwG := lwG_mem (List.mem_append_left _ (List.mem_of_getElem? (i := 101) rfl)) rfl
theorem wd7_200 : (Cond.methodLink "GalleyRoomModel" (487 : Nat) ({ cls := "GalleyRoomModel", name := "laysSums", desc := "(Z)V" } : Jvm.MethodName)) ∈ lwG := lwG_7 (List.mem_of_getElem? (i := 200) rfl) rfl
theorem wd7_203 : (Cond.code ({ cls := "GalleyRoomModel", name := "laysSums", desc := "(Z)V" } : Jvm.MethodName) prog_12_method_113_code (6 : Nat) (Option.none : Option Jvm.ClassFile.FieldType)) ∈ lwG := lwG_7 (List.mem_of_getElem? (i := 203) rfl) rfl
theorem wd7_202 : (Cond.instanceMethod ({ cls := "GalleyRoomModel", name := "laysSums", desc := "(Z)V" } : Jvm.MethodName)) ∈ lwG := lwG_7 (List.mem_of_getElem? (i := 202) rfl) rfl
theorem sel_GalleyRoomModel_laysSums__Z_V : Cond.selects "GalleyRoomModel" ({ cls := "GalleyRoomModel", name := "laysSums", desc := "(Z)V" } : Jvm.MethodName) ({ cls := "GalleyRoomModel", name := "laysSums", desc := "(Z)V" } : Jvm.MethodName) ∈ lwG := lwG_mem (List.mem_append_left _ (List.mem_of_getElem? (i := 100) rfl)) rfl
theorem wd7_196 : (Cond.methodLink "GalleyRoomModel" (491 : Nat) ({ cls := "GalleyRoomModel", name := "laysCosts", desc := "()V" } : Jvm.MethodName)) ∈ lwG := lwG_7 (List.mem_of_getElem? (i := 196) rfl) rfl
theorem wd7_199 : (Cond.code ({ cls := "GalleyRoomModel", name := "laysCosts", desc := "()V" } : Jvm.MethodName) prog_12_method_115_code (1 : Nat) (Option.none : Option Jvm.ClassFile.FieldType)) ∈ lwG := lwG_7 (List.mem_of_getElem? (i := 199) rfl) rfl
theorem wd7_198 : (Cond.instanceMethod ({ cls := "GalleyRoomModel", name := "laysCosts", desc := "()V" } : Jvm.MethodName)) ∈ lwG := lwG_7 (List.mem_of_getElem? (i := 198) rfl) rfl
theorem sel_GalleyRoomModel_laysCosts___V : Cond.selects "GalleyRoomModel" ({ cls := "GalleyRoomModel", name := "laysCosts", desc := "()V" } : Jvm.MethodName) ({ cls := "GalleyRoomModel", name := "laysCosts", desc := "()V" } : Jvm.MethodName) ∈ lwG := lwG_mem (List.mem_append_left _ (List.mem_of_getElem? (i := 99) rfl)) rfl
theorem wd7_209 : (Cond.methodLink "GalleyRoomModel" (494 : Nat) ({ cls := "GalleyRoomModel", name := "costsBy", desc := "(I)I" } : Jvm.MethodName)) ∈ lwG := lwG_7 (List.mem_of_getElem? (i := 209) rfl) rfl
theorem wd7_212 : (Cond.code ({ cls := "GalleyRoomModel", name := "costsBy", desc := "(I)I" } : Jvm.MethodName) prog_12_method_116_code (2 : Nat) (Option.some Jvm.ClassFile.FieldType.int)) ∈ lwG := lwG_7 (List.mem_of_getElem? (i := 212) rfl) rfl
theorem wd7_211 : (Cond.instanceMethod ({ cls := "GalleyRoomModel", name := "costsBy", desc := "(I)I" } : Jvm.MethodName)) ∈ lwG := lwG_7 (List.mem_of_getElem? (i := 211) rfl) rfl
theorem sel_GalleyRoomModel_costsBy__I_I : Cond.selects "GalleyRoomModel" ({ cls := "GalleyRoomModel", name := "costsBy", desc := "(I)I" } : Jvm.MethodName) ({ cls := "GalleyRoomModel", name := "costsBy", desc := "(I)I" } : Jvm.MethodName) ∈ lwG := lwG_mem (List.mem_append_left _ (List.mem_of_getElem? (i := 102) rfl)) rfl
theorem wd5_155 : (Cond.fieldLink "GalleyRoomModel" (96 : Nat) "GalleyRoomModel" "ways0" "[J") ∈ lwG := lwG_5 (List.mem_of_getElem? (i := 155) rfl) rfl
theorem fl_10_96 : g_Fl RX10 96 10 51 := ⟨rfl, by decide, RX10, TX10, rfl, inX10, wd5_155⟩
theorem wd5_156 : (Cond.fieldLink "GalleyRoomModel" (99 : Nat) "GalleyRoomModel" "comes" "[Z") ∈ lwG := lwG_5 (List.mem_of_getElem? (i := 156) rfl) rfl
theorem fl_10_99 : g_Fl RX10 99 10 52 := ⟨rfl, by decide, RX10, TX10, rfl, inX10, wd5_156⟩
theorem wd7_233 : (Cond.methodLink "GalleyRoomModel" (497 : Nat) ({ cls := "GalleyRoomModel", name := "isBy", desc := "(I)Z" } : Jvm.MethodName)) ∈ lwG := lwG_7 (List.mem_of_getElem? (i := 233) rfl) rfl
theorem wd7_236 : (Cond.code ({ cls := "GalleyRoomModel", name := "isBy", desc := "(I)Z" } : Jvm.MethodName) prog_12_method_122_code (5 : Nat) (Option.some Jvm.ClassFile.FieldType.boolean)) ∈ lwG := lwG_7 (List.mem_of_getElem? (i := 236) rfl) rfl
theorem wd7_235 : (Cond.instanceMethod ({ cls := "GalleyRoomModel", name := "isBy", desc := "(I)Z" } : Jvm.MethodName)) ∈ lwG := lwG_7 (List.mem_of_getElem? (i := 235) rfl) rfl
theorem sel_GalleyRoomModel_isBy__I_Z : Cond.selects "GalleyRoomModel" ({ cls := "GalleyRoomModel", name := "isBy", desc := "(I)Z" } : Jvm.MethodName) ({ cls := "GalleyRoomModel", name := "isBy", desc := "(I)Z" } : Jvm.MethodName) ∈ lwG := lwG_mem (List.mem_append_left _ (List.mem_of_getElem? (i := 103) rfl)) rfl
theorem wd8_1 : (Cond.methodLink "GalleyRoomModel" (500 : Nat) ({ cls := "GalleyRoomModel", name := "leavesOut", desc := "(I)V" } : Jvm.MethodName)) ∈ lwG := lwG_8 (List.mem_of_getElem? (i := 1) rfl) rfl
theorem wd8_4 : (Cond.code ({ cls := "GalleyRoomModel", name := "leavesOut", desc := "(I)V" } : Jvm.MethodName) prog_12_method_74_code (3 : Nat) (Option.none : Option Jvm.ClassFile.FieldType)) ∈ lwG := lwG_8 (List.mem_of_getElem? (i := 4) rfl) rfl
theorem wd8_3 : (Cond.instanceMethod ({ cls := "GalleyRoomModel", name := "leavesOut", desc := "(I)V" } : Jvm.MethodName)) ∈ lwG := lwG_8 (List.mem_of_getElem? (i := 3) rfl) rfl
theorem sel_GalleyRoomModel_leavesOut__I_V : Cond.selects "GalleyRoomModel" ({ cls := "GalleyRoomModel", name := "leavesOut", desc := "(I)V" } : Jvm.MethodName) ({ cls := "GalleyRoomModel", name := "leavesOut", desc := "(I)V" } : Jvm.MethodName) ∈ lwG := lwG_mem (List.mem_append_left _ (List.mem_of_getElem? (i := 104) rfl)) rfl
theorem wd5_157 : (Cond.fieldLink "GalleyRoomModel" (102 : Nat) "GalleyRoomModel" "spaces" "[I") ∈ lwG := lwG_5 (List.mem_of_getElem? (i := 157) rfl) rfl
theorem fl_10_102 : g_Fl RX10 102 10 53 := ⟨rfl, by decide, RX10, TX10, rfl, inX10, wd5_157⟩
theorem wd5_159 : (Cond.fieldLink "GalleyRoomModel" (108 : Nat) "GalleyRoomModel" "spaceMany" "[I") ∈ lwG := lwG_5 (List.mem_of_getElem? (i := 159) rfl) rfl
theorem fl_10_108 : g_Fl RX10 108 10 55 := ⟨rfl, by decide, RX10, TX10, rfl, inX10, wd5_159⟩
theorem wd8_17 : (Cond.methodLink "GalleyRoomModel" (503 : Nat) ({ cls := "GalleyRoomModel", name := "addsSpaced", desc := "(IIZI)I" } : Jvm.MethodName)) ∈ lwG := lwG_8 (List.mem_of_getElem? (i := 17) rfl) rfl
theorem wd8_20 : (Cond.code ({ cls := "GalleyRoomModel", name := "addsSpaced", desc := "(IIZI)I" } : Jvm.MethodName) prog_12_method_126_code (5 : Nat) (Option.some Jvm.ClassFile.FieldType.int)) ∈ lwG := lwG_8 (List.mem_of_getElem? (i := 20) rfl) rfl
theorem wd8_19 : (Cond.instanceMethod ({ cls := "GalleyRoomModel", name := "addsSpaced", desc := "(IIZI)I" } : Jvm.MethodName)) ∈ lwG := lwG_8 (List.mem_of_getElem? (i := 19) rfl) rfl
theorem sel_GalleyRoomModel_addsSpaced__IIZI_I : Cond.selects "GalleyRoomModel" ({ cls := "GalleyRoomModel", name := "addsSpaced", desc := "(IIZI)I" } : Jvm.MethodName) ({ cls := "GalleyRoomModel", name := "addsSpaced", desc := "(IIZI)I" } : Jvm.MethodName) ∈ lwG := lwG_mem (List.mem_append_left _ (List.mem_of_getElem? (i := 106) rfl)) rfl
theorem wd5_158 : (Cond.fieldLink "GalleyRoomModel" (105 : Nat) "GalleyRoomModel" "lengths" "[I") ∈ lwG := lwG_5 (List.mem_of_getElem? (i := 158) rfl) rfl
theorem fl_10_105 : g_Fl RX10 105 10 54 := ⟨rfl, by decide, RX10, TX10, rfl, inX10, wd5_158⟩
theorem wd8_21 : (Cond.methodLink "GalleyRoomModel" (510 : Nat) ({ cls := "GalleyRoomModel", name := "riverTo", desc := "(II)I" } : Jvm.MethodName)) ∈ lwG := lwG_8 (List.mem_of_getElem? (i := 21) rfl) rfl
theorem wd8_24 : (Cond.code ({ cls := "GalleyRoomModel", name := "riverTo", desc := "(II)I" } : Jvm.MethodName) prog_12_method_128_code (7 : Nat) (Option.some Jvm.ClassFile.FieldType.int)) ∈ lwG := lwG_8 (List.mem_of_getElem? (i := 24) rfl) rfl
theorem wd8_23 : (Cond.instanceMethod ({ cls := "GalleyRoomModel", name := "riverTo", desc := "(II)I" } : Jvm.MethodName)) ∈ lwG := lwG_8 (List.mem_of_getElem? (i := 23) rfl) rfl
theorem sel_GalleyRoomModel_riverTo__II_I : Cond.selects "GalleyRoomModel" ({ cls := "GalleyRoomModel", name := "riverTo", desc := "(II)I" } : Jvm.MethodName) ({ cls := "GalleyRoomModel", name := "riverTo", desc := "(II)I" } : Jvm.MethodName) ∈ lwG := lwG_mem (List.mem_append_left _ (List.mem_of_getElem? (i := 107) rfl)) rfl
theorem wd8_13 : (Cond.methodLink "GalleyRoomModel" (507 : Nat) ({ cls := "GalleyRoomModel", name := "laysSpaces", desc := "(II)V" } : Jvm.MethodName)) ∈ lwG := lwG_8 (List.mem_of_getElem? (i := 13) rfl) rfl
theorem wd8_16 : (Cond.code ({ cls := "GalleyRoomModel", name := "laysSpaces", desc := "(II)V" } : Jvm.MethodName) prog_12_method_127_code (8 : Nat) (Option.none : Option Jvm.ClassFile.FieldType)) ∈ lwG := lwG_8 (List.mem_of_getElem? (i := 16) rfl) rfl
theorem wd8_15 : (Cond.instanceMethod ({ cls := "GalleyRoomModel", name := "laysSpaces", desc := "(II)V" } : Jvm.MethodName)) ∈ lwG := lwG_8 (List.mem_of_getElem? (i := 15) rfl) rfl
theorem sel_GalleyRoomModel_laysSpaces__II_V : Cond.selects "GalleyRoomModel" ({ cls := "GalleyRoomModel", name := "laysSpaces", desc := "(II)V" } : Jvm.MethodName) ({ cls := "GalleyRoomModel", name := "laysSpaces", desc := "(II)V" } : Jvm.MethodName) ∈ lwG := lwG_mem (List.mem_append_left _ (List.mem_of_getElem? (i := 105) rfl)) rfl
theorem wd5_160 : (Cond.fieldLink "GalleyRoomModel" (111 : Nat) "GalleyRoomModel" "facts" "[I") ∈ lwG := lwG_5 (List.mem_of_getElem? (i := 160) rfl) rfl
theorem fl_10_111 : g_Fl RX10 111 10 56 := ⟨rfl, by decide, RX10, TX10, rfl, inX10, wd5_160⟩
theorem wd8_41 : (Cond.methodLink "GalleyRoomModel" (516 : Nat) ({ cls := "GalleyRoomModel", name := "isSo", desc := "(I)Z" } : Jvm.MethodName)) ∈ lwG := lwG_8 (List.mem_of_getElem? (i := 41) rfl) rfl
theorem wd8_44 : (Cond.code ({ cls := "GalleyRoomModel", name := "isSo", desc := "(I)Z" } : Jvm.MethodName) prog_12_method_133_code (4 : Nat) (Option.some Jvm.ClassFile.FieldType.boolean)) ∈ lwG := lwG_8 (List.mem_of_getElem? (i := 44) rfl) rfl
theorem wd8_43 : (Cond.instanceMethod ({ cls := "GalleyRoomModel", name := "isSo", desc := "(I)Z" } : Jvm.MethodName)) ∈ lwG := lwG_8 (List.mem_of_getElem? (i := 43) rfl) rfl
theorem sel_GalleyRoomModel_isSo__I_Z : Cond.selects "GalleyRoomModel" ({ cls := "GalleyRoomModel", name := "isSo", desc := "(I)Z" } : Jvm.MethodName) ({ cls := "GalleyRoomModel", name := "isSo", desc := "(I)Z" } : Jvm.MethodName) ∈ lwG := lwG_mem (List.mem_append_left _ (List.mem_of_getElem? (i := 109) rfl)) rfl
theorem wd8_37 : (Cond.methodLink "GalleyRoomModel" (513 : Nat) ({ cls := "GalleyRoomModel", name := "laysFacts", desc := "()V" } : Jvm.MethodName)) ∈ lwG := lwG_8 (List.mem_of_getElem? (i := 37) rfl) rfl
theorem wd8_40 : (Cond.code ({ cls := "GalleyRoomModel", name := "laysFacts", desc := "()V" } : Jvm.MethodName) prog_12_method_132_code (2 : Nat) (Option.none : Option Jvm.ClassFile.FieldType)) ∈ lwG := lwG_8 (List.mem_of_getElem? (i := 40) rfl) rfl
theorem wd8_39 : (Cond.instanceMethod ({ cls := "GalleyRoomModel", name := "laysFacts", desc := "()V" } : Jvm.MethodName)) ∈ lwG := lwG_8 (List.mem_of_getElem? (i := 39) rfl) rfl
theorem sel_GalleyRoomModel_laysFacts___V : Cond.selects "GalleyRoomModel" ({ cls := "GalleyRoomModel", name := "laysFacts", desc := "()V" } : Jvm.MethodName) ({ cls := "GalleyRoomModel", name := "laysFacts", desc := "()V" } : Jvm.MethodName) ∈ lwG := lwG_mem (List.mem_append_left _ (List.mem_of_getElem? (i := 108) rfl)) rfl
theorem wd8_50 : (Cond.methodLink "GalleyRoomModel" (522 : Nat) ({ cls := "GalleyRoomModel", name := "mostAlike", desc := "(II)I" } : Jvm.MethodName)) ∈ lwG := lwG_8 (List.mem_of_getElem? (i := 50) rfl) rfl
theorem wd8_53 : (Cond.code ({ cls := "GalleyRoomModel", name := "mostAlike", desc := "(II)I" } : Jvm.MethodName) prog_12_method_135_code (7 : Nat) (Option.some Jvm.ClassFile.FieldType.int)) ∈ lwG := lwG_8 (List.mem_of_getElem? (i := 53) rfl) rfl
theorem wd8_52 : (Cond.instanceMethod ({ cls := "GalleyRoomModel", name := "mostAlike", desc := "(II)I" } : Jvm.MethodName)) ∈ lwG := lwG_8 (List.mem_of_getElem? (i := 52) rfl) rfl
theorem sel_GalleyRoomModel_mostAlike__II_I : Cond.selects "GalleyRoomModel" ({ cls := "GalleyRoomModel", name := "mostAlike", desc := "(II)I" } : Jvm.MethodName) ({ cls := "GalleyRoomModel", name := "mostAlike", desc := "(II)I" } : Jvm.MethodName) ∈ lwG := lwG_mem (List.mem_append_left _ (List.mem_of_getElem? (i := 110) rfl)) rfl
theorem wd8_49 : (Cond.methodLink "GalleyRoomModel" (519 : Nat) ({ cls := "GalleyRoomModel", name := "canBe", desc := "()I" } : Jvm.MethodName)) ∈ lwG := lwG_8 (List.mem_of_getElem? (i := 49) rfl) rfl
theorem wd8_36 : (Cond.code ({ cls := "GalleyRoomModel", name := "canBe", desc := "()I" } : Jvm.MethodName) prog_12_method_134_code (3 : Nat) (Option.some Jvm.ClassFile.FieldType.int)) ∈ lwG := lwG_8 (List.mem_of_getElem? (i := 36) rfl) rfl
theorem wd8_34 : (Cond.instanceMethod ({ cls := "GalleyRoomModel", name := "canBe", desc := "()I" } : Jvm.MethodName)) ∈ lwG := lwG_8 (List.mem_of_getElem? (i := 34) rfl) rfl
theorem wd8_35 : (Cond.selects "GalleyRoomModel" ({ cls := "GalleyRoomModel", name := "canBe", desc := "()I" } : Jvm.MethodName) ({ cls := "GalleyRoomModel", name := "canBe", desc := "()I" } : Jvm.MethodName)) ∈ lwG := lwG_8 (List.mem_of_getElem? (i := 35) rfl) rfl
theorem wd5_161 : (Cond.fieldLink "GalleyRoomModel" (114 : Nat) "GalleyRoomModel" "shares" "[J") ∈ lwG := lwG_5 (List.mem_of_getElem? (i := 161) rfl) rfl
theorem fl_10_114 : g_Fl RX10 114 10 57 := ⟨rfl, by decide, RX10, TX10, rfl, inX10, wd5_161⟩
theorem wd8_60 : (Cond.constantLong "GalleyRoomModel" (529 : Nat) (10 : Int64)) ∈ lwG := lwG_8 (List.mem_of_getElem? (i := 60) rfl) rfl
theorem wd8_59 : (Cond.constantLong "GalleyRoomModel" (527 : Nat) (1000000000000 : Int64)) ∈ lwG := lwG_8 (List.mem_of_getElem? (i := 59) rfl) rfl
theorem wd8_58 : (Cond.constantLong "GalleyRoomModel" (525 : Nat) (-1 : Int64)) ∈ lwG := lwG_8 (List.mem_of_getElem? (i := 58) rfl) rfl
theorem wd5_162 : (Cond.fieldLink "GalleyRoomModel" (117 : Nat) "GalleyRoomModel" "stopped0" "I") ∈ lwG := lwG_5 (List.mem_of_getElem? (i := 162) rfl) rfl
theorem fl_10_117 : g_Fl RX10 117 10 58 := ⟨rfl, by decide, RX10, TX10, rfl, inX10, wd5_162⟩
theorem wd5_167 : (Cond.fieldLink "GalleyRoomModel" (558 : Nat) "GalleyRoomModel" "testIs" "Z") ∈ lwG := lwG_5 (List.mem_of_getElem? (i := 167) rfl) rfl
theorem fp_10_558 : g_Fp RX10 558 10 63 .boolean := ⟨rfl, by decide, RX10, TX10, tyX10, rfl, inX10, wd5_167, tyX10_ok, nmX10, rfl, tyX10_ok 63 (by decide)⟩
theorem fl_10_558 : g_Fl RX10 558 10 63 := ⟨rfl, by decide, RX10, TX10, rfl, inX10, wd5_167⟩
theorem wd5_168 : (Cond.fieldLink "GalleyRoomModel" (120 : Nat) "GalleyRoomModel" "sums" "[J") ∈ lwG := lwG_5 (List.mem_of_getElem? (i := 168) rfl) rfl
theorem fl_10_120 : g_Fl RX10 120 10 64 := ⟨rfl, by decide, RX10, TX10, rfl, inX10, wd5_168⟩
theorem wd5_166 : (Cond.fieldLink "GalleyRoomModel" (552 : Nat) "GalleyRoomModel" "sumsAre" "Z") ∈ lwG := lwG_5 (List.mem_of_getElem? (i := 166) rfl) rfl
theorem fl_10_552 : g_Fl RX10 552 10 62 := ⟨rfl, by decide, RX10, TX10, rfl, inX10, wd5_166⟩
theorem fp_10_552 : g_Fp RX10 552 10 62 .boolean := ⟨rfl, by decide, RX10, TX10, tyX10, rfl, inX10, wd5_166, tyX10_ok, nmX10, rfl, tyX10_ok 62 (by decide)⟩
theorem wd5_164 : (Cond.fieldLink "GalleyRoomModel" (555 : Nat) "GalleyRoomModel" "howOften" "I") ∈ lwG := lwG_5 (List.mem_of_getElem? (i := 164) rfl) rfl
theorem fp_10_555 : g_Fp RX10 555 10 60 .int := ⟨rfl, by decide, RX10, TX10, tyX10, rfl, inX10, wd5_164, tyX10_ok, nmX10, rfl, tyX10_ok 60 (by decide)⟩
theorem fp_10_331 : g_Fp RX10 331 10 31 .int := ⟨rfl, by decide, RX10, TX10, tyX10, rfl, inX10, wd5_135, tyX10_ok, nmX10, rfl, tyX10_ok 31 (by decide)⟩
theorem fp_10_289 : g_Fp RX10 289 10 26 .int := ⟨rfl, by decide, RX10, TX10, tyX10, rfl, inX10, wd5_130, tyX10_ok, nmX10, rfl, tyX10_ok 26 (by decide)⟩
theorem wd5_163 : (Cond.fieldLink "GalleyRoomModel" (537 : Nat) "GalleyRoomModel" "orderAt" "I") ∈ lwG := lwG_5 (List.mem_of_getElem? (i := 163) rfl) rfl
theorem fl_10_537 : g_Fl RX10 537 10 59 := ⟨rfl, by decide, RX10, TX10, rfl, inX10, wd5_163⟩
theorem wd5_165 : (Cond.fieldLink "GalleyRoomModel" (549 : Nat) "GalleyRoomModel" "head" "I") ∈ lwG := lwG_5 (List.mem_of_getElem? (i := 165) rfl) rfl
theorem fp_10_549 : g_Fp RX10 549 10 61 .int := ⟨rfl, by decide, RX10, TX10, tyX10, rfl, inX10, wd5_165, tyX10_ok, nmX10, rfl, tyX10_ok 61 (by decide)⟩
theorem fl_10_549 : g_Fl RX10 549 10 61 := ⟨rfl, by decide, RX10, TX10, rfl, inX10, wd5_165⟩
theorem fp_10_334 : g_Fp RX10 334 10 32 .int := ⟨rfl, by decide, RX10, TX10, tyX10, rfl, inX10, wd5_136, tyX10_ok, nmX10, rfl, tyX10_ok 32 (by decide)⟩
theorem wd8_85 : (Cond.methodLink "GalleyRoomModel" (546 : Nat) ({ cls := "GalleyRoomModel", name := "settingLines", desc := "()I" } : Jvm.MethodName)) ∈ lwG := lwG_8 (List.mem_of_getElem? (i := 85) rfl) rfl
theorem wd8_88 : (Cond.code ({ cls := "GalleyRoomModel", name := "settingLines", desc := "()I" } : Jvm.MethodName) prog_12_method_91_code (1 : Nat) (Option.some Jvm.ClassFile.FieldType.int)) ∈ lwG := lwG_8 (List.mem_of_getElem? (i := 88) rfl) rfl
theorem wd8_87 : (Cond.instanceMethod ({ cls := "GalleyRoomModel", name := "settingLines", desc := "()I" } : Jvm.MethodName)) ∈ lwG := lwG_8 (List.mem_of_getElem? (i := 87) rfl) rfl
theorem sel_GalleyRoomModel_settingLines___I : Cond.selects "GalleyRoomModel" ({ cls := "GalleyRoomModel", name := "settingLines", desc := "()I" } : Jvm.MethodName) ({ cls := "GalleyRoomModel", name := "settingLines", desc := "()I" } : Jvm.MethodName) ∈ lwG := lwG_mem (List.mem_append_left _ (List.mem_of_getElem? (i := 115) rfl)) rfl
theorem wd8_136 : (Cond.constantLong "GalleyRoomModel" (561 : Nat) (1000000 : Int64)) ∈ lwG := lwG_8 (List.mem_of_getElem? (i := 136) rfl) rfl
theorem wd8_133 : (Cond.methodLink "GalleyRoomModel" (563 : Nat) ({ cls := "GalleyRoomModel", name := "small", desc := "(J)I" } : Jvm.MethodName)) ∈ lwG := lwG_8 (List.mem_of_getElem? (i := 133) rfl) rfl
theorem wd8_135 : (Cond.code ({ cls := "GalleyRoomModel", name := "small", desc := "(J)I" } : Jvm.MethodName) prog_12_method_141_code (2 : Nat) (Option.some Jvm.ClassFile.FieldType.int)) ∈ lwG := lwG_8 (List.mem_of_getElem? (i := 135) rfl) rfl
theorem wd8_134 : (Cond.static ({ cls := "GalleyRoomModel", name := "small", desc := "(J)I" } : Jvm.MethodName)) ∈ lwG := lwG_8 (List.mem_of_getElem? (i := 134) rfl) rfl
theorem fp_10_328 : g_Fp RX10 328 10 30 .int := ⟨rfl, by decide, RX10, TX10, tyX10, rfl, inX10, wd5_134, tyX10_ok, nmX10, rfl, tyX10_ok 30 (by decide)⟩
theorem wd8_81 : (Cond.methodLink "GalleyRoomModel" (567 : Nat) ({ cls := "GalleyRoomModel", name := "goesAlong", desc := "(IZ)V" } : Jvm.MethodName)) ∈ lwG := lwG_8 (List.mem_of_getElem? (i := 81) rfl) rfl
theorem wd8_84 : (Cond.code ({ cls := "GalleyRoomModel", name := "goesAlong", desc := "(IZ)V" } : Jvm.MethodName) prog_12_method_140_code (5 : Nat) (Option.none : Option Jvm.ClassFile.FieldType)) ∈ lwG := lwG_8 (List.mem_of_getElem? (i := 84) rfl) rfl
theorem wd8_83 : (Cond.instanceMethod ({ cls := "GalleyRoomModel", name := "goesAlong", desc := "(IZ)V" } : Jvm.MethodName)) ∈ lwG := lwG_8 (List.mem_of_getElem? (i := 83) rfl) rfl
theorem sel_GalleyRoomModel_goesAlong__IZ_V : Cond.selects "GalleyRoomModel" ({ cls := "GalleyRoomModel", name := "goesAlong", desc := "(IZ)V" } : Jvm.MethodName) ({ cls := "GalleyRoomModel", name := "goesAlong", desc := "(IZ)V" } : Jvm.MethodName) ∈ lwG := lwG_mem (List.mem_append_left _ (List.mem_of_getElem? (i := 114) rfl)) rfl
theorem wd8_129 : (Cond.methodLink "GalleyRoomModel" (570 : Nat) ({ cls := "GalleyRoomModel", name := "obeys", desc := "()I" } : Jvm.MethodName)) ∈ lwG := lwG_8 (List.mem_of_getElem? (i := 129) rfl) rfl
theorem wd8_132 : (Cond.code ({ cls := "GalleyRoomModel", name := "obeys", desc := "()I" } : Jvm.MethodName) prog_12_method_142_code (3 : Nat) (Option.some Jvm.ClassFile.FieldType.int)) ∈ lwG := lwG_8 (List.mem_of_getElem? (i := 132) rfl) rfl
theorem wd8_131 : (Cond.instanceMethod ({ cls := "GalleyRoomModel", name := "obeys", desc := "()I" } : Jvm.MethodName)) ∈ lwG := lwG_8 (List.mem_of_getElem? (i := 131) rfl) rfl
theorem sel_GalleyRoomModel_obeys___I : Cond.selects "GalleyRoomModel" ({ cls := "GalleyRoomModel", name := "obeys", desc := "()I" } : Jvm.MethodName) ({ cls := "GalleyRoomModel", name := "obeys", desc := "()I" } : Jvm.MethodName) ∈ lwG := lwG_mem (List.mem_append_left _ (List.mem_of_getElem? (i := 126) rfl)) rfl
theorem fp_10_325 : g_Fp RX10 325 10 29 .int := ⟨rfl, by decide, RX10, TX10, tyX10, rfl, inX10, wd5_133, tyX10_ok, nmX10, rfl, tyX10_ok 29 (by decide)⟩
theorem fp_10_537 : g_Fp RX10 537 10 59 .int := ⟨rfl, by decide, RX10, TX10, tyX10, rfl, inX10, wd5_163, tyX10_ok, nmX10, rfl, tyX10_ok 59 (by decide)⟩
theorem fl_10_555 : g_Fl RX10 555 10 60 := ⟨rfl, by decide, RX10, TX10, rfl, inX10, wd5_164⟩
theorem wd5_149 : (Cond.fieldLink "GalleyRoomModel" (81 : Nat) "GalleyRoomModel" "leftAhead" "[I") ∈ lwG := lwG_5 (List.mem_of_getElem? (i := 149) rfl) rfl
theorem fl_10_81 : g_Fl RX10 81 10 45 := ⟨rfl, by decide, RX10, TX10, rfl, inX10, wd5_149⟩
theorem fp_10_117 : g_Fp RX10 117 10 58 .int := ⟨rfl, by decide, RX10, TX10, tyX10, rfl, inX10, wd5_162, tyX10_ok, nmX10, rfl, tyX10_ok 58 (by decide)⟩
theorem wd8_77 : (Cond.methodLink "GalleyRoomModel" (540 : Nat) ({ cls := "GalleyRoomModel", name := "runs", desc := "(I)Z" } : Jvm.MethodName)) ∈ lwG := lwG_8 (List.mem_of_getElem? (i := 77) rfl) rfl
theorem wd8_80 : (Cond.code ({ cls := "GalleyRoomModel", name := "runs", desc := "(I)Z" } : Jvm.MethodName) prog_12_method_143_code (5 : Nat) (Option.some Jvm.ClassFile.FieldType.boolean)) ∈ lwG := lwG_8 (List.mem_of_getElem? (i := 80) rfl) rfl
theorem wd8_79 : (Cond.instanceMethod ({ cls := "GalleyRoomModel", name := "runs", desc := "(I)Z" } : Jvm.MethodName)) ∈ lwG := lwG_8 (List.mem_of_getElem? (i := 79) rfl) rfl
theorem sel_GalleyRoomModel_runs__I_Z : Cond.selects "GalleyRoomModel" ({ cls := "GalleyRoomModel", name := "runs", desc := "(I)Z" } : Jvm.MethodName) ({ cls := "GalleyRoomModel", name := "runs", desc := "(I)Z" } : Jvm.MethodName) ∈ lwG := lwG_mem (List.mem_append_left _ (List.mem_of_getElem? (i := 113) rfl)) rfl
theorem wd8_137 : (Cond.methodLink "GalleyRoomModel" (543 : Nat) ({ cls := "GalleyRoomModel", name := "takesBack", desc := "(I)V" } : Jvm.MethodName)) ∈ lwG := lwG_8 (List.mem_of_getElem? (i := 137) rfl) rfl
theorem wd8_140 : (Cond.code ({ cls := "GalleyRoomModel", name := "takesBack", desc := "(I)V" } : Jvm.MethodName) prog_12_method_11_code (3 : Nat) (Option.none : Option Jvm.ClassFile.FieldType)) ∈ lwG := lwG_8 (List.mem_of_getElem? (i := 140) rfl) rfl
theorem wd8_139 : (Cond.instanceMethod ({ cls := "GalleyRoomModel", name := "takesBack", desc := "(I)V" } : Jvm.MethodName)) ∈ lwG := lwG_8 (List.mem_of_getElem? (i := 139) rfl) rfl
theorem sel_GalleyRoomModel_takesBack__I_V : Cond.selects "GalleyRoomModel" ({ cls := "GalleyRoomModel", name := "takesBack", desc := "(I)V" } : Jvm.MethodName) ({ cls := "GalleyRoomModel", name := "takesBack", desc := "(I)V" } : Jvm.MethodName) ∈ lwG := lwG_mem (List.mem_append_left _ (List.mem_of_getElem? (i := 127) rfl)) rfl
theorem wd8_73 : (Cond.methodLink "GalleyRoomModel" (534 : Nat) ({ cls := "GalleyRoomModel", name := "lays", desc := "(I)V" } : Jvm.MethodName)) ∈ lwG := lwG_8 (List.mem_of_getElem? (i := 73) rfl) rfl
theorem wd8_76 : (Cond.code ({ cls := "GalleyRoomModel", name := "lays", desc := "(I)V" } : Jvm.MethodName) prog_12_method_53_code (3 : Nat) (Option.none : Option Jvm.ClassFile.FieldType)) ∈ lwG := lwG_8 (List.mem_of_getElem? (i := 76) rfl) rfl
theorem wd8_75 : (Cond.instanceMethod ({ cls := "GalleyRoomModel", name := "lays", desc := "(I)V" } : Jvm.MethodName)) ∈ lwG := lwG_8 (List.mem_of_getElem? (i := 75) rfl) rfl
theorem sel_GalleyRoomModel_lays__I_V : Cond.selects "GalleyRoomModel" ({ cls := "GalleyRoomModel", name := "lays", desc := "(I)V" } : Jvm.MethodName) ({ cls := "GalleyRoomModel", name := "lays", desc := "(I)V" } : Jvm.MethodName) ∈ lwG := lwG_mem (List.mem_append_left _ (List.mem_of_getElem? (i := 112) rfl)) rfl
theorem wd8_69 : (Cond.methodLink "GalleyRoomModel" (531 : Nat) ({ cls := "GalleyRoomModel", name := "laysAside", desc := "(I)V" } : Jvm.MethodName)) ∈ lwG := lwG_8 (List.mem_of_getElem? (i := 69) rfl) rfl
theorem wd8_72 : (Cond.code ({ cls := "GalleyRoomModel", name := "laysAside", desc := "(I)V" } : Jvm.MethodName) prog_12_method_10_code (3 : Nat) (Option.none : Option Jvm.ClassFile.FieldType)) ∈ lwG := lwG_8 (List.mem_of_getElem? (i := 72) rfl) rfl
theorem wd8_71 : (Cond.instanceMethod ({ cls := "GalleyRoomModel", name := "laysAside", desc := "(I)V" } : Jvm.MethodName)) ∈ lwG := lwG_8 (List.mem_of_getElem? (i := 71) rfl) rfl
theorem sel_GalleyRoomModel_laysAside__I_V : Cond.selects "GalleyRoomModel" ({ cls := "GalleyRoomModel", name := "laysAside", desc := "(I)V" } : Jvm.MethodName) ({ cls := "GalleyRoomModel", name := "laysAside", desc := "(I)V" } : Jvm.MethodName) ∈ lwG := lwG_mem (List.mem_append_left _ (List.mem_of_getElem? (i := 111) rfl)) rfl
theorem wd8_153 : (Cond.constantLong "GalleyRoomModel" (573 : Nat) (1103 : Int64)) ∈ lwG := lwG_8 (List.mem_of_getElem? (i := 153) rfl) rfl
theorem wd5_171 : (Cond.fieldLink "GalleyRoomModel" (575 : Nat) "GalleyRoomModel" "latest" "I") ∈ lwG := lwG_5 (List.mem_of_getElem? (i := 171) rfl) rfl
theorem fl_10_575 : g_Fl RX10 575 10 67 := ⟨rfl, by decide, RX10, TX10, rfl, inX10, wd5_171⟩
theorem wd8_154 : (Cond.constantLong "GalleyRoomModel" (578 : Nat) (12345 : Int64)) ∈ lwG := lwG_8 (List.mem_of_getElem? (i := 154) rfl) rfl
theorem wd8_155 : (Cond.constantLong "GalleyRoomModel" (580 : Nat) (1000003 : Int64)) ∈ lwG := lwG_8 (List.mem_of_getElem? (i := 155) rfl) rfl
theorem fp_10_575 : g_Fp RX10 575 10 67 .int := ⟨rfl, by decide, RX10, TX10, tyX10, rfl, inX10, wd5_171, tyX10_ok, nmX10, rfl, tyX10_ok 67 (by decide)⟩
theorem wd8_149 : (Cond.methodLink "GalleyRoomModel" (582 : Nat) ({ cls := "GalleyRoomModel", name := "draws", desc := "(I)I" } : Jvm.MethodName)) ∈ lwG := lwG_8 (List.mem_of_getElem? (i := 149) rfl) rfl
theorem wd8_152 : (Cond.code ({ cls := "GalleyRoomModel", name := "draws", desc := "(I)I" } : Jvm.MethodName) prog_12_method_144_code (2 : Nat) (Option.some Jvm.ClassFile.FieldType.int)) ∈ lwG := lwG_8 (List.mem_of_getElem? (i := 152) rfl) rfl
theorem wd8_151 : (Cond.instanceMethod ({ cls := "GalleyRoomModel", name := "draws", desc := "(I)I" } : Jvm.MethodName)) ∈ lwG := lwG_8 (List.mem_of_getElem? (i := 151) rfl) rfl
theorem sel_GalleyRoomModel_draws__I_I : Cond.selects "GalleyRoomModel" ({ cls := "GalleyRoomModel", name := "draws", desc := "(I)I" } : Jvm.MethodName) ({ cls := "GalleyRoomModel", name := "draws", desc := "(I)I" } : Jvm.MethodName) ∈ lwG := lwG_mem (List.mem_append_left _ (List.mem_of_getElem? (i := 129) rfl)) rfl
theorem wd5_169 : (Cond.fieldLink "GalleyRoomModel" (123 : Nat) "GalleyRoomModel" "drawnMoved" "[I") ∈ lwG := lwG_5 (List.mem_of_getElem? (i := 169) rfl) rfl
theorem fl_10_123 : g_Fl RX10 123 10 65 := ⟨rfl, by decide, RX10, TX10, rfl, inX10, wd5_169⟩
theorem wd8_145 : (Cond.methodLink "GalleyRoomModel" (585 : Nat) ({ cls := "GalleyRoomModel", name := "drawnAct", desc := "()V" } : Jvm.MethodName)) ∈ lwG := lwG_8 (List.mem_of_getElem? (i := 145) rfl) rfl
theorem wd8_148 : (Cond.code ({ cls := "GalleyRoomModel", name := "drawnAct", desc := "()V" } : Jvm.MethodName) prog_12_method_145_code (4 : Nat) (Option.none : Option Jvm.ClassFile.FieldType)) ∈ lwG := lwG_8 (List.mem_of_getElem? (i := 148) rfl) rfl
theorem wd8_147 : (Cond.instanceMethod ({ cls := "GalleyRoomModel", name := "drawnAct", desc := "()V" } : Jvm.MethodName)) ∈ lwG := lwG_8 (List.mem_of_getElem? (i := 147) rfl) rfl
theorem sel_GalleyRoomModel_drawnAct___V : Cond.selects "GalleyRoomModel" ({ cls := "GalleyRoomModel", name := "drawnAct", desc := "()V" } : Jvm.MethodName) ({ cls := "GalleyRoomModel", name := "drawnAct", desc := "()V" } : Jvm.MethodName) ∈ lwG := lwG_mem (List.mem_append_left _ (List.mem_of_getElem? (i := 128) rfl)) rfl
theorem wd5_170 : (Cond.fieldLink "GalleyRoomModel" (126 : Nat) "GalleyRoomModel" "drawnMany" "I") ∈ lwG := lwG_5 (List.mem_of_getElem? (i := 170) rfl) rfl
theorem fp_10_126 : g_Fp RX10 126 10 66 .int := ⟨rfl, by decide, RX10, TX10, tyX10, rfl, inX10, wd5_170, tyX10_ok, nmX10, rfl, tyX10_ok 66 (by decide)⟩
theorem fl_10_126 : g_Fl RX10 126 10 66 := ⟨rfl, by decide, RX10, TX10, rfl, inX10, wd5_170⟩
theorem fl_10_3 : g_Fl RX10 3 10 0 := ⟨rfl, by decide, RX10, TX10, rfl, inX10, wd5_104⟩
def M_x1_has : g_M := (RX1, cX1_has, 2, some .boolean, 1, 0)
def M_x1_whyNot : g_M := (RX1, cX1_whyNot, 4, some .int, 2, 0)
def M_x1_wideOf : g_M := (RX1, cX1_wideOf, 2, some .int, 2, 0)
def M_x3_dropOldest : g_M := (RX3, cX3_dropOldest, 1, none, 7, 0)
def M_x3_note : g_M := (RX3, cX3_note, 4, none, 8, 0)
def M_x1_carryOutIfItCanBe : g_M := (RX1, cX1_carryOutIfItCanBe, 4, none, 3, 0)
def M_x0_attempt : g_M := (RX0, cX0_attempt, 5, some .int, 9, 0)
def M_x1_copyFrom : g_M := (RX1, cX1_copyFrom, 3, none, 7, 0)
def M_x3_copyFrom : g_M := (RX3, cX3_copyFrom, 2, none, 7, 0)
def M_x0_begin : g_M := (RX0, cX0_begin, 1, none, 8, 0)
def M_x0_giveUp : g_M := (RX0, cX0_giveUp, 1, none, 8, 0)
def M_x1_isSplit : g_M := (RX1, cX1_isSplit, 2, some .boolean, 2, 0)
def M_x1_endsAfter : g_M := (RX1, cX1_endsAfter, 2, some .boolean, 2, 0)
def M_x1_endsAt : g_M := (RX1, cX1_endsAt, 2, some .boolean, 3, 0)
def M_x1_pieceOf : g_M := (RX1, cX1_pieceOf, 4, some .int, 2, 0)
def M_x2_measureUp : g_M := (RX2, cX2_measureUp, 5, none, 3, 0)
def M_x1_lawOf : g_M := (RX1, cX1_lawOf, 2, some (.object "GalleyRoom$Text"), 1, 0)
def M_x1_lawInForce : g_M := (RX1, cX1_lawInForce, 1, some (.object "GalleyRoom$Text"), 2, 0)
def M_x2_gatherFacts : g_M := (RX2, cX2_gatherFacts, 5, none, 2, 0)
def M_x4_combine : g_M := (RX4, cX4_combine, 8, some .long, 1, 0)
def M_x4_valueOf : g_M := (RX4, cX4_valueOf, 12, some .long, 2, 0)
def M_x9_clamp : g_M := (RX9, cX9_clamp, 3, some .int, 7, 0)
def M_x2_judge : g_M := (RX2, cX2_judge, 10, none, 8, 0)
def M_x7_writeDown : g_M := (RX7, cX7_writeDown, 2, none, 1, 0)
def M_x7_readSetting : g_M := (RX7, cX7_readSetting, 4, none, 9, 0)
def M_x7_tellOf : g_M := (RX7, cX7_tellOf, 3, some .int, 1, 0)
def M_x7_together : g_M := (RX7, cX7_together, 4, some .int, 2, 0)
def M_x0_endsOf : g_M := (RX0, cX0_endsOf, 2, some .int, 3, 0)
def M_x0_gatherOrderFacts : g_M := (RX0, cX0_gatherOrderFacts, 2, none, 4, 0)
def M_x0_runOnce : g_M := (RX0, cX0_runOnce, 7, some .boolean, 10, 0)
def M_x1_canBeSplit : g_M := (RX1, cX1_canBeSplit, 2, some .boolean, 2, 0)
def M_x1_canEndAt : g_M := (RX1, cX1_canEndAt, 2, some .boolean, 3, 0)
def M_x1_addWord : g_M := (RX1, cX1_addWord, 4, none, 1, 0)
def M_x1_dropWord : g_M := (RX1, cX1_dropWord, 3, none, 2, 0)
def M_x1_canForce : g_M := (RX1, cX1_canForce, 2, some .boolean, 1, 0)
def M_x3_takeBack : g_M := (RX3, cX3_takeBack, 2, some .int, 4, 0)
def M_x5_slot : g_M := (RX5, cX5_slot, 2, some .int, 1, 0)
def M_x5_isBetter : g_M := (RX5, cX5_isBetter, 5, some .boolean, 1, 0)
def M_x5_join : g_M := (RX5, cX5_join, 7, none, 7, 0)
def M_x5_layLine : g_M := (RX5, cX5_layLine, 10, none, 9, 0)
def M_x5_layOut : g_M := (RX5, cX5_layOut, 7, none, 10, 0)
def M_x5_canBeOf : g_M := (RX5, cX5_canBeOf, 3, some .boolean, 2, 0)
def M_x5_canBeOfAtMost : g_M := (RX5, cX5_canBeOfAtMost, 3, some .boolean, 3, 0)
def M_x5_leastOfJust : g_M := (RX5, cX5_leastOfJust, 3, some .int, 2, 0)
def M_x5_bestSlot : g_M := (RX5, cX5_bestSlot, 4, some .int, 2, 0)
def M_x5_bestCosts : g_M := (RX5, cX5_bestCosts, 2, some .int, 3, 0)
def M_x5_bestPlace : g_M := (RX5, cX5_bestPlace, 5, some .int, 3, 0)
def M_x5_waysInAll : g_M := (RX5, cX5_waysInAll, 5, some .long, 2, 0)
def M_x5_mostPaid : g_M := (RX5, cX5_mostPaid, 4, some .int, 7, 0)
def M_x8_clear : g_M := (RX8, cX8_clear, 1, none, 1, 0)
def M_x6_sortOf : g_M := (RX6, cX6_sortOf, 1, some .int, 1, 0)
def M_x6_wordOf : g_M := (RX6, cX6_wordOf, 8, some .int, 7, 0)
def M_x6_numberOf : g_M := (RX6, cX6_numberOf, 5, some .int, 7, 0)
def M_x6_cut : g_M := (RX6, cX6_cut, 7, none, 8, 0)
def M_x6_failHere : g_M := (RX6, cX6_failHere, 1, some .boolean, 1, 0)
def M_x6_sign : g_M := (RX6, cX6_sign, 1, some .int, 1, 0)
def M_x6_takeFrom : g_M := (RX6, cX6_takeFrom, 4, some .int, 2, 0)
def M_x8_emit : g_M := (RX8, cX8_emit, 3, none, 1, 0)
def M_x6_takeOrderFact : g_M := (RX6, cX6_takeOrderFact, 3, some .int, 3, 0)
def M_x6_takeLawFact : g_M := (RX6, cX6_takeLawFact, 2, some .int, 3, 0)
def M_x6_readPart (d : Nat) : g_M := (RX6, cX6_readPart, 3, some .boolean, 8 * d + 5, 0)
def M_x6_instructionOf : g_M := (RX6, cX6_instructionOf, 1, some .int, 1, 0)
def M_x6_readTerm (d : Nat) : g_M := (RX6, cX6_readTerm, 5, some .boolean, 8 * d + 6, 0)
def M_x6_readSum (d : Nat) : g_M := (RX6, cX6_readSum, 5, some .boolean, 8 * d + 7, 0)
def M_x6_take : g_M := (RX6, cX6_take, 2, some .boolean, 2, 0)
def M_x6_readComparison (d : Nat) : g_M := (RX6, cX6_readComparison, 4, some .boolean, 8 * d + 8, 0)
def M_x6_readPlain (d : Nat) : g_M := (RX6, cX6_readPlain, 4, some .boolean, 8 * d + 9, 0)
def M_x8_aim : g_M := (RX8, cX8_aim, 2, none, 1, 0)
def M_x6_readBoth (d : Nat) : g_M := (RX6, cX6_readBoth, 5, some .boolean, 8 * d + 10, 0)
def M_x6_readTest (d : Nat) : g_M := (RX6, cX6_readTest, 5, some .boolean, 8 * d + 11, 0)
def M_x6_takeOrFail : g_M := (RX6, cX6_takeOrFail, 2, some .boolean, 3, 0)
def M_x6_readBracketed (d : Nat) : g_M := (RX6, cX6_readBracketed, 2, some .boolean, 8 * d + 4, 0)
def M_x6_readOrder : g_M := (RX6, cX6_readOrder, 4, some .boolean, 88, 0)
def M_x6_readRule : g_M := (RX6, cX6_readRule, 4, some .boolean, 88, 0)
def M_x6_readClause : g_M := (RX6, cX6_readClause, 3, some .boolean, 92, 0)
def M_x6_readText : g_M := (RX6, cX6_readText, 5, none, 93, 0)
def M_x7_howManyFit : g_M := (RX7, cX7_howManyFit, 2, some .int, 10, 0)
def M_x7_tellFact : g_M := (RX7, cX7_tellFact, 3, some .int, 2, 0)
def M_x7_isAsSeen : g_M := (RX7, cX7_isAsSeen, 4, some .boolean, 3, 0)
def M_x7_linesAsSeen : g_M := (RX7, cX7_linesAsSeen, 4, some .int, 4, 0)
def M_x7_mostAlike : g_M := (RX7, cX7_mostAlike, 7, some .int, 7, 0)
def M_x7_flowThrough : g_M := (RX7, cX7_flowThrough, 7, some .int, 7, 0)
def M_x7_longestRiver : g_M := (RX7, cX7_longestRiver, 7, some .int, 8, 0)
def M_x9_canBeWord : g_M := (RX9, cX9_canBeWord, 3, some .boolean, 1, 0)
def M_x9_refuse : g_M := (RX9, cX9_refuse, 3, some .int, 1, 0)
def M_x9_answer : g_M := (RX9, cX9_answer, 2, some .int, 1, 0)
def M_x9_word : g_M := (RX9, cX9_word, 4, some .int, 2, 0)
def M_x9_of : g_M := (RX9, cX9_of, 3, some .int, 3, 0)
def M_x9_line : g_M := (RX9, cX9_line, 3, some .int, 10, 0)
def M_x9_all : g_M := (RX9, cX9_all, 2, some .int, 10, 0)
def M_x9_terms : g_M := (RX9, cX9_terms, 4, some .int, 2, 0)
def M_x9_putFour : g_M := (RX9, cX9_putFour, 3, none, 1, 0)
def M_x9_feed : g_M := (RX9, cX9_feed, 6, some .int, 2, 0)
def M_x9_end : g_M := (RX9, cX9_end, 2, some .int, 1, 0)
def M_x9_takeWordAt : g_M := (RX9, cX9_takeWordAt, 5, some .boolean, 2, 0)
def M_x9_row : g_M := (RX9, cX9_row, 3, some .int, 3, 0)
def M_x9_turned : g_M := (RX9, cX9_turned, 1, some .int, 1, 0)
def M_x9_law : g_M := (RX9, cX9_law, 1, some .int, 94, 1)
def M_x9_orders : g_M := (RX9, cX9_orders, 4, some .int, 94, 0)
def M_x9_fault : g_M := (RX9, cX9_fault, 1, some .int, 1, 0)
def M_x9_stopped : g_M := (RX9, cX9_stopped, 1, some .int, 1, 0)
def M_x9_force : g_M := (RX9, cX9_force, 3, some .int, 2, 0)
def M_x9_stop : g_M := (RX9, cX9_stop, 3, some .int, 10, 0)
def M_x9_split : g_M := (RX9, cX9_split, 3, some .int, 10, 0)
def M_x9_swell : g_M := (RX9, cX9_swell, 5, some .int, 10, 0)
def M_x9_pass : g_M := (RX9, cX9_pass, 3, some .int, 11, 0)
def M_x9_undo : g_M := (RX9, cX9_undo, 2, some .int, 5, 0)
def M_x9_layPaper : g_M := (RX9, cX9_layPaper, 3, none, 11, 0)
def M_x9_best : g_M := (RX9, cX9_best, 2, some .int, 12, 0)
def M_x9_just : g_M := (RX9, cX9_just, 2, some .int, 12, 0)
def M_x9_fewest : g_M := (RX9, cX9_fewest, 2, some .int, 12, 0)
def M_x9_most : g_M := (RX9, cX9_most, 2, some .int, 12, 0)
def M_x9_ways : g_M := (RX9, cX9_ways, 1, some .long, 12, 0)
def M_x9_richest : g_M := (RX9, cX9_richest, 1, some .int, 12, 0)
def M_x9_narrow : g_M := (RX9, cX9_narrow, 3, some .int, 11, 0)
def M_x9_leaveOut : g_M := (RX9, cX9_leaveOut, 6, some .int, 12, 0)
def M_x9_river : g_M := (RX9, cX9_river, 1, some .int, 10, 0)
def M_x9_seen : g_M := (RX9, cX9_seen, 3, some .int, 2, 0)
def M_x9_forget : g_M := (RX9, cX9_forget, 2, some .int, 1, 0)
def M_x9_canBe : g_M := (RX9, cX9_canBe, 1, some .int, 10, 0)
def M_x9_look : g_M := (RX9, cX9_look, 7, some .int, 10, 0)
def M_x9_few : g_M := (RX9, cX9_few, 8, some .long, 7, 0)
def M_x9_compare : g_M := (RX9, cX9_compare, 2, some .int, 12, 0)
def M_x9_nextDraw : g_M := (RX9, cX9_nextDraw, 1, some .int, 1, 0)
def M_x9_weeks : g_M := (RX9, cX9_weeks, 8, some .int, 11, 0)
def M_x9_drawn : g_M := (RX9, cX9_drawn, 3, some .int, 3, 0)
def M_x9_image : g_M := (RX9, cX9_image, 2, some .int, 8, 0)
def M_x9_back : g_M := (RX9, cX9_back, 2, some .int, 8, 0)
def M_x9_count : g_M := (RX9, cX9_count, 2, some .int, 11, 0)
def M_x9_status : g_M := (RX9, cX9_status, 1, some .int, 1, 0)
def M_m_lies : g_M := (RX10, cX10_lies, 3, some .boolean, 1, 0)
def M_m_lesser : g_M := (RX10, cX10_lesser, 2, some .int, 1, 0)
def M_m_greater : g_M := (RX10, cX10_greater, 2, some .int, 1, 0)
def M_m_refuses : g_M := (RX10, cX10_refuses, 2, some .int, 1, 0)
def M_m_good : g_M := (RX10, cX10_good, 2, some .int, 1, 0)
def M_m_settled : g_M := (RX10, cX10_settled, 2, some .int, 2, 0)
def M_m_isIn : g_M := (RX10, cX10_isIn, 2, some .boolean, 1, 0)
def M_m_laysAside : g_M := (RX10, cX10_laysAside, 3, none, 1, 0)
def M_m_takesBack : g_M := (RX10, cX10_takesBack, 3, none, 1, 0)
def M_m_image : g_M := (RX10, cX10_image, 3, some .int, 2, 0)
def M_m_wordMany : g_M := (RX10, cX10_wordMany, 1, some .int, 1, 0)
def M_m_laysAllWords : g_M := (RX10, cX10_laysAllWords, 2, none, 2, 0)
def M_m_back : g_M := (RX10, cX10_back, 3, some .int, 3, 0)
def M_m_isWord : g_M := (RX10, cX10_isWord, 2, some .boolean, 2, 0)
def M_m_isLast : g_M := (RX10, cX10_isLast, 2, some .boolean, 2, 0)
def M_m_endsAfter : g_M := (RX10, cX10_endsAfter, 2, some .boolean, 3, 0)
def M_m_isSplit : g_M := (RX10, cX10_isSplit, 2, some .boolean, 2, 0)
def M_m_canWord : g_M := (RX10, cX10_canWord, 3, some .boolean, 2, 0)
def M_m_adds : g_M := (RX10, cX10_adds, 5, none, 3, 0)
def M_m_word : g_M := (RX10, cX10_word, 4, some .int, 4, 0)
def M_m_of : g_M := (RX10, cX10_of, 3, some .int, 4, 0)
def M_m_isTerm : g_M := (RX10, cX10_isTerm, 2, some .boolean, 2, 0)
def M_m_termAt : g_M := (RX10, cX10_termAt, 1, some .int, 1, 0)
def M_m_terms : g_M := (RX10, cX10_terms, 4, some .int, 3, 0)
def M_m_row : g_M := (RX10, cX10_row, 5, some .int, 4, 0)
def M_m_turned : g_M := (RX10, cX10_turned, 1, some .int, 1, 0)
def M_m_feed : g_M := (RX10, cX10_feed, 7, some .int, 1, 0)
def M_m_end : g_M := (RX10, cX10_end, 2, some .int, 2, 0)
def M_m_isSmall : g_M := (RX10, cX10_isSmall, 1, some .boolean, 1, 0)
def M_m_isDigit : g_M := (RX10, cX10_isDigit, 1, some .boolean, 1, 0)
def M_m_wordOf : g_M := (RX10, cX10_wordOf, 8, some .int, 1, 0)
def M_m_splits : g_M := (RX10, cX10_splits, 6, none, 2, 0)
def M_m_fine : g_M := (RX10, cX10_fine, 1, some .boolean, 1, 0)
def M_m_faults : g_M := (RX10, cX10_faults, 1, none, 2, 0)
def M_m_tellsOp : g_M := (RX10, cX10_tellsOp, 3, some .int, 2, 0)
def M_m_takes0 : g_M := (RX10, cX10_takes0, 3, some .boolean, 2, 0)
def M_m_must : g_M := (RX10, cX10_must, 2, none, 3, 0)
def M_m_leaf : g_M := (RX10, cX10_leaf, 1, none, 3, 0)
def M_m_sign : g_M := (RX10, cX10_sign, 1, some .int, 1, 0)
def M_m_mustNumber : g_M := (RX10, cX10_mustNumber, 3, none, 3, 0)
def M_m_readPart (d : Nat) : g_M := (RX10, cX10_readPart, 3, none, 3 * d + 5, 0)
def M_m_readTerm (d : Nat) : g_M := (RX10, cX10_readTerm, 3, none, 3 * d + 6, 0)
def M_m_readSum (d : Nat) : g_M := (RX10, cX10_readSum, 3, none, 3 * d + 4, 0)
def M_m_readPlain (d : Nat) : g_M := (RX10, cX10_readPlain, 5, none, 3 * d + 36, 0)
def M_m_readBoth (d : Nat) : g_M := (RX10, cX10_readBoth, 3, none, 3 * d + 37, 0)
def M_m_readTest (d : Nat) : g_M := (RX10, cX10_readTest, 3, none, 3 * d + 35, 0)
def M_m_readClause : g_M := (RX10, cX10_readClause, 2, none, 66, 0)
def M_m_readOrder : g_M := (RX10, cX10_readOrder, 1, none, 66, 0)
def M_m_readOne : g_M := (RX10, cX10_readOne, 1, none, 67, 0)
def M_m_reads : g_M := (RX10, cX10_reads, 2, some .boolean, 68, 0)
def M_m_readsAs : g_M := (RX10, cX10_readsAs, 2, some .boolean, 69, 0)
def M_m_lays : g_M := (RX10, cX10_lays, 3, none, 1, 0)
def M_m_laysOps : g_M := (RX10, cX10_laysOps, 3, none, 1, 0)
def M_m_law : g_M := (RX10, cX10_law, 1, some .int, 70, 0)
def M_m_fault : g_M := (RX10, cX10_fault, 1, some .int, 1, 0)
def M_m_isLaw : g_M := (RX10, cX10_isLaw, 2, some .boolean, 2, 0)
def M_m_force : g_M := (RX10, cX10_force, 3, some .int, 3, 0)
def M_m_codeAt : g_M := (RX10, cX10_codeAt, 2, some .int, 1, 0)
def M_m_passes0 : g_M := (RX10, cX10_passes0, 3, some .boolean, 2, 0)
def M_m_bounded : g_M := (RX10, cX10_bounded, 4, some .long, 1, 0)
def M_m_orderValue : g_M := (RX10, cX10_orderValue, 3, some .int, 4, 0)
def M_m_partOf (d : Nat) : g_M := (RX10, cX10_partOf, 4, some .long, 3 * d + 6, 0)
def M_m_termOf (d : Nat) : g_M := (RX10, cX10_termOf, 7, some .long, 3 * d + 7, 0)
def M_m_sumOf (d : Nat) : g_M := (RX10, cX10_sumOf, 7, some .long, 3 * d + 5, 0)
def M_m_positiveOf (d : Nat) : g_M := (RX10, cX10_positiveOf, 7, some .boolean, 4 * d + 37, 0)
def M_m_plainOf (d : Nat) : g_M := (RX10, cX10_plainOf, 3, some .boolean, 4 * d + 38, 0)
def M_m_bothOf (d : Nat) : g_M := (RX10, cX10_bothOf, 4, some .boolean, 4 * d + 39, 0)
def M_m_testOf (d : Nat) : g_M := (RX10, cX10_testOf, 4, some .boolean, 4 * d + 36, 0)
def M_m_workedOff : g_M := (RX10, cX10_workedOff, 6, some .long, 2, 0)
def M_m_holds : g_M := (RX10, cX10_holds, 8, some .boolean, 3, 0)
def M_m_tells : g_M := (RX10, cX10_tells, 9, some .int, 4, 0)
def M_m_leavesOut : g_M := (RX10, cX10_leavesOut, 3, none, 2, 0)
def M_m_lastPlace : g_M := (RX10, cX10_lastPlace, 1, some .int, 1, 0)
def M_m_isWithin : g_M := (RX10, cX10_isWithin, 1, some .boolean, 1, 0)
def M_m_isPlace : g_M := (RX10, cX10_isPlace, 2, some .boolean, 1, 0)
def M_m_addsPiece : g_M := (RX10, cX10_addsPiece, 2, none, 1, 0)
def M_m_takesLine : g_M := (RX10, cX10_takesLine, 7, none, 2, 0)
def M_m_isLastLine : g_M := (RX10, cX10_isLastLine, 1, some .boolean, 2, 0)
def M_m_setsAsked : g_M := (RX10, cX10_setsAsked, 1, none, 3, 0)
def M_m_costsNow : g_M := (RX10, cX10_costsNow, 1, some .int, 5, 0)
def M_m_paysNow : g_M := (RX10, cX10_paysNow, 1, some .int, 5, 0)
def M_m_isBarred : g_M := (RX10, cX10_isBarred, 1, some .boolean, 5, 0)
def M_m_fitsNow : g_M := (RX10, cX10_fitsNow, 1, some .boolean, 6, 0)
def M_m_laysSetting : g_M := (RX10, cX10_laysSetting, 2, none, 4, 0)
def M_m_takesSet : g_M := (RX10, cX10_takesSet, 2, none, 3, 0)
def M_m_line : g_M := (RX10, cX10_line, 3, some .int, 7, 0)
def M_m_allOf : g_M := (RX10, cX10_allOf, 4, some .int, 7, 0)
def M_m_all : g_M := (RX10, cX10_all, 2, some .int, 8, 0)
def M_m_settingLines : g_M := (RX10, cX10_settingLines, 1, some .int, 5, 0)
def M_m_keeps : g_M := (RX10, cX10_keeps, 4, none, 1, 0)
def M_m_undo : g_M := (RX10, cX10_undo, 3, some .int, 2, 0)
def M_m_goodOr : g_M := (RX10, cX10_goodOr, 2, some .int, 2, 0)
def M_m_stopsKept : g_M := (RX10, cX10_stopsKept, 2, some .int, 4, 0)
def M_m_splitsKept : g_M := (RX10, cX10_splitsKept, 2, some .int, 3, 0)
def M_m_canSwell : g_M := (RX10, cX10_canSwell, 3, some .boolean, 1, 0)
def M_m_swellsKept : g_M := (RX10, cX10_swellsKept, 4, some .int, 3, 0)
def M_m_passesKept : g_M := (RX10, cX10_passesKept, 2, some .int, 8, 0)
def M_m_stop : g_M := (RX10, cX10_stop, 2, some .int, 5, 0)
def M_m_split : g_M := (RX10, cX10_split, 2, some .int, 4, 0)
def M_m_swell : g_M := (RX10, cX10_swell, 3, some .int, 4, 0)
def M_m_pass : g_M := (RX10, cX10_pass, 1, some .int, 9, 0)
def M_m_lineAt : g_M := (RX10, cX10_lineAt, 3, some .int, 1, 0)
def M_m_stateAt : g_M := (RX10, cX10_stateAt, 2, some .int, 1, 0)
def M_m_laysLine : g_M := (RX10, cX10_laysLine, 7, none, 7, 0)
def M_m_laysLines : g_M := (RX10, cX10_laysLines, 6, none, 8, 0)
def M_m_canLine : g_M := (RX10, cX10_canLine, 4, some .boolean, 2, 0)
def M_m_isStart : g_M := (RX10, cX10_isStart, 2, some .boolean, 2, 0)
def M_m_laysLeast : g_M := (RX10, cX10_laysLeast, 5, none, 3, 0)
def M_m_bestNow : g_M := (RX10, cX10_bestNow, 2, some .int, 9, 0)
def M_m_best : g_M := (RX10, cX10_best, 6, some .int, 10, 0)
def M_m_takesSum : g_M := (RX10, cX10_takesSum, 7, none, 2, 0)
def M_m_laysSums : g_M := (RX10, cX10_laysSums, 6, none, 3, 0)
def M_m_laysCosts : g_M := (RX10, cX10_laysCosts, 1, none, 9, 0)
def M_m_costsBy : g_M := (RX10, cX10_costsBy, 2, some .int, 2, 0)
def M_m_just : g_M := (RX10, cX10_just, 2, some .int, 10, 0)
def M_m_fewest : g_M := (RX10, cX10_fewest, 2, some .int, 10, 0)
def M_m_most : g_M := (RX10, cX10_most, 2, some .int, 10, 0)
def M_m_ways : g_M := (RX10, cX10_ways, 4, some .long, 9, 0)
def M_m_richest : g_M := (RX10, cX10_richest, 3, some .int, 9, 0)
def M_m_isBy : g_M := (RX10, cX10_isBy, 5, some .boolean, 3, 0)
def M_m_narrow : g_M := (RX10, cX10_narrow, 3, some .int, 9, 0)
def M_m_leaveOut : g_M := (RX10, cX10_leaveOut, 6, some .int, 10, 0)
def M_m_compare : g_M := (RX10, cX10_compare, 4, some .int, 10, 0)
def M_m_addsSpaced : g_M := (RX10, cX10_addsSpaced, 5, some .int, 1, 0)
def M_m_laysSpaces : g_M := (RX10, cX10_laysSpaces, 8, none, 2, 0)
def M_m_riverTo : g_M := (RX10, cX10_riverTo, 7, some .int, 2, 0)
def M_m_river : g_M := (RX10, cX10_river, 5, some .int, 5, 0)
def M_m_seen : g_M := (RX10, cX10_seen, 4, some .int, 2, 0)
def M_m_forget : g_M := (RX10, cX10_forget, 2, some .int, 1, 0)
def M_m_laysFacts : g_M := (RX10, cX10_laysFacts, 2, none, 6, 0)
def M_m_isSo : g_M := (RX10, cX10_isSo, 4, some .boolean, 1, 0)
def M_m_canBe : g_M := (RX10, cX10_canBe, 3, some .int, 7, 0)
def M_m_mostAlike : g_M := (RX10, cX10_mostAlike, 7, some .int, 2, 0)
def M_m_look : g_M := (RX10, cX10_look, 7, some .int, 8, 0)
def M_m_few : g_M := (RX10, cX10_few, 6, some .long, 2, 0)
def M_m_stopped : g_M := (RX10, cX10_stopped, 1, some .int, 1, 0)
def M_m_goesAlong : g_M := (RX10, cX10_goesAlong, 5, none, 77, 0)
def M_m_small : g_M := (RX10, cX10_small, 2, some .int, 1, 0)
def M_m_obeys : g_M := (RX10, cX10_obeys, 3, some .int, 9, 0)
def M_m_runs : g_M := (RX10, cX10_runs, 5, some .boolean, 78, 0)
def M_m_orders : g_M := (RX10, cX10_orders, 5, some .int, 79, 0)
def M_m_draws : g_M := (RX10, cX10_draws, 2, some .int, 1, 0)
def M_m_drawnAct : g_M := (RX10, cX10_drawnAct, 4, none, 3, 0)
def M_m_weeks : g_M := (RX10, cX10_weeks, 5, some .int, 8, 0)
def M_m_drawn : g_M := (RX10, cX10_drawn, 3, some .int, 2, 0)
def M_m_count : g_M := (RX10, cX10_count, 2, some .int, 8, 0)
def M_m_status : g_M := (RX10, cX10_status, 1, some .int, 1, 0)
theorem cw_1_61 : g_Cw RX1 61 (M_x1_has) yX1_has 1 := ⟨wd2_208, wd2_203, wd1_3, ⟨by decide, by decide⟩, by decide +kernel⟩
theorem cw_3_31 : g_Cw RX3 31 (M_x3_dropOldest) yX3_dropOldest 0 := ⟨wd4_64, wd4_67, wd1_4, ⟨by decide, by decide⟩, by decide +kernel⟩
theorem cw_1_78 : g_Cw RX1 78 (M_x1_whyNot) yX1_whyNot 3 := ⟨wd4_72, wd4_59, wd1_3, ⟨by decide, by decide⟩, by decide +kernel⟩
theorem cw_0_53 : g_Cw RX0 53 (M_x1_whyNot) yX1_whyNot 3 := ⟨wd4_56, wd4_59, wd1_3, ⟨by decide, by decide⟩, by decide +kernel⟩
theorem cw_0_57 : g_Cw RX0 57 (M_x1_wideOf) yX1_wideOf 1 := ⟨wd4_40, wd4_43, wd1_3, ⟨by decide, by decide⟩, by decide +kernel⟩
theorem cw_0_61 : g_Cw RX0 61 (M_x3_note) yX3_note 3 := ⟨wd4_60, wd4_63, wd1_4, ⟨by decide, by decide⟩, by decide +kernel⟩
theorem cw_0_65 : g_Cw RX0 65 (M_x1_carryOutIfItCanBe) yX1_carryOutIfItCanBe 3 := ⟨wd4_68, wd4_71, wd1_3, ⟨by decide, by decide⟩, by decide +kernel⟩
theorem cw_0_68 : g_Cw RX0 68 (M_x1_copyFrom) yX1_copyFrom 1 := ⟨wd4_20, wd4_23, wd1_3, ⟨by decide, by decide⟩, by decide +kernel⟩
theorem cw_0_72 : g_Cw RX0 72 (M_x3_copyFrom) yX3_copyFrom 1 := ⟨wd4_25, wd4_28, wd1_4, ⟨by decide, by decide⟩, by decide +kernel⟩
theorem cw_1_65 : g_Cw RX1 65 (M_x1_isSplit) yX1_isSplit 1 := ⟨wd2_225, wd2_212, wd1_3, ⟨by decide, by decide⟩, by decide +kernel⟩
theorem cw_1_68 : g_Cw RX1 68 (M_x1_endsAfter) yX1_endsAfter 1 := ⟨wd2_226, wd2_207, wd1_3, ⟨by decide, by decide⟩, by decide +kernel⟩
theorem cw_2_32 : g_Cw RX2 32 (M_x1_pieceOf) yX1_pieceOf 3 := ⟨wd2_231, wd2_234, wd1_3, ⟨by decide, by decide⟩, by decide +kernel⟩
theorem cw_1_74 : g_Cw RX1 74 (M_x1_lawOf) yX1_lawOf 1 := ⟨wd2_239, wd3_2, wd1_3, ⟨by decide, by decide⟩, by decide +kernel⟩
theorem cw_2_92 : g_Cw RX2 92 (M_x1_has) yX1_has 1 := ⟨wd3_11, wd2_203, wd1_3, ⟨by decide, by decide⟩, by decide +kernel⟩
theorem cw_4_25 : g_Cw RX4 25 (M_x4_combine) yX4_combine 3 := ⟨wd3_20, wd3_23, wd1_7, ⟨by decide, by decide⟩, by decide +kernel⟩
theorem cw_2_72 : g_Cw RX2 72 (M_x4_valueOf) yX4_valueOf 3 := ⟨wd3_16, wd3_19, wd1_7, ⟨by decide, by decide⟩, by decide +kernel⟩
theorem cw_2_38 : g_Cw RX2 38 (M_x2_gatherFacts) yX2_gatherFacts 3 := ⟨wd3_7, wd3_10, wd1_6, ⟨by decide, by decide⟩, by decide +kernel⟩
theorem cw_7_39 : g_Cw RX7 39 (M_x1_endsAt) yX1_endsAt 1 := ⟨wd2_221, wd2_224, wd1_3, ⟨by decide, by decide⟩, by decide +kernel⟩
theorem cw_7_43 : g_Cw RX7 43 (M_x2_measureUp) yX2_measureUp 3 := ⟨wd2_227, wd2_230, wd1_6, ⟨by decide, by decide⟩, by decide +kernel⟩
theorem cw_7_47 : g_Cw RX7 47 (M_x1_lawInForce) yX1_lawInForce 0 := ⟨wd2_235, wd2_238, wd1_3, ⟨by decide, by decide⟩, by decide +kernel⟩
theorem cw_7_54 : g_Cw RX7 54 (M_x2_judge) yX2_judge 5 := ⟨wd3_3, wd3_6, wd1_6, ⟨by decide, by decide⟩, by decide +kernel⟩
theorem cw_7_58 : g_Cw RX7 58 (M_x7_writeDown) yX7_writeDown 1 := ⟨wd3_35, wd3_38, wd1_5, ⟨by decide, by decide⟩, by decide +kernel⟩
theorem cw_7_84 : g_Cw RX7 84 (M_x7_tellOf) yX7_tellOf 2 := ⟨wd3_51, wd3_42, wd1_5, ⟨by decide, by decide⟩, by decide +kernel⟩
theorem cw_0_121 : g_Cw RX0 121 (M_x1_has) yX1_has 1 := ⟨wd4_48, wd2_203, wd1_3, ⟨by decide, by decide⟩, by decide +kernel⟩
theorem cw_0_125 : g_Cw RX0 125 (M_x1_endsAfter) yX1_endsAfter 1 := ⟨wd4_49, wd2_207, wd1_3, ⟨by decide, by decide⟩, by decide +kernel⟩
theorem cw_0_128 : g_Cw RX0 128 (M_x1_isSplit) yX1_isSplit 1 := ⟨wd4_50, wd2_212, wd1_3, ⟨by decide, by decide⟩, by decide +kernel⟩
theorem cw_0_118 : g_Cw RX0 118 (M_x0_endsOf) yX0_endsOf 1 := ⟨wd4_44, wd4_47, wd1_2, ⟨by decide, by decide⟩, by decide +kernel⟩
theorem cw_0_115 : g_Cw RX0 115 (M_x7_together) yX7_together 1 := ⟨wd4_39, wd3_50, wd1_5, ⟨by decide, by decide⟩, by decide +kernel⟩
theorem cw_0_106 : g_Cw RX0 106 (M_x0_attempt) yX0_attempt 3 := ⟨wd4_52, wd4_55, wd1_2, ⟨by decide, by decide⟩, by decide +kernel⟩
theorem cw_0_89 : g_Cw RX0 89 (M_x4_valueOf) yX4_valueOf 3 := ⟨wd4_51, wd3_19, wd1_7, ⟨by decide, by decide⟩, by decide +kernel⟩
theorem cw_0_78 : g_Cw RX0 78 (M_x7_readSetting) yX7_readSetting 1 := ⟨wd4_34, wd2_220, wd1_5, ⟨by decide, by decide⟩, by decide +kernel⟩
theorem cw_0_81 : g_Cw RX0 81 (M_x0_gatherOrderFacts) yX0_gatherOrderFacts 0 := ⟨wd4_35, wd4_38, wd1_2, ⟨by decide, by decide⟩, by decide +kernel⟩
theorem cw_1_71 : g_Cw RX1 71 (M_x1_canBeSplit) yX1_canBeSplit 1 := ⟨wd4_146, wd4_149, wd1_3, ⟨by decide, by decide⟩, by decide +kernel⟩
theorem cw_3_39 : g_Cw RX3 39 (M_x1_carryOutIfItCanBe) yX1_carryOutIfItCanBe 3 := ⟨wd4_125, wd4_71, wd1_3, ⟨by decide, by decide⟩, by decide +kernel⟩
theorem cw_5_87 : g_Cw RX5 87 (M_x5_isBetter) yX5_isBetter 3 := ⟨wd4_163, wd4_166, wd1_11, ⟨by decide, by decide⟩, by decide +kernel⟩
theorem cw_5_75 : g_Cw RX5 75 (M_x2_judge) yX2_judge 5 := ⟨wd4_158, wd3_6, wd1_6, ⟨by decide, by decide⟩, by decide +kernel⟩
theorem cw_5_81 : g_Cw RX5 81 (M_x5_join) yX5_join 2 := ⟨wd4_159, wd4_162, wd1_11, ⟨by decide, by decide⟩, by decide +kernel⟩
theorem cw_5_62 : g_Cw RX5 62 (M_x5_slot) yX5_slot 2 := ⟨wd4_155, wd4_157, wd1_11, ⟨by decide, by decide⟩, by decide +kernel⟩
theorem cw_5_47 : g_Cw RX5 47 (M_x1_canEndAt) yX1_canEndAt 1 := ⟨wd4_142, wd4_145, wd1_3, ⟨by decide, by decide⟩, by decide +kernel⟩
theorem cw_5_51 : g_Cw RX5 51 (M_x2_measureUp) yX2_measureUp 3 := ⟨wd4_150, wd2_230, wd1_6, ⟨by decide, by decide⟩, by decide +kernel⟩
theorem cw_5_58 : g_Cw RX5 58 (M_x5_layLine) yX5_layLine 5 := ⟨wd4_151, wd4_154, wd1_11, ⟨by decide, by decide⟩, by decide +kernel⟩
theorem cw_5_98 : g_Cw RX5 98 (M_x5_canBeOf) yX5_canBeOf 1 := ⟨wd4_224, wd4_195, wd1_11, ⟨by decide, by decide⟩, by decide +kernel⟩
theorem cw_5_101 : g_Cw RX5 101 (M_x5_bestSlot) yX5_bestSlot 0 := ⟨wd4_172, wd4_175, wd1_11, ⟨by decide, by decide⟩, by decide +kernel⟩
theorem cw_6_61 : g_Cw RX6 61 (M_x6_sign) yX6_sign 0 := ⟨wd3_176, wd3_179, wd1_8, ⟨by decide, by decide⟩, by decide +kernel⟩
theorem cw_6_93 : g_Cw RX6 93 (M_x6_failHere) yX6_failHere 0 := ⟨wd3_164, wd3_167, wd1_8, ⟨by decide, by decide⟩, by decide +kernel⟩
theorem cw_6_128 : g_Cw RX6 128 (M_x6_takeFrom) yX6_takeFrom 2 := ⟨wd3_172, wd3_175, wd1_8, ⟨by decide, by decide⟩, by decide +kernel⟩
theorem cw_6_146 (d : Nat) : g_Cw RX6 146 (M_x6_readBracketed d) yX6_readBracketed 1 := ⟨wd3_192, wd3_195, wd1_8, ⟨by decide, by decide⟩, by decide +kernel⟩
theorem cw_6_165 : g_Cw RX6 165 (M_x6_takeLawFact) yX6_takeLawFact 0 := ⟨wd3_235, wd3_238, wd1_8, ⟨by decide, by decide⟩, by decide +kernel⟩
theorem cw_6_121 : g_Cw RX6 121 (M_x8_emit) yX8_emit 2 := ⟨wd3_219, wd3_222, wd1_9, ⟨by decide, by decide⟩, by decide +kernel⟩
theorem cw_6_162 : g_Cw RX6 162 (M_x6_takeOrderFact) yX6_takeOrderFact 0 := ⟨wd3_231, wd3_234, wd1_8, ⟨by decide, by decide⟩, by decide +kernel⟩
theorem cw_6_152 : g_Cw RX6 152 (M_x6_instructionOf) yX6_instructionOf 1 := ⟨wd3_216, wd3_218, wd1_8, ⟨by decide, by decide⟩, by decide +kernel⟩
theorem cw_6_159 (d : Nat) : g_Cw RX6 159 (M_x6_readPart d) yX6_readPart 1 := ⟨wd3_188, wd3_191, wd1_8, ⟨by decide, by decide⟩, by decide +kernel⟩
theorem cw_6_156 (d : Nat) : g_Cw RX6 156 (M_x6_readTerm d) yX6_readTerm 1 := ⟨wd3_184, wd3_187, wd1_8, ⟨by decide, by decide⟩, by decide +kernel⟩
theorem cw_6_134 (d : Nat) : g_Cw RX6 134 (M_x6_readSum d) yX6_readSum 1 := ⟨wd3_180, wd3_183, wd1_8, ⟨by decide, by decide⟩, by decide +kernel⟩
theorem cw_6_149 (d : Nat) : g_Cw RX6 149 (M_x6_readComparison d) yX6_readComparison 1 := ⟨wd3_212, wd3_215, wd1_8, ⟨by decide, by decide⟩, by decide +kernel⟩
theorem cw_6_90 : g_Cw RX6 90 (M_x6_take) yX6_take 1 := ⟨wd3_196, wd3_199, wd1_8, ⟨by decide, by decide⟩, by decide +kernel⟩
theorem cw_6_143 (d : Nat) : g_Cw RX6 143 (M_x6_readPlain d) yX6_readPlain 1 := ⟨wd3_208, wd3_211, wd1_8, ⟨by decide, by decide⟩, by decide +kernel⟩
theorem cw_6_140 : g_Cw RX6 140 (M_x8_aim) yX8_aim 1 := ⟨wd3_223, wd3_226, wd1_9, ⟨by decide, by decide⟩, by decide +kernel⟩
theorem cw_6_137 (d : Nat) : g_Cw RX6 137 (M_x6_readBoth d) yX6_readBoth 1 := ⟨wd3_204, wd3_207, wd1_8, ⟨by decide, by decide⟩, by decide +kernel⟩
theorem cw_6_65 : g_Cw RX6 65 (M_x6_takeOrFail) yX6_takeOrFail 1 := ⟨wd3_227, wd3_230, wd1_8, ⟨by decide, by decide⟩, by decide +kernel⟩
theorem cw_6_118 (d : Nat) : g_Cw RX6 118 (M_x6_readTest d) yX6_readTest 1 := ⟨wd3_200, wd3_203, wd1_8, ⟨by decide, by decide⟩, by decide +kernel⟩
theorem cw_6_112 : g_Cw RX6 112 (M_x6_readRule) yX6_readRule 1 := ⟨wd3_239, wd4_2, wd1_8, ⟨by decide, by decide⟩, by decide +kernel⟩
theorem cw_6_109 : g_Cw RX6 109 (M_x6_readOrder) yX6_readOrder 1 := ⟨wd3_168, wd3_171, wd1_8, ⟨by decide, by decide⟩, by decide +kernel⟩
theorem cw_7_88 : g_Cw RX7 88 (M_x7_readSetting) yX7_readSetting 1 := ⟨wd4_115, wd2_220, wd1_5, ⟨by decide, by decide⟩, by decide +kernel⟩
theorem cw_7_92 : g_Cw RX7 92 (M_x7_together) yX7_together 1 := ⟨wd4_116, wd3_50, wd1_5, ⟨by decide, by decide⟩, by decide +kernel⟩
theorem cw_7_106 : g_Cw RX7 106 (M_x7_tellFact) yX7_tellFact 2 := ⟨wd5_33, wd5_36, wd1_5, ⟨by decide, by decide⟩, by decide +kernel⟩
theorem cw_7_96 : g_Cw RX7 96 (M_x7_isAsSeen) yX7_isAsSeen 2 := ⟨wd5_29, wd5_32, wd1_5, ⟨by decide, by decide⟩, by decide +kernel⟩
theorem cw_7_130 : g_Cw RX7 130 (M_x1_pieceOf) yX1_pieceOf 3 := ⟨wd5_9, wd2_234, wd1_3, ⟨by decide, by decide⟩, by decide +kernel⟩
theorem cw_7_126 : g_Cw RX7 126 (M_x7_flowThrough) yX7_flowThrough 3 := ⟨wd5_5, wd5_8, wd1_5, ⟨by decide, by decide⟩, by decide +kernel⟩
theorem cw_9_80 : g_Cw RX9 80 (M_x9_canBeWord) yX9_canBeWord 3 := ⟨wd2_181, wd2_183, wd1_1, ⟨by decide, by decide⟩, by decide +kernel⟩
theorem cw_9_84 : g_Cw RX9 84 (M_x9_refuse) yX9_refuse 1 := ⟨wd2_184, wd2_187, wd1_1, ⟨by decide, by decide⟩, by decide +kernel⟩
theorem cw_9_91 : g_Cw RX9 91 (M_x1_addWord) yX1_addWord 3 := ⟨wd2_188, wd2_191, wd1_3, ⟨by decide, by decide⟩, by decide +kernel⟩
theorem cw_9_100 : g_Cw RX9 100 (M_x9_answer) yX9_answer 1 := ⟨wd2_192, wd2_195, wd1_1, ⟨by decide, by decide⟩, by decide +kernel⟩
theorem cw_9_103 : g_Cw RX9 103 (M_x1_has) yX1_has 1 := ⟨wd2_200, wd2_203, wd1_3, ⟨by decide, by decide⟩, by decide +kernel⟩
theorem cw_9_116 : g_Cw RX9 116 (M_x1_endsAfter) yX1_endsAfter 1 := ⟨wd2_204, wd2_207, wd1_3, ⟨by decide, by decide⟩, by decide +kernel⟩
theorem cw_9_119 : g_Cw RX9 119 (M_x1_isSplit) yX1_isSplit 1 := ⟨wd2_209, wd2_212, wd1_3, ⟨by decide, by decide⟩, by decide +kernel⟩
theorem cw_9_122 : g_Cw RX9 122 (M_x7_readSetting) yX7_readSetting 1 := ⟨wd2_217, wd2_220, wd1_5, ⟨by decide, by decide⟩, by decide +kernel⟩
theorem cw_9_131 : g_Cw RX9 131 (M_x7_tellOf) yX7_tellOf 2 := ⟨wd3_39, wd3_42, wd1_5, ⟨by decide, by decide⟩, by decide +kernel⟩
theorem cw_9_135 : g_Cw RX9 135 (M_x7_together) yX7_together 1 := ⟨wd3_47, wd3_50, wd1_5, ⟨by decide, by decide⟩, by decide +kernel⟩
theorem cw_9_150 : g_Cw RX9 150 (M_x9_putFour) yX9_putFour 1 := ⟨wd3_64, wd3_67, wd1_1, ⟨by decide, by decide⟩, by decide +kernel⟩
theorem cw_9_157 : g_Cw RX9 157 (M_x9_takeWordAt) yX9_takeWordAt 1 := ⟨wd3_76, wd3_79, wd1_1, ⟨by decide, by decide⟩, by decide +kernel⟩
theorem cw_9_203 : g_Cw RX9 203 (M_x1_canForce) yX1_canForce 1 := ⟨wd4_89, wd4_92, wd1_3, ⟨by decide, by decide⟩, by decide +kernel⟩
theorem cw_9_209 : g_Cw RX9 209 (M_x0_attempt) yX0_attempt 3 := ⟨wd4_97, wd4_55, wd1_2, ⟨by decide, by decide⟩, by decide +kernel⟩
theorem cw_9_213 : g_Cw RX9 213 (M_x1_wideOf) yX1_wideOf 1 := ⟨wd4_106, wd4_43, wd1_3, ⟨by decide, by decide⟩, by decide +kernel⟩
theorem cw_9_216 : g_Cw RX9 216 (M_x7_howManyFit) yX7_howManyFit 1 := ⟨wd4_111, wd4_114, wd1_5, ⟨by decide, by decide⟩, by decide +kernel⟩
theorem cw_9_220 : g_Cw RX9 220 (M_x3_takeBack) yX3_takeBack 1 := ⟨wd4_121, wd4_124, wd1_4, ⟨by decide, by decide⟩, by decide +kernel⟩
theorem cw_9_250 : g_Cw RX9 250 (M_x5_layOut) yX5_layOut 4 := ⟨wd4_135, wd4_138, wd1_11, ⟨by decide, by decide⟩, by decide +kernel⟩
theorem cw_9_223 : g_Cw RX9 223 (M_x1_lawInForce) yX1_lawInForce 0 := ⟨wd4_130, wd2_238, wd1_3, ⟨by decide, by decide⟩, by decide +kernel⟩
theorem cw_9_226 : g_Cw RX9 226 (M_x9_layPaper) yX9_layPaper 2 := ⟨wd4_131, wd4_134, wd1_1, ⟨by decide, by decide⟩, by decide +kernel⟩
theorem cw_9_230 : g_Cw RX9 230 (M_x5_bestCosts) yX5_bestCosts 0 := ⟨wd4_168, wd4_171, wd1_11, ⟨by decide, by decide⟩, by decide +kernel⟩
theorem cw_9_234 : g_Cw RX9 234 (M_x5_bestPlace) yX5_bestPlace 1 := ⟨wd4_176, wd4_179, wd1_11, ⟨by decide, by decide⟩, by decide +kernel⟩
theorem cw_9_237 : g_Cw RX9 237 (M_x5_leastOfJust) yX5_leastOfJust 1 := ⟨wd4_184, wd4_187, wd1_11, ⟨by decide, by decide⟩, by decide +kernel⟩
theorem cw_9_240 : g_Cw RX9 240 (M_x5_canBeOf) yX5_canBeOf 1 := ⟨wd4_192, wd4_195, wd1_11, ⟨by decide, by decide⟩, by decide +kernel⟩
theorem cw_9_243 : g_Cw RX9 243 (M_x5_waysInAll) yX5_waysInAll 0 := ⟨wd4_204, wd4_207, wd1_11, ⟨by decide, by decide⟩, by decide +kernel⟩
theorem cw_9_247 : g_Cw RX9 247 (M_x5_mostPaid) yX5_mostPaid 0 := ⟨wd4_212, wd4_215, wd1_11, ⟨by decide, by decide⟩, by decide +kernel⟩
theorem cw_9_254 : g_Cw RX9 254 (M_x5_canBeOfAtMost) yX5_canBeOfAtMost 1 := ⟨wd4_220, wd4_223, wd1_11, ⟨by decide, by decide⟩, by decide +kernel⟩
theorem cw_9_257 : g_Cw RX9 257 (M_x1_copyFrom) yX1_copyFrom 1 := ⟨wd4_229, wd4_23, wd1_3, ⟨by decide, by decide⟩, by decide +kernel⟩
theorem cw_9_260 : g_Cw RX9 260 (M_x1_dropWord) yX1_dropWord 1 := ⟨wd4_230, wd4_233, wd1_3, ⟨by decide, by decide⟩, by decide +kernel⟩
theorem cw_9_263 : g_Cw RX9 263 (M_x7_longestRiver) yX7_longestRiver 1 := ⟨wd4_238, wd5_1, wd1_5, ⟨by decide, by decide⟩, by decide +kernel⟩
theorem cw_9_278 : g_Cw RX9 278 (M_x7_linesAsSeen) yX7_linesAsSeen 1 := ⟨wd5_25, wd5_28, wd1_5, ⟨by decide, by decide⟩, by decide +kernel⟩
theorem cw_9_281 : g_Cw RX9 281 (M_x7_mostAlike) yX7_mostAlike 2 := ⟨wd5_42, wd5_45, wd1_5, ⟨by decide, by decide⟩, by decide +kernel⟩
theorem cw_9_296 : g_Cw RX9 296 (M_x1_lawOf) yX1_lawOf 1 := ⟨wd5_58, wd3_2, wd1_3, ⟨by decide, by decide⟩, by decide +kernel⟩
theorem cw_9_301 : g_Cw RX9 301 (M_x9_nextDraw) yX9_nextDraw 1 := ⟨wd5_64, wd5_66, wd1_1, ⟨by decide, by decide⟩, by decide +kernel⟩
theorem cw_9_309 : g_Cw RX9 309 (M_x1_carryOutIfItCanBe) yX1_carryOutIfItCanBe 3 := ⟨wd5_69, wd4_71, wd1_3, ⟨by decide, by decide⟩, by decide +kernel⟩
theorem cw_10_14 : g_Cw RX10 14 (M_m_good) yX10_good 1 := ⟨wd6_80, wd6_83, wd1_12, ⟨by decide, by decide⟩, by decide +kernel⟩
theorem cw_10_132 : g_Cw RX10 132 (M_m_lies) yX10_lies 3 := ⟨wd6_73, wd6_75, wd1_12, ⟨by decide, by decide⟩, by decide +kernel⟩
theorem cw_10_136 : g_Cw RX10 136 (M_m_refuses) yX10_refuses 1 := ⟨wd6_76, wd6_79, wd1_12, ⟨by decide, by decide⟩, by decide +kernel⟩
theorem cw_10_142 : g_Cw RX10 142 (M_m_wordMany) yX10_wordMany 0 := ⟨wd5_100, wd5_103, wd1_12, ⟨by decide, by decide⟩, by decide +kernel⟩
theorem cw_10_129 : g_Cw RX10 129 (M_m_laysAllWords) yX10_laysAllWords 0 := ⟨wd5_96, wd5_99, wd1_12, ⟨by decide, by decide⟩, by decide +kernel⟩
theorem cw_10_139 : g_Cw RX10 139 (M_m_settled) yX10_settled 1 := ⟨wd6_88, wd6_91, wd1_12, ⟨by decide, by decide⟩, by decide +kernel⟩
theorem cw_10_146 : g_Cw RX10 146 (M_m_isLast) yX10_isLast 1 := ⟨wd6_115, wd6_118, wd1_12, ⟨by decide, by decide⟩, by decide +kernel⟩
theorem cw_10_150 : g_Cw RX10 150 (M_m_isIn) yX10_isIn 2 := ⟨wd6_119, wd6_121, wd1_12, ⟨by decide, by decide⟩, by decide +kernel⟩
theorem cw_10_154 : g_Cw RX10 154 (M_m_canWord) yX10_canWord 3 := ⟨wd6_96, wd6_98, wd1_12, ⟨by decide, by decide⟩, by decide +kernel⟩
theorem cw_10_157 : g_Cw RX10 157 (M_m_adds) yX10_adds 3 := ⟨wd6_99, wd6_102, wd1_12, ⟨by decide, by decide⟩, by decide +kernel⟩
theorem cw_10_161 : g_Cw RX10 161 (M_m_isWord) yX10_isWord 1 := ⟨wd6_107, wd6_110, wd1_12, ⟨by decide, by decide⟩, by decide +kernel⟩
theorem cw_10_164 : g_Cw RX10 164 (M_m_endsAfter) yX10_endsAfter 1 := ⟨wd6_111, wd6_114, wd1_12, ⟨by decide, by decide⟩, by decide +kernel⟩
theorem cw_10_167 : g_Cw RX10 167 (M_m_isSplit) yX10_isSplit 1 := ⟨wd6_122, wd6_125, wd1_12, ⟨by decide, by decide⟩, by decide +kernel⟩
theorem cw_10_170 : g_Cw RX10 170 (M_m_isTerm) yX10_isTerm 2 := ⟨wd6_130, wd6_132, wd1_12, ⟨by decide, by decide⟩, by decide +kernel⟩
theorem cw_10_173 : g_Cw RX10 173 (M_m_termAt) yX10_termAt 1 := ⟨wd6_133, wd6_135, wd1_12, ⟨by decide, by decide⟩, by decide +kernel⟩
theorem cw_10_188 : g_Cw RX10 188 (M_m_isDigit) yX10_isDigit 1 := ⟨wd6_171, wd6_173, wd1_12, ⟨by decide, by decide⟩, by decide +kernel⟩
theorem cw_10_185 : g_Cw RX10 185 (M_m_isSmall) yX10_isSmall 1 := ⟨wd6_168, wd6_170, wd1_12, ⟨by decide, by decide⟩, by decide +kernel⟩
theorem cw_10_191 : g_Cw RX10 191 (M_m_wordOf) yX10_wordOf 2 := ⟨wd6_174, wd6_177, wd1_12, ⟨by decide, by decide⟩, by decide +kernel⟩
theorem cw_10_199 : g_Cw RX10 199 (M_m_fine) yX10_fine 0 := ⟨wd6_191, wd6_194, wd1_12, ⟨by decide, by decide⟩, by decide +kernel⟩
theorem cw_10_209 : g_Cw RX10 209 (M_m_takes0) yX10_takes0 1 := ⟨wd6_187, wd6_190, wd1_12, ⟨by decide, by decide⟩, by decide +kernel⟩
theorem cw_10_212 : g_Cw RX10 212 (M_m_faults) yX10_faults 0 := ⟨wd6_210, wd6_213, wd1_12, ⟨by decide, by decide⟩, by decide +kernel⟩
theorem cw_10_218 : g_Cw RX10 218 (M_m_tellsOp) yX10_tellsOp 2 := ⟨wd6_218, wd6_221, wd1_12, ⟨by decide, by decide⟩, by decide +kernel⟩
theorem cw_10_267 : g_Cw RX10 267 (M_m_leaf) yX10_leaf 0 := ⟨wd6_222, wd6_225, wd1_12, ⟨by decide, by decide⟩, by decide +kernel⟩
theorem cw_10_231 : g_Cw RX10 231 (M_m_mustNumber) yX10_mustNumber 2 := ⟨wd6_226, wd6_229, wd1_12, ⟨by decide, by decide⟩, by decide +kernel⟩
theorem cw_10_221 (d : Nat) : g_Cw RX10 221 (M_m_readSum d) yX10_readSum 1 := ⟨wd6_195, wd6_198, wd1_12, ⟨by decide, by decide⟩, by decide +kernel⟩
theorem cw_10_251 : g_Cw RX10 251 (M_m_sign) yX10_sign 1 := ⟨wd6_207, wd6_209, wd1_12, ⟨by decide, by decide⟩, by decide +kernel⟩
theorem cw_10_225 : g_Cw RX10 225 (M_m_must) yX10_must 1 := ⟨wd6_214, wd6_217, wd1_12, ⟨by decide, by decide⟩, by decide +kernel⟩
theorem cw_10_258 (d : Nat) : g_Cw RX10 258 (M_m_readPart d) yX10_readPart 1 := ⟨wd6_203, wd6_206, wd1_12, ⟨by decide, by decide⟩, by decide +kernel⟩
theorem cw_10_255 (d : Nat) : g_Cw RX10 255 (M_m_readTerm d) yX10_readTerm 1 := ⟨wd6_199, wd6_202, wd1_12, ⟨by decide, by decide⟩, by decide +kernel⟩
theorem cw_10_228 (d : Nat) : g_Cw RX10 228 (M_m_readTest d) yX10_readTest 1 := ⟨wd6_230, wd6_233, wd1_12, ⟨by decide, by decide⟩, by decide +kernel⟩
theorem cw_10_248 (d : Nat) : g_Cw RX10 248 (M_m_readPlain d) yX10_readPlain 1 := ⟨wd6_238, wd7_1, wd1_12, ⟨by decide, by decide⟩, by decide +kernel⟩
theorem cw_10_245 (d : Nat) : g_Cw RX10 245 (M_m_readBoth d) yX10_readBoth 1 := ⟨wd6_234, wd6_237, wd1_12, ⟨by decide, by decide⟩, by decide +kernel⟩
theorem cw_10_242 : g_Cw RX10 242 (M_m_readClause) yX10_readClause 0 := ⟨wd7_2, wd7_5, wd1_12, ⟨by decide, by decide⟩, by decide +kernel⟩
theorem cw_10_239 : g_Cw RX10 239 (M_m_readOrder) yX10_readOrder 0 := ⟨wd6_183, wd6_186, wd1_12, ⟨by decide, by decide⟩, by decide +kernel⟩
theorem cw_10_273 : g_Cw RX10 273 (M_m_readOne) yX10_readOne 0 := ⟨wd6_179, wd6_182, wd1_12, ⟨by decide, by decide⟩, by decide +kernel⟩
theorem cw_10_270 : g_Cw RX10 270 (M_m_splits) yX10_splits 1 := ⟨wd6_164, wd6_167, wd1_12, ⟨by decide, by decide⟩, by decide +kernel⟩
theorem cw_10_276 : g_Cw RX10 276 (M_m_reads) yX10_reads 0 := ⟨wd6_160, wd6_163, wd1_12, ⟨by decide, by decide⟩, by decide +kernel⟩
theorem cw_10_279 : g_Cw RX10 279 (M_m_readsAs) yX10_readsAs 1 := ⟨wd6_156, wd6_159, wd1_12, ⟨by decide, by decide⟩, by decide +kernel⟩
theorem cw_10_283 : g_Cw RX10 283 (M_m_laysOps) yX10_laysOps 1 := ⟨wd7_6, wd7_9, wd1_12, ⟨by decide, by decide⟩, by decide +kernel⟩
theorem cw_10_286 : g_Cw RX10 286 (M_m_isLaw) yX10_isLaw 1 := ⟨wd7_18, wd7_21, wd1_12, ⟨by decide, by decide⟩, by decide +kernel⟩
theorem cw_10_295 : g_Cw RX10 295 (M_m_codeAt) yX10_codeAt 1 := ⟨wd8_89, wd8_92, wd1_12, ⟨by decide, by decide⟩, by decide +kernel⟩
theorem cw_10_322 : g_Cw RX10 322 (M_m_orderValue) yX10_orderValue 2 := ⟨wd8_109, wd8_112, wd1_12, ⟨by decide, by decide⟩, by decide +kernel⟩
theorem cw_10_316 : g_Cw RX10 316 (M_m_passes0) yX10_passes0 1 := ⟨wd8_105, wd8_108, wd1_12, ⟨by decide, by decide⟩, by decide +kernel⟩
theorem cw_10_319 (d : Nat) : g_Cw RX10 319 (M_m_sumOf d) yX10_sumOf 1 := ⟨wd8_93, wd8_96, wd1_12, ⟨by decide, by decide⟩, by decide +kernel⟩
theorem cw_10_309 : g_Cw RX10 309 (M_m_bounded) yX10_bounded 2 := ⟨wd7_76, wd7_79, wd1_12, ⟨by decide, by decide⟩, by decide +kernel⟩
theorem cw_10_313 (d : Nat) : g_Cw RX10 313 (M_m_partOf d) yX10_partOf 1 := ⟨wd8_101, wd8_104, wd1_12, ⟨by decide, by decide⟩, by decide +kernel⟩
theorem cw_10_305 (d : Nat) : g_Cw RX10 305 (M_m_termOf d) yX10_termOf 1 := ⟨wd8_97, wd8_100, wd1_12, ⟨by decide, by decide⟩, by decide +kernel⟩
theorem cw_10_346 (d : Nat) : g_Cw RX10 346 (M_m_testOf d) yX10_testOf 1 := ⟨wd8_113, wd8_116, wd1_12, ⟨by decide, by decide⟩, by decide +kernel⟩
theorem cw_10_343 (d : Nat) : g_Cw RX10 343 (M_m_positiveOf d) yX10_positiveOf 1 := ⟨wd8_125, wd8_128, wd1_12, ⟨by decide, by decide⟩, by decide +kernel⟩
theorem cw_10_340 (d : Nat) : g_Cw RX10 340 (M_m_plainOf d) yX10_plainOf 1 := ⟨wd8_121, wd8_124, wd1_12, ⟨by decide, by decide⟩, by decide +kernel⟩
theorem cw_10_337 (d : Nat) : g_Cw RX10 337 (M_m_bothOf d) yX10_bothOf 1 := ⟨wd8_117, wd8_120, wd1_12, ⟨by decide, by decide⟩, by decide +kernel⟩
theorem cw_10_353 : g_Cw RX10 353 (M_m_workedOff) yX10_workedOff 3 := ⟨wd7_72, wd7_75, wd1_12, ⟨by decide, by decide⟩, by decide +kernel⟩
theorem cw_10_357 : g_Cw RX10 357 (M_m_holds) yX10_holds 3 := ⟨wd7_68, wd7_71, wd1_12, ⟨by decide, by decide⟩, by decide +kernel⟩
theorem cw_10_381 : g_Cw RX10 381 (M_m_addsPiece) yX10_addsPiece 1 := ⟨wd7_41, wd7_44, wd1_12, ⟨by decide, by decide⟩, by decide +kernel⟩
theorem cw_10_378 : g_Cw RX10 378 (M_m_isWithin) yX10_isWithin 1 := ⟨wd7_38, wd7_40, wd1_12, ⟨by decide, by decide⟩, by decide +kernel⟩
theorem cw_10_384 : g_Cw RX10 384 (M_m_lastPlace) yX10_lastPlace 0 := ⟨wd7_57, wd7_60, wd1_12, ⟨by decide, by decide⟩, by decide +kernel⟩
theorem cw_10_387 : g_Cw RX10 387 (M_m_isLastLine) yX10_isLastLine 0 := ⟨wd7_53, wd7_56, wd1_12, ⟨by decide, by decide⟩, by decide +kernel⟩
theorem cw_10_390 : g_Cw RX10 390 (M_m_setsAsked) yX10_setsAsked 0 := ⟨wd7_49, wd7_52, wd1_12, ⟨by decide, by decide⟩, by decide +kernel⟩
theorem cw_10_393 : g_Cw RX10 393 (M_m_greater) yX10_greater 2 := ⟨wd7_61, wd7_63, wd1_12, ⟨by decide, by decide⟩, by decide +kernel⟩
theorem cw_10_396 : g_Cw RX10 396 (M_m_tells) yX10_tells 3 := ⟨wd7_64, wd7_67, wd1_12, ⟨by decide, by decide⟩, by decide +kernel⟩
theorem cw_10_400 : g_Cw RX10 400 (M_m_isBarred) yX10_isBarred 0 := ⟨wd7_86, wd7_89, wd1_12, ⟨by decide, by decide⟩, by decide +kernel⟩
theorem cw_10_406 : g_Cw RX10 406 (M_m_takesLine) yX10_takesLine 4 := ⟨wd7_34, wd7_37, wd1_12, ⟨by decide, by decide⟩, by decide +kernel⟩
theorem cw_10_410 : g_Cw RX10 410 (M_m_laysSetting) yX10_laysSetting 0 := ⟨wd7_26, wd7_29, wd1_12, ⟨by decide, by decide⟩, by decide +kernel⟩
theorem cw_10_413 : g_Cw RX10 413 (M_m_takesSet) yX10_takesSet 1 := ⟨wd7_30, wd7_33, wd1_12, ⟨by decide, by decide⟩, by decide +kernel⟩
theorem cw_10_416 : g_Cw RX10 416 (M_m_costsNow) yX10_costsNow 0 := ⟨wd7_45, wd7_48, wd1_12, ⟨by decide, by decide⟩, by decide +kernel⟩
theorem cw_10_419 : g_Cw RX10 419 (M_m_paysNow) yX10_paysNow 0 := ⟨wd7_82, wd7_85, wd1_12, ⟨by decide, by decide⟩, by decide +kernel⟩
theorem cw_10_422 : g_Cw RX10 422 (M_m_fitsNow) yX10_fitsNow 0 := ⟨wd7_90, wd7_93, wd1_12, ⟨by decide, by decide⟩, by decide +kernel⟩
theorem cw_10_425 : g_Cw RX10 425 (M_m_allOf) yX10_allOf 1 := ⟨wd7_98, wd7_101, wd1_12, ⟨by decide, by decide⟩, by decide +kernel⟩
theorem cw_10_428 : g_Cw RX10 428 (M_m_keeps) yX10_keeps 1 := ⟨wd7_114, wd7_117, wd1_12, ⟨by decide, by decide⟩, by decide +kernel⟩
theorem cw_10_431 : g_Cw RX10 431 (M_m_canSwell) yX10_canSwell 2 := ⟨wd7_138, wd7_141, wd1_12, ⟨by decide, by decide⟩, by decide +kernel⟩
theorem cw_10_434 : g_Cw RX10 434 (M_m_stopsKept) yX10_stopsKept 1 := ⟨wd7_110, wd7_113, wd1_12, ⟨by decide, by decide⟩, by decide +kernel⟩
theorem cw_10_437 : g_Cw RX10 437 (M_m_goodOr) yX10_goodOr 1 := ⟨wd7_118, wd7_121, wd1_12, ⟨by decide, by decide⟩, by decide +kernel⟩
theorem cw_10_440 : g_Cw RX10 440 (M_m_splitsKept) yX10_splitsKept 1 := ⟨wd7_126, wd7_129, wd1_12, ⟨by decide, by decide⟩, by decide +kernel⟩
theorem cw_10_443 : g_Cw RX10 443 (M_m_swellsKept) yX10_swellsKept 2 := ⟨wd7_134, wd7_137, wd1_12, ⟨by decide, by decide⟩, by decide +kernel⟩
theorem cw_10_446 : g_Cw RX10 446 (M_m_passesKept) yX10_passesKept 0 := ⟨wd7_146, wd7_149, wd1_12, ⟨by decide, by decide⟩, by decide +kernel⟩
theorem cw_10_456 : g_Cw RX10 456 (M_m_lineAt) yX10_lineAt 3 := ⟨wd7_170, wd7_172, wd1_12, ⟨by decide, by decide⟩, by decide +kernel⟩
theorem cw_10_449 : g_Cw RX10 449 (M_m_isPlace) yX10_isPlace 1 := ⟨wd7_162, wd7_165, wd1_12, ⟨by decide, by decide⟩, by decide +kernel⟩
theorem cw_10_452 : g_Cw RX10 452 (M_m_laysLine) yX10_laysLine 5 := ⟨wd7_166, wd7_169, wd1_12, ⟨by decide, by decide⟩, by decide +kernel⟩
theorem cw_10_466 : g_Cw RX10 466 (M_m_stateAt) yX10_stateAt 2 := ⟨wd7_186, wd7_188, wd1_12, ⟨by decide, by decide⟩, by decide +kernel⟩
theorem cw_10_460 : g_Cw RX10 460 (M_m_isStart) yX10_isStart 1 := ⟨wd7_178, wd7_181, wd1_12, ⟨by decide, by decide⟩, by decide +kernel⟩
theorem cw_10_463 : g_Cw RX10 463 (M_m_canLine) yX10_canLine 3 := ⟨wd7_182, wd7_185, wd1_12, ⟨by decide, by decide⟩, by decide +kernel⟩
theorem cw_10_469 : g_Cw RX10 469 (M_m_lesser) yX10_lesser 2 := ⟨wd7_189, wd7_191, wd1_12, ⟨by decide, by decide⟩, by decide +kernel⟩
theorem cw_10_472 : g_Cw RX10 472 (M_m_laysLines) yX10_laysLines 2 := ⟨wd7_158, wd7_161, wd1_12, ⟨by decide, by decide⟩, by decide +kernel⟩
theorem cw_10_476 : g_Cw RX10 476 (M_m_laysLeast) yX10_laysLeast 0 := ⟨wd7_173, wd7_176, wd1_12, ⟨by decide, by decide⟩, by decide +kernel⟩
theorem cw_10_479 : g_Cw RX10 479 (M_m_bestNow) yX10_bestNow 0 := ⟨wd7_154, wd7_157, wd1_12, ⟨by decide, by decide⟩, by decide +kernel⟩
theorem cw_10_483 : g_Cw RX10 483 (M_m_takesSum) yX10_takesSum 4 := ⟨wd7_205, wd7_208, wd1_12, ⟨by decide, by decide⟩, by decide +kernel⟩
theorem cw_10_487 : g_Cw RX10 487 (M_m_laysSums) yX10_laysSums 1 := ⟨wd7_200, wd7_203, wd1_12, ⟨by decide, by decide⟩, by decide +kernel⟩
theorem cw_10_491 : g_Cw RX10 491 (M_m_laysCosts) yX10_laysCosts 0 := ⟨wd7_196, wd7_199, wd1_12, ⟨by decide, by decide⟩, by decide +kernel⟩
theorem cw_10_494 : g_Cw RX10 494 (M_m_costsBy) yX10_costsBy 1 := ⟨wd7_209, wd7_212, wd1_12, ⟨by decide, by decide⟩, by decide +kernel⟩
theorem cw_10_497 : g_Cw RX10 497 (M_m_isBy) yX10_isBy 1 := ⟨wd7_233, wd7_236, wd1_12, ⟨by decide, by decide⟩, by decide +kernel⟩
theorem cw_10_500 : g_Cw RX10 500 (M_m_leavesOut) yX10_leavesOut 1 := ⟨wd8_1, wd8_4, wd1_12, ⟨by decide, by decide⟩, by decide +kernel⟩
theorem cw_10_503 : g_Cw RX10 503 (M_m_addsSpaced) yX10_addsSpaced 4 := ⟨wd8_17, wd8_20, wd1_12, ⟨by decide, by decide⟩, by decide +kernel⟩
theorem cw_10_510 : g_Cw RX10 510 (M_m_riverTo) yX10_riverTo 2 := ⟨wd8_21, wd8_24, wd1_12, ⟨by decide, by decide⟩, by decide +kernel⟩
theorem cw_10_507 : g_Cw RX10 507 (M_m_laysSpaces) yX10_laysSpaces 2 := ⟨wd8_13, wd8_16, wd1_12, ⟨by decide, by decide⟩, by decide +kernel⟩
theorem cw_10_516 : g_Cw RX10 516 (M_m_isSo) yX10_isSo 1 := ⟨wd8_41, wd8_44, wd1_12, ⟨by decide, by decide⟩, by decide +kernel⟩
theorem cw_10_513 : g_Cw RX10 513 (M_m_laysFacts) yX10_laysFacts 0 := ⟨wd8_37, wd8_40, wd1_12, ⟨by decide, by decide⟩, by decide +kernel⟩
theorem cw_10_522 : g_Cw RX10 522 (M_m_mostAlike) yX10_mostAlike 2 := ⟨wd8_50, wd8_53, wd1_12, ⟨by decide, by decide⟩, by decide +kernel⟩
theorem cw_10_519 : g_Cw RX10 519 (M_m_canBe) yX10_canBe 0 := ⟨wd8_49, wd8_36, wd1_12, ⟨by decide, by decide⟩, by decide +kernel⟩
theorem cw_10_546 : g_Cw RX10 546 (M_m_settingLines) yX10_settingLines 0 := ⟨wd8_85, wd8_88, wd1_12, ⟨by decide, by decide⟩, by decide +kernel⟩
theorem cw_10_563 : g_Cw RX10 563 (M_m_small) yX10_small 1 := ⟨wd8_133, wd8_135, wd1_12, ⟨by decide, by decide⟩, by decide +kernel⟩
theorem cw_10_567 : g_Cw RX10 567 (M_m_goesAlong) yX10_goesAlong 2 := ⟨wd8_81, wd8_84, wd1_12, ⟨by decide, by decide⟩, by decide +kernel⟩
theorem cw_10_570 : g_Cw RX10 570 (M_m_obeys) yX10_obeys 0 := ⟨wd8_129, wd8_132, wd1_12, ⟨by decide, by decide⟩, by decide +kernel⟩
theorem cw_10_540 : g_Cw RX10 540 (M_m_runs) yX10_runs 1 := ⟨wd8_77, wd8_80, wd1_12, ⟨by decide, by decide⟩, by decide +kernel⟩
theorem cw_10_543 : g_Cw RX10 543 (M_m_takesBack) yX10_takesBack 1 := ⟨wd8_137, wd8_140, wd1_12, ⟨by decide, by decide⟩, by decide +kernel⟩
theorem cw_10_534 : g_Cw RX10 534 (M_m_lays) yX10_lays 1 := ⟨wd8_73, wd8_76, wd1_12, ⟨by decide, by decide⟩, by decide +kernel⟩
theorem cw_10_531 : g_Cw RX10 531 (M_m_laysAside) yX10_laysAside 1 := ⟨wd8_69, wd8_72, wd1_12, ⟨by decide, by decide⟩, by decide +kernel⟩
theorem cw_10_582 : g_Cw RX10 582 (M_m_draws) yX10_draws 1 := ⟨wd8_149, wd8_152, wd1_12, ⟨by decide, by decide⟩, by decide +kernel⟩
theorem cw_10_585 : g_Cw RX10 585 (M_m_drawnAct) yX10_drawnAct 0 := ⟨wd8_145, wd8_148, wd1_12, ⟨by decide, by decide⟩, by decide +kernel⟩
theorem rec_x1_has (f : Sg → Nat → Int32 → Option (Sg × Int32)) : ∀ ρ' σ as (k' : Sg → Option PV → Option ρ') r, FW_x1_has f ρ' σ as k' = some r → ∃ i t, as = .inr (.inr (some (1, i))) :: t := by
  intro ρ' σ as k' r e
  unfold FW_x1_has at e
  obtain ⟨i, h, -⟩ := p_R_inv e
  exact g_hd h rfl

theorem rec_x1_whyNot (f : Sg → Nat → Int32 → Int32 → Int32 → Option (Sg × Int32)) : ∀ ρ' σ as (k' : Sg → Option PV → Option ρ') r, FW_x1_whyNot f ρ' σ as k' = some r → ∃ i t, as = .inr (.inr (some (1, i))) :: t := by
  intro ρ' σ as k' r e
  unfold FW_x1_whyNot at e
  obtain ⟨i, h, -⟩ := p_R_inv e
  exact g_hd h rfl

theorem rec_x1_wideOf (f : Sg → Nat → Int32 → Option (Sg × Int32)) : ∀ ρ' σ as (k' : Sg → Option PV → Option ρ') r, FW_x1_wideOf f ρ' σ as k' = some r → ∃ i t, as = .inr (.inr (some (1, i))) :: t := by
  intro ρ' σ as k' r e
  unfold FW_x1_wideOf at e
  obtain ⟨i, h, -⟩ := p_R_inv e
  exact g_hd h rfl

theorem rec_x3_dropOldest (f : Sg → Nat → Option Sg) : ∀ ρ' σ as (k' : Sg → Option PV → Option ρ') r, FW_x3_dropOldest f ρ' σ as k' = some r → ∃ i t, as = .inr (.inr (some (3, i))) :: t := by
  intro ρ' σ as k' r e
  unfold FW_x3_dropOldest at e
  obtain ⟨i, h, -⟩ := p_R_inv e
  exact g_hd h rfl

theorem rec_x3_note (f : Sg → Nat → Int32 → Int32 → Int32 → Option Sg) : ∀ ρ' σ as (k' : Sg → Option PV → Option ρ') r, FW_x3_note f ρ' σ as k' = some r → ∃ i t, as = .inr (.inr (some (3, i))) :: t := by
  intro ρ' σ as k' r e
  unfold FW_x3_note at e
  obtain ⟨i, h, -⟩ := p_R_inv e
  exact g_hd h rfl

theorem rec_x1_carryOutIfItCanBe (f : Sg → Nat → Int32 → Int32 → Int32 → Option Sg) : ∀ ρ' σ as (k' : Sg → Option PV → Option ρ') r, FW_x1_carryOutIfItCanBe f ρ' σ as k' = some r → ∃ i t, as = .inr (.inr (some (1, i))) :: t := by
  intro ρ' σ as k' r e
  unfold FW_x1_carryOutIfItCanBe at e
  obtain ⟨i, h, -⟩ := p_R_inv e
  exact g_hd h rfl

theorem rec_x0_attempt (f : Sg → Int32 → Int32 → Int32 → Option (Sg × Int32)) : ∀ ρ' σ as (k' : Sg → Option PV → Option ρ') r, FW_x0_attempt f ρ' σ as k' = some r → ∃ i t, as = .inr (.inr (some (0, i))) :: t := by
  intro ρ' σ as k' r e
  unfold FW_x0_attempt at e
  obtain ⟨h, -⟩ := p_C_inv e
  exact g_hd h rfl

theorem rec_x1_copyFrom (f : Sg → Nat → Nat → Option Sg) : ∀ ρ' σ as (k' : Sg → Option PV → Option ρ') r, FW_x1_copyFrom f ρ' σ as k' = some r → ∃ i t, as = .inr (.inr (some (1, i))) :: t := by
  intro ρ' σ as k' r e
  unfold FW_x1_copyFrom at e
  obtain ⟨i, h, -⟩ := p_R_inv e
  exact g_hd h rfl

theorem rec_x3_copyFrom (f : Sg → Nat → Nat → Option Sg) : ∀ ρ' σ as (k' : Sg → Option PV → Option ρ') r, FW_x3_copyFrom f ρ' σ as k' = some r → ∃ i t, as = .inr (.inr (some (3, i))) :: t := by
  intro ρ' σ as k' r e
  unfold FW_x3_copyFrom at e
  obtain ⟨i, h, -⟩ := p_R_inv e
  exact g_hd h rfl

theorem rec_x0_begin (f : Sg → Option Sg) : ∀ ρ' σ as (k' : Sg → Option PV → Option ρ') r, FW_x0_begin f ρ' σ as k' = some r → ∃ i t, as = .inr (.inr (some (0, i))) :: t := by
  intro ρ' σ as k' r e
  unfold FW_x0_begin at e
  obtain ⟨h, -⟩ := p_C_inv e
  exact g_hd h rfl

theorem rec_x0_giveUp (f : Sg → Option Sg) : ∀ ρ' σ as (k' : Sg → Option PV → Option ρ') r, FW_x0_giveUp f ρ' σ as k' = some r → ∃ i t, as = .inr (.inr (some (0, i))) :: t := by
  intro ρ' σ as k' r e
  unfold FW_x0_giveUp at e
  obtain ⟨h, -⟩ := p_C_inv e
  exact g_hd h rfl

theorem rec_x1_isSplit (f : Sg → Nat → Int32 → Option (Sg × Int32)) : ∀ ρ' σ as (k' : Sg → Option PV → Option ρ') r, FW_x1_isSplit f ρ' σ as k' = some r → ∃ i t, as = .inr (.inr (some (1, i))) :: t := by
  intro ρ' σ as k' r e
  unfold FW_x1_isSplit at e
  obtain ⟨i, h, -⟩ := p_R_inv e
  exact g_hd h rfl

theorem rec_x1_endsAfter (f : Sg → Nat → Int32 → Option (Sg × Int32)) : ∀ ρ' σ as (k' : Sg → Option PV → Option ρ') r, FW_x1_endsAfter f ρ' σ as k' = some r → ∃ i t, as = .inr (.inr (some (1, i))) :: t := by
  intro ρ' σ as k' r e
  unfold FW_x1_endsAfter at e
  obtain ⟨i, h, -⟩ := p_R_inv e
  exact g_hd h rfl

theorem rec_x1_endsAt (f : Sg → Nat → Int32 → Option (Sg × Int32)) : ∀ ρ' σ as (k' : Sg → Option PV → Option ρ') r, FW_x1_endsAt f ρ' σ as k' = some r → ∃ i t, as = .inr (.inr (some (1, i))) :: t := by
  intro ρ' σ as k' r e
  unfold FW_x1_endsAt at e
  obtain ⟨i, h, -⟩ := p_R_inv e
  exact g_hd h rfl

theorem rec_x1_pieceOf (f : Sg → Nat → Int32 → Int32 → Int32 → Option (Sg × Int32)) : ∀ ρ' σ as (k' : Sg → Option PV → Option ρ') r, FW_x1_pieceOf f ρ' σ as k' = some r → ∃ i t, as = .inr (.inr (some (1, i))) :: t := by
  intro ρ' σ as k' r e
  unfold FW_x1_pieceOf at e
  obtain ⟨i, h, -⟩ := p_R_inv e
  exact g_hd h rfl

theorem rec_x2_measureUp (f : Sg → Nat → Nat → Int32 → Int32 → Option Sg) : ∀ ρ' σ as (k' : Sg → Option PV → Option ρ') r, FW_x2_measureUp f ρ' σ as k' = some r → ∃ i t, as = .inr (.inr (some (2, i))) :: t := by
  intro ρ' σ as k' r e
  unfold FW_x2_measureUp at e
  obtain ⟨i, h, -⟩ := p_R_inv e
  exact g_hd h rfl

theorem rec_x1_lawOf (f : Sg → Nat → Int32 → Option (Sg × Nat)) : ∀ ρ' σ as (k' : Sg → Option PV → Option ρ') r, FW_x1_lawOf f ρ' σ as k' = some r → ∃ i t, as = .inr (.inr (some (1, i))) :: t := by
  intro ρ' σ as k' r e
  unfold FW_x1_lawOf at e
  obtain ⟨i, h, -⟩ := p_R_inv e
  exact g_hd h rfl

theorem rec_x1_lawInForce (f : Sg → Nat → Option (Sg × Nat)) : ∀ ρ' σ as (k' : Sg → Option PV → Option ρ') r, FW_x1_lawInForce f ρ' σ as k' = some r → ∃ i t, as = .inr (.inr (some (1, i))) :: t := by
  intro ρ' σ as k' r e
  unfold FW_x1_lawInForce at e
  obtain ⟨i, h, -⟩ := p_R_inv e
  exact g_hd h rfl

theorem rec_x2_gatherFacts (f : Sg → Nat → Nat → Int32 → Int32 → Option Sg) : ∀ ρ' σ as (k' : Sg → Option PV → Option ρ') r, FW_x2_gatherFacts f ρ' σ as k' = some r → ∃ i t, as = .inr (.inr (some (2, i))) :: t := by
  intro ρ' σ as k' r e
  unfold FW_x2_gatherFacts at e
  obtain ⟨i, h, -⟩ := p_R_inv e
  exact g_hd h rfl

theorem rec_x4_combine (f : Sg → Nat → Int32 → Int64 → Int64 → Option (Sg × Int64)) : ∀ ρ' σ as (k' : Sg → Option PV → Option ρ') r, FW_x4_combine f ρ' σ as k' = some r → ∃ i t, as = .inr (.inr (some (4, i))) :: t := by
  intro ρ' σ as k' r e
  unfold FW_x4_combine at e
  obtain ⟨i, h, -⟩ := p_R_inv e
  exact g_hd h rfl

theorem rec_x4_valueOf (f : Sg → Nat → Nat → Int32 → Nat → Nat → Option (Sg × Int64)) : ∀ ρ' σ as (k' : Sg → Option PV → Option ρ') r, FW_x4_valueOf f ρ' σ as k' = some r → ∃ i t, as = .inr (.inr (some (4, i))) :: t := by
  intro ρ' σ as k' r e
  unfold FW_x4_valueOf at e
  obtain ⟨i, h, -⟩ := p_R_inv e
  exact g_hd h rfl

theorem rec_x2_judge (f : Sg → Nat → Nat → Nat → Int32 → Int32 → Int32 → Option Sg) : ∀ ρ' σ as (k' : Sg → Option PV → Option ρ') r, FW_x2_judge f ρ' σ as k' = some r → ∃ i t, as = .inr (.inr (some (2, i))) :: t := by
  intro ρ' σ as k' r e
  unfold FW_x2_judge at e
  obtain ⟨i, h, -⟩ := p_R_inv e
  exact g_hd h rfl

theorem rec_x7_writeDown (f : Sg → Int32 → Option Sg) : ∀ ρ' σ as (k' : Sg → Option PV → Option ρ') r, FW_x7_writeDown f ρ' σ as k' = some r → ∃ i t, as = .inr (.inr (some (7, i))) :: t := by
  intro ρ' σ as k' r e
  unfold FW_x7_writeDown at e
  obtain ⟨h, -⟩ := p_C_inv e
  exact g_hd h rfl

theorem rec_x7_readSetting (f : Sg → Nat → Option Sg) : ∀ ρ' σ as (k' : Sg → Option PV → Option ρ') r, FW_x7_readSetting f ρ' σ as k' = some r → ∃ i t, as = .inr (.inr (some (7, i))) :: t := by
  intro ρ' σ as k' r e
  unfold FW_x7_readSetting at e
  obtain ⟨h, -⟩ := p_C_inv e
  exact g_hd h rfl

theorem rec_x7_tellOf (f : Sg → Int32 → Int32 → Option (Sg × Int32)) : ∀ ρ' σ as (k' : Sg → Option PV → Option ρ') r, FW_x7_tellOf f ρ' σ as k' = some r → ∃ i t, as = .inr (.inr (some (7, i))) :: t := by
  intro ρ' σ as k' r e
  unfold FW_x7_tellOf at e
  obtain ⟨h, -⟩ := p_C_inv e
  exact g_hd h rfl

theorem rec_x7_together (f : Sg → Int32 → Option (Sg × Int32)) : ∀ ρ' σ as (k' : Sg → Option PV → Option ρ') r, FW_x7_together f ρ' σ as k' = some r → ∃ i t, as = .inr (.inr (some (7, i))) :: t := by
  intro ρ' σ as k' r e
  unfold FW_x7_together at e
  obtain ⟨h, -⟩ := p_C_inv e
  exact g_hd h rfl

theorem rec_x0_endsOf (f : Sg → Int32 → Option (Sg × Int32)) : ∀ ρ' σ as (k' : Sg → Option PV → Option ρ') r, FW_x0_endsOf f ρ' σ as k' = some r → ∃ i t, as = .inr (.inr (some (0, i))) :: t := by
  intro ρ' σ as k' r e
  unfold FW_x0_endsOf at e
  obtain ⟨h, -⟩ := p_C_inv e
  exact g_hd h rfl

theorem rec_x0_gatherOrderFacts (f : Sg → Option Sg) : ∀ ρ' σ as (k' : Sg → Option PV → Option ρ') r, FW_x0_gatherOrderFacts f ρ' σ as k' = some r → ∃ i t, as = .inr (.inr (some (0, i))) :: t := by
  intro ρ' σ as k' r e
  unfold FW_x0_gatherOrderFacts at e
  obtain ⟨h, -⟩ := p_C_inv e
  exact g_hd h rfl

theorem rec_x0_runOnce (f : Sg → Nat → Int32 → Option (Sg × Int32)) : ∀ ρ' σ as (k' : Sg → Option PV → Option ρ') r, FW_x0_runOnce f ρ' σ as k' = some r → ∃ i t, as = .inr (.inr (some (0, i))) :: t := by
  intro ρ' σ as k' r e
  unfold FW_x0_runOnce at e
  obtain ⟨h, -⟩ := p_C_inv e
  exact g_hd h rfl

theorem rec_x1_canBeSplit (f : Sg → Nat → Int32 → Option (Sg × Int32)) : ∀ ρ' σ as (k' : Sg → Option PV → Option ρ') r, FW_x1_canBeSplit f ρ' σ as k' = some r → ∃ i t, as = .inr (.inr (some (1, i))) :: t := by
  intro ρ' σ as k' r e
  unfold FW_x1_canBeSplit at e
  obtain ⟨i, h, -⟩ := p_R_inv e
  exact g_hd h rfl

theorem rec_x1_canEndAt (f : Sg → Nat → Int32 → Option (Sg × Int32)) : ∀ ρ' σ as (k' : Sg → Option PV → Option ρ') r, FW_x1_canEndAt f ρ' σ as k' = some r → ∃ i t, as = .inr (.inr (some (1, i))) :: t := by
  intro ρ' σ as k' r e
  unfold FW_x1_canEndAt at e
  obtain ⟨i, h, -⟩ := p_R_inv e
  exact g_hd h rfl

theorem rec_x1_addWord (f : Sg → Nat → Int32 → Int32 → Int32 → Option Sg) : ∀ ρ' σ as (k' : Sg → Option PV → Option ρ') r, FW_x1_addWord f ρ' σ as k' = some r → ∃ i t, as = .inr (.inr (some (1, i))) :: t := by
  intro ρ' σ as k' r e
  unfold FW_x1_addWord at e
  obtain ⟨i, h, -⟩ := p_R_inv e
  exact g_hd h rfl

theorem rec_x1_dropWord (f : Sg → Nat → Int32 → Option Sg) : ∀ ρ' σ as (k' : Sg → Option PV → Option ρ') r, FW_x1_dropWord f ρ' σ as k' = some r → ∃ i t, as = .inr (.inr (some (1, i))) :: t := by
  intro ρ' σ as k' r e
  unfold FW_x1_dropWord at e
  obtain ⟨i, h, -⟩ := p_R_inv e
  exact g_hd h rfl

theorem rec_x1_canForce (f : Sg → Nat → Int32 → Option (Sg × Int32)) : ∀ ρ' σ as (k' : Sg → Option PV → Option ρ') r, FW_x1_canForce f ρ' σ as k' = some r → ∃ i t, as = .inr (.inr (some (1, i))) :: t := by
  intro ρ' σ as k' r e
  unfold FW_x1_canForce at e
  obtain ⟨i, h, -⟩ := p_R_inv e
  exact g_hd h rfl

theorem rec_x3_takeBack (f : Sg → Nat → Nat → Option (Sg × Int32)) : ∀ ρ' σ as (k' : Sg → Option PV → Option ρ') r, FW_x3_takeBack f ρ' σ as k' = some r → ∃ i t, as = .inr (.inr (some (3, i))) :: t := by
  intro ρ' σ as k' r e
  unfold FW_x3_takeBack at e
  obtain ⟨i, h, -⟩ := p_R_inv e
  exact g_hd h rfl

theorem rec_x5_isBetter (f : Sg → Int32 → Int32 → Int32 → Option (Sg × Int32)) : ∀ ρ' σ as (k' : Sg → Option PV → Option ρ') r, FW_x5_isBetter f ρ' σ as k' = some r → ∃ i t, as = .inr (.inr (some (5, i))) :: t := by
  intro ρ' σ as k' r e
  unfold FW_x5_isBetter at e
  obtain ⟨h, -⟩ := p_C_inv e
  exact g_hd h rfl

theorem rec_x5_join (f : Sg → Int32 → Int32 → Option Sg) : ∀ ρ' σ as (k' : Sg → Option PV → Option ρ') r, FW_x5_join f ρ' σ as k' = some r → ∃ i t, as = .inr (.inr (some (5, i))) :: t := by
  intro ρ' σ as k' r e
  unfold FW_x5_join at e
  obtain ⟨h, -⟩ := p_C_inv e
  exact g_hd h rfl

theorem rec_x5_layLine (f : Sg → Nat → Nat → Int32 → Int32 → Int32 → Option Sg) : ∀ ρ' σ as (k' : Sg → Option PV → Option ρ') r, FW_x5_layLine f ρ' σ as k' = some r → ∃ i t, as = .inr (.inr (some (5, i))) :: t := by
  intro ρ' σ as k' r e
  unfold FW_x5_layLine at e
  obtain ⟨h, -⟩ := p_C_inv e
  exact g_hd h rfl

theorem rec_x5_layOut (f : Sg → Nat → Nat → Int32 → Int32 → Option Sg) : ∀ ρ' σ as (k' : Sg → Option PV → Option ρ') r, FW_x5_layOut f ρ' σ as k' = some r → ∃ i t, as = .inr (.inr (some (5, i))) :: t := by
  intro ρ' σ as k' r e
  unfold FW_x5_layOut at e
  obtain ⟨h, -⟩ := p_C_inv e
  exact g_hd h rfl

theorem rec_x5_canBeOf (f : Sg → Int32 → Option (Sg × Int32)) : ∀ ρ' σ as (k' : Sg → Option PV → Option ρ') r, FW_x5_canBeOf f ρ' σ as k' = some r → ∃ i t, as = .inr (.inr (some (5, i))) :: t := by
  intro ρ' σ as k' r e
  unfold FW_x5_canBeOf at e
  obtain ⟨h, -⟩ := p_C_inv e
  exact g_hd h rfl

theorem rec_x5_canBeOfAtMost (f : Sg → Int32 → Option (Sg × Int32)) : ∀ ρ' σ as (k' : Sg → Option PV → Option ρ') r, FW_x5_canBeOfAtMost f ρ' σ as k' = some r → ∃ i t, as = .inr (.inr (some (5, i))) :: t := by
  intro ρ' σ as k' r e
  unfold FW_x5_canBeOfAtMost at e
  obtain ⟨h, -⟩ := p_C_inv e
  exact g_hd h rfl

theorem rec_x5_leastOfJust (f : Sg → Int32 → Option (Sg × Int32)) : ∀ ρ' σ as (k' : Sg → Option PV → Option ρ') r, FW_x5_leastOfJust f ρ' σ as k' = some r → ∃ i t, as = .inr (.inr (some (5, i))) :: t := by
  intro ρ' σ as k' r e
  unfold FW_x5_leastOfJust at e
  obtain ⟨h, -⟩ := p_C_inv e
  exact g_hd h rfl

theorem rec_x5_bestSlot (f : Sg → Option (Sg × Int32)) : ∀ ρ' σ as (k' : Sg → Option PV → Option ρ') r, FW_x5_bestSlot f ρ' σ as k' = some r → ∃ i t, as = .inr (.inr (some (5, i))) :: t := by
  intro ρ' σ as k' r e
  unfold FW_x5_bestSlot at e
  obtain ⟨h, -⟩ := p_C_inv e
  exact g_hd h rfl

theorem rec_x5_bestCosts (f : Sg → Option (Sg × Int32)) : ∀ ρ' σ as (k' : Sg → Option PV → Option ρ') r, FW_x5_bestCosts f ρ' σ as k' = some r → ∃ i t, as = .inr (.inr (some (5, i))) :: t := by
  intro ρ' σ as k' r e
  unfold FW_x5_bestCosts at e
  obtain ⟨h, -⟩ := p_C_inv e
  exact g_hd h rfl

theorem rec_x5_bestPlace (f : Sg → Int32 → Option (Sg × Int32)) : ∀ ρ' σ as (k' : Sg → Option PV → Option ρ') r, FW_x5_bestPlace f ρ' σ as k' = some r → ∃ i t, as = .inr (.inr (some (5, i))) :: t := by
  intro ρ' σ as k' r e
  unfold FW_x5_bestPlace at e
  obtain ⟨h, -⟩ := p_C_inv e
  exact g_hd h rfl

theorem rec_x5_waysInAll (f : Sg → Option (Sg × Int64)) : ∀ ρ' σ as (k' : Sg → Option PV → Option ρ') r, FW_x5_waysInAll f ρ' σ as k' = some r → ∃ i t, as = .inr (.inr (some (5, i))) :: t := by
  intro ρ' σ as k' r e
  unfold FW_x5_waysInAll at e
  obtain ⟨h, -⟩ := p_C_inv e
  exact g_hd h rfl

theorem rec_x5_mostPaid (f : Sg → Option (Sg × Int32)) : ∀ ρ' σ as (k' : Sg → Option PV → Option ρ') r, FW_x5_mostPaid f ρ' σ as k' = some r → ∃ i t, as = .inr (.inr (some (5, i))) :: t := by
  intro ρ' σ as k' r e
  unfold FW_x5_mostPaid at e
  obtain ⟨h, -⟩ := p_C_inv e
  exact g_hd h rfl

theorem rec_x8_clear (f : Sg → Nat → Option Sg) : ∀ ρ' σ as (k' : Sg → Option PV → Option ρ') r, FW_x8_clear f ρ' σ as k' = some r → ∃ i t, as = .inr (.inr (some (8, i))) :: t := by
  intro ρ' σ as k' r e
  unfold FW_x8_clear at e
  obtain ⟨i, h, -⟩ := p_R_inv e
  exact g_hd h rfl

theorem rec_x6_cut (f : Sg → Int32 → Option Sg) : ∀ ρ' σ as (k' : Sg → Option PV → Option ρ') r, FW_x6_cut f ρ' σ as k' = some r → ∃ i t, as = .inr (.inr (some (6, i))) :: t := by
  intro ρ' σ as k' r e
  unfold FW_x6_cut at e
  obtain ⟨h, -⟩ := p_C_inv e
  exact g_hd h rfl

theorem rec_x6_failHere (f : Sg → Option (Sg × Int32)) : ∀ ρ' σ as (k' : Sg → Option PV → Option ρ') r, FW_x6_failHere f ρ' σ as k' = some r → ∃ i t, as = .inr (.inr (some (6, i))) :: t := by
  intro ρ' σ as k' r e
  unfold FW_x6_failHere at e
  obtain ⟨h, -⟩ := p_C_inv e
  exact g_hd h rfl

theorem rec_x6_sign (f : Sg → Option (Sg × Int32)) : ∀ ρ' σ as (k' : Sg → Option PV → Option ρ') r, FW_x6_sign f ρ' σ as k' = some r → ∃ i t, as = .inr (.inr (some (6, i))) :: t := by
  intro ρ' σ as k' r e
  unfold FW_x6_sign at e
  obtain ⟨h, -⟩ := p_C_inv e
  exact g_hd h rfl

theorem rec_x6_takeFrom (f : Sg → Int32 → Int32 → Option (Sg × Int32)) : ∀ ρ' σ as (k' : Sg → Option PV → Option ρ') r, FW_x6_takeFrom f ρ' σ as k' = some r → ∃ i t, as = .inr (.inr (some (6, i))) :: t := by
  intro ρ' σ as k' r e
  unfold FW_x6_takeFrom at e
  obtain ⟨h, -⟩ := p_C_inv e
  exact g_hd h rfl

theorem rec_x8_emit (f : Sg → Nat → Int32 → Int32 → Option Sg) : ∀ ρ' σ as (k' : Sg → Option PV → Option ρ') r, FW_x8_emit f ρ' σ as k' = some r → ∃ i t, as = .inr (.inr (some (8, i))) :: t := by
  intro ρ' σ as k' r e
  unfold FW_x8_emit at e
  obtain ⟨i, h, -⟩ := p_R_inv e
  exact g_hd h rfl

theorem rec_x6_takeOrderFact (f : Sg → Option (Sg × Int32)) : ∀ ρ' σ as (k' : Sg → Option PV → Option ρ') r, FW_x6_takeOrderFact f ρ' σ as k' = some r → ∃ i t, as = .inr (.inr (some (6, i))) :: t := by
  intro ρ' σ as k' r e
  unfold FW_x6_takeOrderFact at e
  obtain ⟨h, -⟩ := p_C_inv e
  exact g_hd h rfl

theorem rec_x6_takeLawFact (f : Sg → Option (Sg × Int32)) : ∀ ρ' σ as (k' : Sg → Option PV → Option ρ') r, FW_x6_takeLawFact f ρ' σ as k' = some r → ∃ i t, as = .inr (.inr (some (6, i))) :: t := by
  intro ρ' σ as k' r e
  unfold FW_x6_takeLawFact at e
  obtain ⟨h, -⟩ := p_C_inv e
  exact g_hd h rfl

theorem rec_x6_readPart (f : Sg → Int32 → Option (Sg × Int32)) : ∀ ρ' σ as (k' : Sg → Option PV → Option ρ') r, FW_x6_readPart f ρ' σ as k' = some r → ∃ i t, as = .inr (.inr (some (6, i))) :: t := by
  intro ρ' σ as k' r e
  unfold FW_x6_readPart at e
  obtain ⟨h, -⟩ := p_C_inv e
  exact g_hd h rfl

theorem rec_x6_readTerm (f : Sg → Int32 → Option (Sg × Int32)) : ∀ ρ' σ as (k' : Sg → Option PV → Option ρ') r, FW_x6_readTerm f ρ' σ as k' = some r → ∃ i t, as = .inr (.inr (some (6, i))) :: t := by
  intro ρ' σ as k' r e
  unfold FW_x6_readTerm at e
  obtain ⟨h, -⟩ := p_C_inv e
  exact g_hd h rfl

theorem rec_x6_readSum (f : Sg → Int32 → Option (Sg × Int32)) : ∀ ρ' σ as (k' : Sg → Option PV → Option ρ') r, FW_x6_readSum f ρ' σ as k' = some r → ∃ i t, as = .inr (.inr (some (6, i))) :: t := by
  intro ρ' σ as k' r e
  unfold FW_x6_readSum at e
  obtain ⟨h, -⟩ := p_C_inv e
  exact g_hd h rfl

theorem rec_x6_take (f : Sg → Int32 → Option (Sg × Int32)) : ∀ ρ' σ as (k' : Sg → Option PV → Option ρ') r, FW_x6_take f ρ' σ as k' = some r → ∃ i t, as = .inr (.inr (some (6, i))) :: t := by
  intro ρ' σ as k' r e
  unfold FW_x6_take at e
  obtain ⟨h, -⟩ := p_C_inv e
  exact g_hd h rfl

theorem rec_x6_readComparison (f : Sg → Int32 → Option (Sg × Int32)) : ∀ ρ' σ as (k' : Sg → Option PV → Option ρ') r, FW_x6_readComparison f ρ' σ as k' = some r → ∃ i t, as = .inr (.inr (some (6, i))) :: t := by
  intro ρ' σ as k' r e
  unfold FW_x6_readComparison at e
  obtain ⟨h, -⟩ := p_C_inv e
  exact g_hd h rfl

theorem rec_x6_readPlain (f : Sg → Int32 → Option (Sg × Int32)) : ∀ ρ' σ as (k' : Sg → Option PV → Option ρ') r, FW_x6_readPlain f ρ' σ as k' = some r → ∃ i t, as = .inr (.inr (some (6, i))) :: t := by
  intro ρ' σ as k' r e
  unfold FW_x6_readPlain at e
  obtain ⟨h, -⟩ := p_C_inv e
  exact g_hd h rfl

theorem rec_x8_aim (f : Sg → Nat → Int32 → Option Sg) : ∀ ρ' σ as (k' : Sg → Option PV → Option ρ') r, FW_x8_aim f ρ' σ as k' = some r → ∃ i t, as = .inr (.inr (some (8, i))) :: t := by
  intro ρ' σ as k' r e
  unfold FW_x8_aim at e
  obtain ⟨i, h, -⟩ := p_R_inv e
  exact g_hd h rfl

theorem rec_x6_readBoth (f : Sg → Int32 → Option (Sg × Int32)) : ∀ ρ' σ as (k' : Sg → Option PV → Option ρ') r, FW_x6_readBoth f ρ' σ as k' = some r → ∃ i t, as = .inr (.inr (some (6, i))) :: t := by
  intro ρ' σ as k' r e
  unfold FW_x6_readBoth at e
  obtain ⟨h, -⟩ := p_C_inv e
  exact g_hd h rfl

theorem rec_x6_readTest (f : Sg → Int32 → Option (Sg × Int32)) : ∀ ρ' σ as (k' : Sg → Option PV → Option ρ') r, FW_x6_readTest f ρ' σ as k' = some r → ∃ i t, as = .inr (.inr (some (6, i))) :: t := by
  intro ρ' σ as k' r e
  unfold FW_x6_readTest at e
  obtain ⟨h, -⟩ := p_C_inv e
  exact g_hd h rfl

theorem rec_x6_takeOrFail (f : Sg → Int32 → Option (Sg × Int32)) : ∀ ρ' σ as (k' : Sg → Option PV → Option ρ') r, FW_x6_takeOrFail f ρ' σ as k' = some r → ∃ i t, as = .inr (.inr (some (6, i))) :: t := by
  intro ρ' σ as k' r e
  unfold FW_x6_takeOrFail at e
  obtain ⟨h, -⟩ := p_C_inv e
  exact g_hd h rfl

theorem rec_x6_readBracketed (f : Sg → Int32 → Option (Sg × Int32)) : ∀ ρ' σ as (k' : Sg → Option PV → Option ρ') r, FW_x6_readBracketed f ρ' σ as k' = some r → ∃ i t, as = .inr (.inr (some (6, i))) :: t := by
  intro ρ' σ as k' r e
  unfold FW_x6_readBracketed at e
  obtain ⟨h, -⟩ := p_C_inv e
  exact g_hd h rfl

theorem rec_x6_readOrder (f : Sg → Int32 → Option (Sg × Int32)) : ∀ ρ' σ as (k' : Sg → Option PV → Option ρ') r, FW_x6_readOrder f ρ' σ as k' = some r → ∃ i t, as = .inr (.inr (some (6, i))) :: t := by
  intro ρ' σ as k' r e
  unfold FW_x6_readOrder at e
  obtain ⟨h, -⟩ := p_C_inv e
  exact g_hd h rfl

theorem rec_x6_readRule (f : Sg → Int32 → Option (Sg × Int32)) : ∀ ρ' σ as (k' : Sg → Option PV → Option ρ') r, FW_x6_readRule f ρ' σ as k' = some r → ∃ i t, as = .inr (.inr (some (6, i))) :: t := by
  intro ρ' σ as k' r e
  unfold FW_x6_readRule at e
  obtain ⟨h, -⟩ := p_C_inv e
  exact g_hd h rfl

theorem rec_x6_readClause (f : Sg → Int32 → Option (Sg × Int32)) : ∀ ρ' σ as (k' : Sg → Option PV → Option ρ') r, FW_x6_readClause f ρ' σ as k' = some r → ∃ i t, as = .inr (.inr (some (6, i))) :: t := by
  intro ρ' σ as k' r e
  unfold FW_x6_readClause at e
  obtain ⟨h, -⟩ := p_C_inv e
  exact g_hd h rfl

theorem rec_x6_readText (f : Sg → Int32 → Int32 → Option Sg) : ∀ ρ' σ as (k' : Sg → Option PV → Option ρ') r, FW_x6_readText f ρ' σ as k' = some r → ∃ i t, as = .inr (.inr (some (6, i))) :: t := by
  intro ρ' σ as k' r e
  unfold FW_x6_readText at e
  obtain ⟨h, -⟩ := p_C_inv e
  exact g_hd h rfl

theorem rec_x7_howManyFit (f : Sg → Nat → Option (Sg × Int32)) : ∀ ρ' σ as (k' : Sg → Option PV → Option ρ') r, FW_x7_howManyFit f ρ' σ as k' = some r → ∃ i t, as = .inr (.inr (some (7, i))) :: t := by
  intro ρ' σ as k' r e
  unfold FW_x7_howManyFit at e
  obtain ⟨h, -⟩ := p_C_inv e
  exact g_hd h rfl

theorem rec_x7_tellFact (f : Sg → Int32 → Int32 → Option (Sg × Int32)) : ∀ ρ' σ as (k' : Sg → Option PV → Option ρ') r, FW_x7_tellFact f ρ' σ as k' = some r → ∃ i t, as = .inr (.inr (some (7, i))) :: t := by
  intro ρ' σ as k' r e
  unfold FW_x7_tellFact at e
  obtain ⟨h, -⟩ := p_C_inv e
  exact g_hd h rfl

theorem rec_x7_isAsSeen (f : Sg → Nat → Int32 → Option (Sg × Int32)) : ∀ ρ' σ as (k' : Sg → Option PV → Option ρ') r, FW_x7_isAsSeen f ρ' σ as k' = some r → ∃ i t, as = .inr (.inr (some (7, i))) :: t := by
  intro ρ' σ as k' r e
  unfold FW_x7_isAsSeen at e
  obtain ⟨h, -⟩ := p_C_inv e
  exact g_hd h rfl

theorem rec_x7_linesAsSeen (f : Sg → Nat → Option (Sg × Int32)) : ∀ ρ' σ as (k' : Sg → Option PV → Option ρ') r, FW_x7_linesAsSeen f ρ' σ as k' = some r → ∃ i t, as = .inr (.inr (some (7, i))) :: t := by
  intro ρ' σ as k' r e
  unfold FW_x7_linesAsSeen at e
  obtain ⟨h, -⟩ := p_C_inv e
  exact g_hd h rfl

theorem rec_x7_mostAlike (f : Sg → Int32 → Int32 → Option (Sg × Int32)) : ∀ ρ' σ as (k' : Sg → Option PV → Option ρ') r, FW_x7_mostAlike f ρ' σ as k' = some r → ∃ i t, as = .inr (.inr (some (7, i))) :: t := by
  intro ρ' σ as k' r e
  unfold FW_x7_mostAlike at e
  obtain ⟨h, -⟩ := p_C_inv e
  exact g_hd h rfl

theorem rec_x7_flowThrough (f : Sg → Nat → Int32 → Int32 → Option (Sg × Int32)) : ∀ ρ' σ as (k' : Sg → Option PV → Option ρ') r, FW_x7_flowThrough f ρ' σ as k' = some r → ∃ i t, as = .inr (.inr (some (7, i))) :: t := by
  intro ρ' σ as k' r e
  unfold FW_x7_flowThrough at e
  obtain ⟨h, -⟩ := p_C_inv e
  exact g_hd h rfl

theorem rec_x7_longestRiver (f : Sg → Nat → Option (Sg × Int32)) : ∀ ρ' σ as (k' : Sg → Option PV → Option ρ') r, FW_x7_longestRiver f ρ' σ as k' = some r → ∃ i t, as = .inr (.inr (some (7, i))) :: t := by
  intro ρ' σ as k' r e
  unfold FW_x7_longestRiver at e
  obtain ⟨h, -⟩ := p_C_inv e
  exact g_hd h rfl

theorem rec_x9_refuse (f : Sg → Int32 → Option (Sg × Int32)) : ∀ ρ' σ as (k' : Sg → Option PV → Option ρ') r, FW_x9_refuse f ρ' σ as k' = some r → ∃ i t, as = .inr (.inr (some (9, i))) :: t := by
  intro ρ' σ as k' r e
  unfold FW_x9_refuse at e
  obtain ⟨h, -⟩ := p_C_inv e
  exact g_hd h rfl

theorem rec_x9_answer (f : Sg → Int32 → Option (Sg × Int32)) : ∀ ρ' σ as (k' : Sg → Option PV → Option ρ') r, FW_x9_answer f ρ' σ as k' = some r → ∃ i t, as = .inr (.inr (some (9, i))) :: t := by
  intro ρ' σ as k' r e
  unfold FW_x9_answer at e
  obtain ⟨h, -⟩ := p_C_inv e
  exact g_hd h rfl

theorem rec_x9_word (f : Sg → Int32 → Int32 → Int32 → Option (Sg × Int32)) : ∀ ρ' σ as (k' : Sg → Option PV → Option ρ') r, FW_x9_word f ρ' σ as k' = some r → ∃ i t, as = .inr (.inr (some (9, i))) :: t := by
  intro ρ' σ as k' r e
  unfold FW_x9_word at e
  obtain ⟨h, -⟩ := p_C_inv e
  exact g_hd h rfl

theorem rec_x9_of (f : Sg → Int32 → Int32 → Option (Sg × Int32)) : ∀ ρ' σ as (k' : Sg → Option PV → Option ρ') r, FW_x9_of f ρ' σ as k' = some r → ∃ i t, as = .inr (.inr (some (9, i))) :: t := by
  intro ρ' σ as k' r e
  unfold FW_x9_of at e
  obtain ⟨h, -⟩ := p_C_inv e
  exact g_hd h rfl

theorem rec_x9_line (f : Sg → Int32 → Int32 → Option (Sg × Int32)) : ∀ ρ' σ as (k' : Sg → Option PV → Option ρ') r, FW_x9_line f ρ' σ as k' = some r → ∃ i t, as = .inr (.inr (some (9, i))) :: t := by
  intro ρ' σ as k' r e
  unfold FW_x9_line at e
  obtain ⟨h, -⟩ := p_C_inv e
  exact g_hd h rfl

theorem rec_x9_all (f : Sg → Int32 → Option (Sg × Int32)) : ∀ ρ' σ as (k' : Sg → Option PV → Option ρ') r, FW_x9_all f ρ' σ as k' = some r → ∃ i t, as = .inr (.inr (some (9, i))) :: t := by
  intro ρ' σ as k' r e
  unfold FW_x9_all at e
  obtain ⟨h, -⟩ := p_C_inv e
  exact g_hd h rfl

theorem rec_x9_terms (f : Sg → Int32 → Int32 → Option (Sg × Int32)) : ∀ ρ' σ as (k' : Sg → Option PV → Option ρ') r, FW_x9_terms f ρ' σ as k' = some r → ∃ i t, as = .inr (.inr (some (9, i))) :: t := by
  intro ρ' σ as k' r e
  unfold FW_x9_terms at e
  obtain ⟨h, -⟩ := p_C_inv e
  exact g_hd h rfl

theorem rec_x9_putFour (f : Sg → Int32 → Option Sg) : ∀ ρ' σ as (k' : Sg → Option PV → Option ρ') r, FW_x9_putFour f ρ' σ as k' = some r → ∃ i t, as = .inr (.inr (some (9, i))) :: t := by
  intro ρ' σ as k' r e
  unfold FW_x9_putFour at e
  obtain ⟨h, -⟩ := p_C_inv e
  exact g_hd h rfl

theorem rec_x9_feed (f : Sg → Int32 → Int32 → Int32 → Int32 → Int32 → Option (Sg × Int32)) : ∀ ρ' σ as (k' : Sg → Option PV → Option ρ') r, FW_x9_feed f ρ' σ as k' = some r → ∃ i t, as = .inr (.inr (some (9, i))) :: t := by
  intro ρ' σ as k' r e
  unfold FW_x9_feed at e
  obtain ⟨h, -⟩ := p_C_inv e
  exact g_hd h rfl

theorem rec_x9_end (f : Sg → Int32 → Option (Sg × Int32)) : ∀ ρ' σ as (k' : Sg → Option PV → Option ρ') r, FW_x9_end f ρ' σ as k' = some r → ∃ i t, as = .inr (.inr (some (9, i))) :: t := by
  intro ρ' σ as k' r e
  unfold FW_x9_end at e
  obtain ⟨h, -⟩ := p_C_inv e
  exact g_hd h rfl

theorem rec_x9_takeWordAt (f : Sg → Int32 → Option (Sg × Int32)) : ∀ ρ' σ as (k' : Sg → Option PV → Option ρ') r, FW_x9_takeWordAt f ρ' σ as k' = some r → ∃ i t, as = .inr (.inr (some (9, i))) :: t := by
  intro ρ' σ as k' r e
  unfold FW_x9_takeWordAt at e
  obtain ⟨h, -⟩ := p_C_inv e
  exact g_hd h rfl

theorem rec_x9_row (f : Sg → Option (Sg × Int32)) : ∀ ρ' σ as (k' : Sg → Option PV → Option ρ') r, FW_x9_row f ρ' σ as k' = some r → ∃ i t, as = .inr (.inr (some (9, i))) :: t := by
  intro ρ' σ as k' r e
  unfold FW_x9_row at e
  obtain ⟨h, -⟩ := p_C_inv e
  exact g_hd h rfl

theorem rec_x9_turned (f : Sg → Option (Sg × Int32)) : ∀ ρ' σ as (k' : Sg → Option PV → Option ρ') r, FW_x9_turned f ρ' σ as k' = some r → ∃ i t, as = .inr (.inr (some (9, i))) :: t := by
  intro ρ' σ as k' r e
  unfold FW_x9_turned at e
  obtain ⟨h, -⟩ := p_C_inv e
  exact g_hd h rfl

theorem rec_x9_law (f : Sg → Option (Sg × Int32)) : ∀ ρ' σ as (k' : Sg → Option PV → Option ρ') r, FW_x9_law f ρ' σ as k' = some r → ∃ i t, as = .inr (.inr (some (9, i))) :: t := by
  intro ρ' σ as k' r e
  unfold FW_x9_law at e
  obtain ⟨h, -⟩ := p_C_inv e
  exact g_hd h rfl

theorem rec_x9_orders (f : Sg → Option (Sg × Int32)) : ∀ ρ' σ as (k' : Sg → Option PV → Option ρ') r, FW_x9_orders f ρ' σ as k' = some r → ∃ i t, as = .inr (.inr (some (9, i))) :: t := by
  intro ρ' σ as k' r e
  unfold FW_x9_orders at e
  obtain ⟨h, -⟩ := p_C_inv e
  exact g_hd h rfl

theorem rec_x9_fault (f : Sg → Option (Sg × Int32)) : ∀ ρ' σ as (k' : Sg → Option PV → Option ρ') r, FW_x9_fault f ρ' σ as k' = some r → ∃ i t, as = .inr (.inr (some (9, i))) :: t := by
  intro ρ' σ as k' r e
  unfold FW_x9_fault at e
  obtain ⟨h, -⟩ := p_C_inv e
  exact g_hd h rfl

theorem rec_x9_stopped (f : Sg → Option (Sg × Int32)) : ∀ ρ' σ as (k' : Sg → Option PV → Option ρ') r, FW_x9_stopped f ρ' σ as k' = some r → ∃ i t, as = .inr (.inr (some (9, i))) :: t := by
  intro ρ' σ as k' r e
  unfold FW_x9_stopped at e
  obtain ⟨h, -⟩ := p_C_inv e
  exact g_hd h rfl

theorem rec_x9_force (f : Sg → Int32 → Option (Sg × Int32)) : ∀ ρ' σ as (k' : Sg → Option PV → Option ρ') r, FW_x9_force f ρ' σ as k' = some r → ∃ i t, as = .inr (.inr (some (9, i))) :: t := by
  intro ρ' σ as k' r e
  unfold FW_x9_force at e
  obtain ⟨h, -⟩ := p_C_inv e
  exact g_hd h rfl

theorem rec_x9_stop (f : Sg → Int32 → Option (Sg × Int32)) : ∀ ρ' σ as (k' : Sg → Option PV → Option ρ') r, FW_x9_stop f ρ' σ as k' = some r → ∃ i t, as = .inr (.inr (some (9, i))) :: t := by
  intro ρ' σ as k' r e
  unfold FW_x9_stop at e
  obtain ⟨h, -⟩ := p_C_inv e
  exact g_hd h rfl

theorem rec_x9_split (f : Sg → Int32 → Option (Sg × Int32)) : ∀ ρ' σ as (k' : Sg → Option PV → Option ρ') r, FW_x9_split f ρ' σ as k' = some r → ∃ i t, as = .inr (.inr (some (9, i))) :: t := by
  intro ρ' σ as k' r e
  unfold FW_x9_split at e
  obtain ⟨h, -⟩ := p_C_inv e
  exact g_hd h rfl

theorem rec_x9_swell (f : Sg → Int32 → Int32 → Option (Sg × Int32)) : ∀ ρ' σ as (k' : Sg → Option PV → Option ρ') r, FW_x9_swell f ρ' σ as k' = some r → ∃ i t, as = .inr (.inr (some (9, i))) :: t := by
  intro ρ' σ as k' r e
  unfold FW_x9_swell at e
  obtain ⟨h, -⟩ := p_C_inv e
  exact g_hd h rfl

theorem rec_x9_pass (f : Sg → Option (Sg × Int32)) : ∀ ρ' σ as (k' : Sg → Option PV → Option ρ') r, FW_x9_pass f ρ' σ as k' = some r → ∃ i t, as = .inr (.inr (some (9, i))) :: t := by
  intro ρ' σ as k' r e
  unfold FW_x9_pass at e
  obtain ⟨h, -⟩ := p_C_inv e
  exact g_hd h rfl

theorem rec_x9_undo (f : Sg → Option (Sg × Int32)) : ∀ ρ' σ as (k' : Sg → Option PV → Option ρ') r, FW_x9_undo f ρ' σ as k' = some r → ∃ i t, as = .inr (.inr (some (9, i))) :: t := by
  intro ρ' σ as k' r e
  unfold FW_x9_undo at e
  obtain ⟨h, -⟩ := p_C_inv e
  exact g_hd h rfl

theorem rec_x9_layPaper (f : Sg → Nat → Nat → Option Sg) : ∀ ρ' σ as (k' : Sg → Option PV → Option ρ') r, FW_x9_layPaper f ρ' σ as k' = some r → ∃ i t, as = .inr (.inr (some (9, i))) :: t := by
  intro ρ' σ as k' r e
  unfold FW_x9_layPaper at e
  obtain ⟨h, -⟩ := p_C_inv e
  exact g_hd h rfl

theorem rec_x9_best (f : Sg → Int32 → Option (Sg × Int32)) : ∀ ρ' σ as (k' : Sg → Option PV → Option ρ') r, FW_x9_best f ρ' σ as k' = some r → ∃ i t, as = .inr (.inr (some (9, i))) :: t := by
  intro ρ' σ as k' r e
  unfold FW_x9_best at e
  obtain ⟨h, -⟩ := p_C_inv e
  exact g_hd h rfl

theorem rec_x9_just (f : Sg → Int32 → Option (Sg × Int32)) : ∀ ρ' σ as (k' : Sg → Option PV → Option ρ') r, FW_x9_just f ρ' σ as k' = some r → ∃ i t, as = .inr (.inr (some (9, i))) :: t := by
  intro ρ' σ as k' r e
  unfold FW_x9_just at e
  obtain ⟨h, -⟩ := p_C_inv e
  exact g_hd h rfl

theorem rec_x9_fewest (f : Sg → Option (Sg × Int32)) : ∀ ρ' σ as (k' : Sg → Option PV → Option ρ') r, FW_x9_fewest f ρ' σ as k' = some r → ∃ i t, as = .inr (.inr (some (9, i))) :: t := by
  intro ρ' σ as k' r e
  unfold FW_x9_fewest at e
  obtain ⟨h, -⟩ := p_C_inv e
  exact g_hd h rfl

theorem rec_x9_most (f : Sg → Option (Sg × Int32)) : ∀ ρ' σ as (k' : Sg → Option PV → Option ρ') r, FW_x9_most f ρ' σ as k' = some r → ∃ i t, as = .inr (.inr (some (9, i))) :: t := by
  intro ρ' σ as k' r e
  unfold FW_x9_most at e
  obtain ⟨h, -⟩ := p_C_inv e
  exact g_hd h rfl

theorem rec_x9_ways (f : Sg → Option (Sg × Int64)) : ∀ ρ' σ as (k' : Sg → Option PV → Option ρ') r, FW_x9_ways f ρ' σ as k' = some r → ∃ i t, as = .inr (.inr (some (9, i))) :: t := by
  intro ρ' σ as k' r e
  unfold FW_x9_ways at e
  obtain ⟨h, -⟩ := p_C_inv e
  exact g_hd h rfl

theorem rec_x9_richest (f : Sg → Option (Sg × Int32)) : ∀ ρ' σ as (k' : Sg → Option PV → Option ρ') r, FW_x9_richest f ρ' σ as k' = some r → ∃ i t, as = .inr (.inr (some (9, i))) :: t := by
  intro ρ' σ as k' r e
  unfold FW_x9_richest at e
  obtain ⟨h, -⟩ := p_C_inv e
  exact g_hd h rfl

theorem rec_x9_narrow (f : Sg → Int32 → Option (Sg × Int32)) : ∀ ρ' σ as (k' : Sg → Option PV → Option ρ') r, FW_x9_narrow f ρ' σ as k' = some r → ∃ i t, as = .inr (.inr (some (9, i))) :: t := by
  intro ρ' σ as k' r e
  unfold FW_x9_narrow at e
  obtain ⟨h, -⟩ := p_C_inv e
  exact g_hd h rfl

theorem rec_x9_leaveOut (f : Sg → Int32 → Option (Sg × Int32)) : ∀ ρ' σ as (k' : Sg → Option PV → Option ρ') r, FW_x9_leaveOut f ρ' σ as k' = some r → ∃ i t, as = .inr (.inr (some (9, i))) :: t := by
  intro ρ' σ as k' r e
  unfold FW_x9_leaveOut at e
  obtain ⟨h, -⟩ := p_C_inv e
  exact g_hd h rfl

theorem rec_x9_river (f : Sg → Option (Sg × Int32)) : ∀ ρ' σ as (k' : Sg → Option PV → Option ρ') r, FW_x9_river f ρ' σ as k' = some r → ∃ i t, as = .inr (.inr (some (9, i))) :: t := by
  intro ρ' σ as k' r e
  unfold FW_x9_river at e
  obtain ⟨h, -⟩ := p_C_inv e
  exact g_hd h rfl

theorem rec_x9_seen (f : Sg → Int32 → Int32 → Option (Sg × Int32)) : ∀ ρ' σ as (k' : Sg → Option PV → Option ρ') r, FW_x9_seen f ρ' σ as k' = some r → ∃ i t, as = .inr (.inr (some (9, i))) :: t := by
  intro ρ' σ as k' r e
  unfold FW_x9_seen at e
  obtain ⟨h, -⟩ := p_C_inv e
  exact g_hd h rfl

theorem rec_x9_forget (f : Sg → Option (Sg × Int32)) : ∀ ρ' σ as (k' : Sg → Option PV → Option ρ') r, FW_x9_forget f ρ' σ as k' = some r → ∃ i t, as = .inr (.inr (some (9, i))) :: t := by
  intro ρ' σ as k' r e
  unfold FW_x9_forget at e
  obtain ⟨h, -⟩ := p_C_inv e
  exact g_hd h rfl

theorem rec_x9_canBe (f : Sg → Option (Sg × Int32)) : ∀ ρ' σ as (k' : Sg → Option PV → Option ρ') r, FW_x9_canBe f ρ' σ as k' = some r → ∃ i t, as = .inr (.inr (some (9, i))) :: t := by
  intro ρ' σ as k' r e
  unfold FW_x9_canBe at e
  obtain ⟨h, -⟩ := p_C_inv e
  exact g_hd h rfl

theorem rec_x9_look (f : Sg → Int32 → Option (Sg × Int32)) : ∀ ρ' σ as (k' : Sg → Option PV → Option ρ') r, FW_x9_look f ρ' σ as k' = some r → ∃ i t, as = .inr (.inr (some (9, i))) :: t := by
  intro ρ' σ as k' r e
  unfold FW_x9_look at e
  obtain ⟨h, -⟩ := p_C_inv e
  exact g_hd h rfl

theorem rec_x9_few (f : Sg → Int32 → Int32 → Option (Sg × Int64)) : ∀ ρ' σ as (k' : Sg → Option PV → Option ρ') r, FW_x9_few f ρ' σ as k' = some r → ∃ i t, as = .inr (.inr (some (9, i))) :: t := by
  intro ρ' σ as k' r e
  unfold FW_x9_few at e
  obtain ⟨h, -⟩ := p_C_inv e
  exact g_hd h rfl

theorem rec_x9_compare (f : Sg → Int32 → Option (Sg × Int32)) : ∀ ρ' σ as (k' : Sg → Option PV → Option ρ') r, FW_x9_compare f ρ' σ as k' = some r → ∃ i t, as = .inr (.inr (some (9, i))) :: t := by
  intro ρ' σ as k' r e
  unfold FW_x9_compare at e
  obtain ⟨h, -⟩ := p_C_inv e
  exact g_hd h rfl

theorem rec_x9_weeks (f : Sg → Int32 → Int32 → Option (Sg × Int32)) : ∀ ρ' σ as (k' : Sg → Option PV → Option ρ') r, FW_x9_weeks f ρ' σ as k' = some r → ∃ i t, as = .inr (.inr (some (9, i))) :: t := by
  intro ρ' σ as k' r e
  unfold FW_x9_weeks at e
  obtain ⟨h, -⟩ := p_C_inv e
  exact g_hd h rfl

theorem rec_x9_drawn (f : Sg → Int32 → Int32 → Option (Sg × Int32)) : ∀ ρ' σ as (k' : Sg → Option PV → Option ρ') r, FW_x9_drawn f ρ' σ as k' = some r → ∃ i t, as = .inr (.inr (some (9, i))) :: t := by
  intro ρ' σ as k' r e
  unfold FW_x9_drawn at e
  obtain ⟨h, -⟩ := p_C_inv e
  exact g_hd h rfl

theorem rec_x9_image (f : Sg → Int32 → Option (Sg × Int32)) : ∀ ρ' σ as (k' : Sg → Option PV → Option ρ') r, FW_x9_image f ρ' σ as k' = some r → ∃ i t, as = .inr (.inr (some (9, i))) :: t := by
  intro ρ' σ as k' r e
  unfold FW_x9_image at e
  obtain ⟨h, -⟩ := p_C_inv e
  exact g_hd h rfl

theorem rec_x9_back (f : Sg → Int32 → Option (Sg × Int32)) : ∀ ρ' σ as (k' : Sg → Option PV → Option ρ') r, FW_x9_back f ρ' σ as k' = some r → ∃ i t, as = .inr (.inr (some (9, i))) :: t := by
  intro ρ' σ as k' r e
  unfold FW_x9_back at e
  obtain ⟨h, -⟩ := p_C_inv e
  exact g_hd h rfl

theorem rec_x9_count (f : Sg → Int32 → Option (Sg × Int32)) : ∀ ρ' σ as (k' : Sg → Option PV → Option ρ') r, FW_x9_count f ρ' σ as k' = some r → ∃ i t, as = .inr (.inr (some (9, i))) :: t := by
  intro ρ' σ as k' r e
  unfold FW_x9_count at e
  obtain ⟨h, -⟩ := p_C_inv e
  exact g_hd h rfl

theorem rec_x9_status (f : Sg → Option (Sg × Int32)) : ∀ ρ' σ as (k' : Sg → Option PV → Option ρ') r, FW_x9_status f ρ' σ as k' = some r → ∃ i t, as = .inr (.inr (some (9, i))) :: t := by
  intro ρ' σ as k' r e
  unfold FW_x9_status at e
  obtain ⟨h, -⟩ := p_C_inv e
  exact g_hd h rfl

theorem rec_m_refuses (f : Sg → Int32 → Option (Sg × Int32)) : ∀ ρ' σ as (k' : Sg → Option PV → Option ρ') r, FW_m_refuses f ρ' σ as k' = some r → ∃ i t, as = .inr (.inr (some (10, i))) :: t := by
  intro ρ' σ as k' r e
  unfold FW_m_refuses at e
  obtain ⟨h, -⟩ := p_C_inv e
  exact g_hd h rfl

theorem rec_m_good (f : Sg → Int32 → Option (Sg × Int32)) : ∀ ρ' σ as (k' : Sg → Option PV → Option ρ') r, FW_m_good f ρ' σ as k' = some r → ∃ i t, as = .inr (.inr (some (10, i))) :: t := by
  intro ρ' σ as k' r e
  unfold FW_m_good at e
  obtain ⟨h, -⟩ := p_C_inv e
  exact g_hd h rfl

theorem rec_m_settled (f : Sg → Int32 → Option (Sg × Int32)) : ∀ ρ' σ as (k' : Sg → Option PV → Option ρ') r, FW_m_settled f ρ' σ as k' = some r → ∃ i t, as = .inr (.inr (some (10, i))) :: t := by
  intro ρ' σ as k' r e
  unfold FW_m_settled at e
  obtain ⟨h, -⟩ := p_C_inv e
  exact g_hd h rfl

theorem rec_m_laysAside (f : Sg → Int32 → Option Sg) : ∀ ρ' σ as (k' : Sg → Option PV → Option ρ') r, FW_m_laysAside f ρ' σ as k' = some r → ∃ i t, as = .inr (.inr (some (10, i))) :: t := by
  intro ρ' σ as k' r e
  unfold FW_m_laysAside at e
  obtain ⟨h, -⟩ := p_C_inv e
  exact g_hd h rfl

theorem rec_m_takesBack (f : Sg → Int32 → Option Sg) : ∀ ρ' σ as (k' : Sg → Option PV → Option ρ') r, FW_m_takesBack f ρ' σ as k' = some r → ∃ i t, as = .inr (.inr (some (10, i))) :: t := by
  intro ρ' σ as k' r e
  unfold FW_m_takesBack at e
  obtain ⟨h, -⟩ := p_C_inv e
  exact g_hd h rfl

theorem rec_m_image (f : Sg → Int32 → Option (Sg × Int32)) : ∀ ρ' σ as (k' : Sg → Option PV → Option ρ') r, FW_m_image f ρ' σ as k' = some r → ∃ i t, as = .inr (.inr (some (10, i))) :: t := by
  intro ρ' σ as k' r e
  unfold FW_m_image at e
  obtain ⟨h, -⟩ := p_C_inv e
  exact g_hd h rfl

theorem rec_m_wordMany (f : Sg → Option (Sg × Int32)) : ∀ ρ' σ as (k' : Sg → Option PV → Option ρ') r, FW_m_wordMany f ρ' σ as k' = some r → ∃ i t, as = .inr (.inr (some (10, i))) :: t := by
  intro ρ' σ as k' r e
  unfold FW_m_wordMany at e
  obtain ⟨h, -⟩ := p_C_inv e
  exact g_hd h rfl

theorem rec_m_laysAllWords (f : Sg → Option Sg) : ∀ ρ' σ as (k' : Sg → Option PV → Option ρ') r, FW_m_laysAllWords f ρ' σ as k' = some r → ∃ i t, as = .inr (.inr (some (10, i))) :: t := by
  intro ρ' σ as k' r e
  unfold FW_m_laysAllWords at e
  obtain ⟨h, -⟩ := p_C_inv e
  exact g_hd h rfl

theorem rec_m_back (f : Sg → Int32 → Option (Sg × Int32)) : ∀ ρ' σ as (k' : Sg → Option PV → Option ρ') r, FW_m_back f ρ' σ as k' = some r → ∃ i t, as = .inr (.inr (some (10, i))) :: t := by
  intro ρ' σ as k' r e
  unfold FW_m_back at e
  obtain ⟨h, -⟩ := p_C_inv e
  exact g_hd h rfl

theorem rec_m_isWord (f : Sg → Int32 → Option (Sg × Int32)) : ∀ ρ' σ as (k' : Sg → Option PV → Option ρ') r, FW_m_isWord f ρ' σ as k' = some r → ∃ i t, as = .inr (.inr (some (10, i))) :: t := by
  intro ρ' σ as k' r e
  unfold FW_m_isWord at e
  obtain ⟨h, -⟩ := p_C_inv e
  exact g_hd h rfl

theorem rec_m_isLast (f : Sg → Int32 → Option (Sg × Int32)) : ∀ ρ' σ as (k' : Sg → Option PV → Option ρ') r, FW_m_isLast f ρ' σ as k' = some r → ∃ i t, as = .inr (.inr (some (10, i))) :: t := by
  intro ρ' σ as k' r e
  unfold FW_m_isLast at e
  obtain ⟨h, -⟩ := p_C_inv e
  exact g_hd h rfl

theorem rec_m_endsAfter (f : Sg → Int32 → Option (Sg × Int32)) : ∀ ρ' σ as (k' : Sg → Option PV → Option ρ') r, FW_m_endsAfter f ρ' σ as k' = some r → ∃ i t, as = .inr (.inr (some (10, i))) :: t := by
  intro ρ' σ as k' r e
  unfold FW_m_endsAfter at e
  obtain ⟨h, -⟩ := p_C_inv e
  exact g_hd h rfl

theorem rec_m_isSplit (f : Sg → Int32 → Option (Sg × Int32)) : ∀ ρ' σ as (k' : Sg → Option PV → Option ρ') r, FW_m_isSplit f ρ' σ as k' = some r → ∃ i t, as = .inr (.inr (some (10, i))) :: t := by
  intro ρ' σ as k' r e
  unfold FW_m_isSplit at e
  obtain ⟨h, -⟩ := p_C_inv e
  exact g_hd h rfl

theorem rec_m_adds (f : Sg → Int32 → Int32 → Int32 → Option Sg) : ∀ ρ' σ as (k' : Sg → Option PV → Option ρ') r, FW_m_adds f ρ' σ as k' = some r → ∃ i t, as = .inr (.inr (some (10, i))) :: t := by
  intro ρ' σ as k' r e
  unfold FW_m_adds at e
  obtain ⟨h, -⟩ := p_C_inv e
  exact g_hd h rfl

theorem rec_m_word (f : Sg → Int32 → Int32 → Int32 → Option (Sg × Int32)) : ∀ ρ' σ as (k' : Sg → Option PV → Option ρ') r, FW_m_word f ρ' σ as k' = some r → ∃ i t, as = .inr (.inr (some (10, i))) :: t := by
  intro ρ' σ as k' r e
  unfold FW_m_word at e
  obtain ⟨h, -⟩ := p_C_inv e
  exact g_hd h rfl

theorem rec_m_of (f : Sg → Int32 → Int32 → Option (Sg × Int32)) : ∀ ρ' σ as (k' : Sg → Option PV → Option ρ') r, FW_m_of f ρ' σ as k' = some r → ∃ i t, as = .inr (.inr (some (10, i))) :: t := by
  intro ρ' σ as k' r e
  unfold FW_m_of at e
  obtain ⟨h, -⟩ := p_C_inv e
  exact g_hd h rfl

theorem rec_m_terms (f : Sg → Int32 → Int32 → Option (Sg × Int32)) : ∀ ρ' σ as (k' : Sg → Option PV → Option ρ') r, FW_m_terms f ρ' σ as k' = some r → ∃ i t, as = .inr (.inr (some (10, i))) :: t := by
  intro ρ' σ as k' r e
  unfold FW_m_terms at e
  obtain ⟨h, -⟩ := p_C_inv e
  exact g_hd h rfl

theorem rec_m_row (f : Sg → Option (Sg × Int32)) : ∀ ρ' σ as (k' : Sg → Option PV → Option ρ') r, FW_m_row f ρ' σ as k' = some r → ∃ i t, as = .inr (.inr (some (10, i))) :: t := by
  intro ρ' σ as k' r e
  unfold FW_m_row at e
  obtain ⟨h, -⟩ := p_C_inv e
  exact g_hd h rfl

theorem rec_m_turned (f : Sg → Option (Sg × Int32)) : ∀ ρ' σ as (k' : Sg → Option PV → Option ρ') r, FW_m_turned f ρ' σ as k' = some r → ∃ i t, as = .inr (.inr (some (10, i))) :: t := by
  intro ρ' σ as k' r e
  unfold FW_m_turned at e
  obtain ⟨h, -⟩ := p_C_inv e
  exact g_hd h rfl

theorem rec_m_feed (f : Sg → Int32 → Int32 → Int32 → Int32 → Int32 → Option (Sg × Int32)) : ∀ ρ' σ as (k' : Sg → Option PV → Option ρ') r, FW_m_feed f ρ' σ as k' = some r → ∃ i t, as = .inr (.inr (some (10, i))) :: t := by
  intro ρ' σ as k' r e
  unfold FW_m_feed at e
  obtain ⟨h, -⟩ := p_C_inv e
  exact g_hd h rfl

theorem rec_m_end (f : Sg → Int32 → Option (Sg × Int32)) : ∀ ρ' σ as (k' : Sg → Option PV → Option ρ') r, FW_m_end f ρ' σ as k' = some r → ∃ i t, as = .inr (.inr (some (10, i))) :: t := by
  intro ρ' σ as k' r e
  unfold FW_m_end at e
  obtain ⟨h, -⟩ := p_C_inv e
  exact g_hd h rfl

theorem rec_m_wordOf (f : Sg → Int32 → Int32 → Option (Sg × Int32)) : ∀ ρ' σ as (k' : Sg → Option PV → Option ρ') r, FW_m_wordOf f ρ' σ as k' = some r → ∃ i t, as = .inr (.inr (some (10, i))) :: t := by
  intro ρ' σ as k' r e
  unfold FW_m_wordOf at e
  obtain ⟨h, -⟩ := p_C_inv e
  exact g_hd h rfl

theorem rec_m_splits (f : Sg → Int32 → Option Sg) : ∀ ρ' σ as (k' : Sg → Option PV → Option ρ') r, FW_m_splits f ρ' σ as k' = some r → ∃ i t, as = .inr (.inr (some (10, i))) :: t := by
  intro ρ' σ as k' r e
  unfold FW_m_splits at e
  obtain ⟨h, -⟩ := p_C_inv e
  exact g_hd h rfl

theorem rec_m_fine (f : Sg → Option (Sg × Int32)) : ∀ ρ' σ as (k' : Sg → Option PV → Option ρ') r, FW_m_fine f ρ' σ as k' = some r → ∃ i t, as = .inr (.inr (some (10, i))) :: t := by
  intro ρ' σ as k' r e
  unfold FW_m_fine at e
  obtain ⟨h, -⟩ := p_C_inv e
  exact g_hd h rfl

theorem rec_m_faults (f : Sg → Option Sg) : ∀ ρ' σ as (k' : Sg → Option PV → Option ρ') r, FW_m_faults f ρ' σ as k' = some r → ∃ i t, as = .inr (.inr (some (10, i))) :: t := by
  intro ρ' σ as k' r e
  unfold FW_m_faults at e
  obtain ⟨h, -⟩ := p_C_inv e
  exact g_hd h rfl

theorem rec_m_tellsOp (f : Sg → Int32 → Int32 → Option (Sg × Int32)) : ∀ ρ' σ as (k' : Sg → Option PV → Option ρ') r, FW_m_tellsOp f ρ' σ as k' = some r → ∃ i t, as = .inr (.inr (some (10, i))) :: t := by
  intro ρ' σ as k' r e
  unfold FW_m_tellsOp at e
  obtain ⟨h, -⟩ := p_C_inv e
  exact g_hd h rfl

theorem rec_m_takes0 (f : Sg → Int32 → Option (Sg × Int32)) : ∀ ρ' σ as (k' : Sg → Option PV → Option ρ') r, FW_m_takes0 f ρ' σ as k' = some r → ∃ i t, as = .inr (.inr (some (10, i))) :: t := by
  intro ρ' σ as k' r e
  unfold FW_m_takes0 at e
  obtain ⟨h, -⟩ := p_C_inv e
  exact g_hd h rfl

theorem rec_m_must (f : Sg → Int32 → Option Sg) : ∀ ρ' σ as (k' : Sg → Option PV → Option ρ') r, FW_m_must f ρ' σ as k' = some r → ∃ i t, as = .inr (.inr (some (10, i))) :: t := by
  intro ρ' σ as k' r e
  unfold FW_m_must at e
  obtain ⟨h, -⟩ := p_C_inv e
  exact g_hd h rfl

theorem rec_m_leaf (f : Sg → Option Sg) : ∀ ρ' σ as (k' : Sg → Option PV → Option ρ') r, FW_m_leaf f ρ' σ as k' = some r → ∃ i t, as = .inr (.inr (some (10, i))) :: t := by
  intro ρ' σ as k' r e
  unfold FW_m_leaf at e
  obtain ⟨h, -⟩ := p_C_inv e
  exact g_hd h rfl

theorem rec_m_mustNumber (f : Sg → Int32 → Int32 → Option Sg) : ∀ ρ' σ as (k' : Sg → Option PV → Option ρ') r, FW_m_mustNumber f ρ' σ as k' = some r → ∃ i t, as = .inr (.inr (some (10, i))) :: t := by
  intro ρ' σ as k' r e
  unfold FW_m_mustNumber at e
  obtain ⟨h, -⟩ := p_C_inv e
  exact g_hd h rfl

theorem rec_m_readPart (f : Sg → Int32 → Option Sg) : ∀ ρ' σ as (k' : Sg → Option PV → Option ρ') r, FW_m_readPart f ρ' σ as k' = some r → ∃ i t, as = .inr (.inr (some (10, i))) :: t := by
  intro ρ' σ as k' r e
  unfold FW_m_readPart at e
  obtain ⟨h, -⟩ := p_C_inv e
  exact g_hd h rfl

theorem rec_m_readTerm (f : Sg → Int32 → Option Sg) : ∀ ρ' σ as (k' : Sg → Option PV → Option ρ') r, FW_m_readTerm f ρ' σ as k' = some r → ∃ i t, as = .inr (.inr (some (10, i))) :: t := by
  intro ρ' σ as k' r e
  unfold FW_m_readTerm at e
  obtain ⟨h, -⟩ := p_C_inv e
  exact g_hd h rfl

theorem rec_m_readSum (f : Sg → Int32 → Option Sg) : ∀ ρ' σ as (k' : Sg → Option PV → Option ρ') r, FW_m_readSum f ρ' σ as k' = some r → ∃ i t, as = .inr (.inr (some (10, i))) :: t := by
  intro ρ' σ as k' r e
  unfold FW_m_readSum at e
  obtain ⟨h, -⟩ := p_C_inv e
  exact g_hd h rfl

theorem rec_m_readPlain (f : Sg → Int32 → Option Sg) : ∀ ρ' σ as (k' : Sg → Option PV → Option ρ') r, FW_m_readPlain f ρ' σ as k' = some r → ∃ i t, as = .inr (.inr (some (10, i))) :: t := by
  intro ρ' σ as k' r e
  unfold FW_m_readPlain at e
  obtain ⟨h, -⟩ := p_C_inv e
  exact g_hd h rfl

theorem rec_m_readBoth (f : Sg → Int32 → Option Sg) : ∀ ρ' σ as (k' : Sg → Option PV → Option ρ') r, FW_m_readBoth f ρ' σ as k' = some r → ∃ i t, as = .inr (.inr (some (10, i))) :: t := by
  intro ρ' σ as k' r e
  unfold FW_m_readBoth at e
  obtain ⟨h, -⟩ := p_C_inv e
  exact g_hd h rfl

theorem rec_m_readTest (f : Sg → Int32 → Option Sg) : ∀ ρ' σ as (k' : Sg → Option PV → Option ρ') r, FW_m_readTest f ρ' σ as k' = some r → ∃ i t, as = .inr (.inr (some (10, i))) :: t := by
  intro ρ' σ as k' r e
  unfold FW_m_readTest at e
  obtain ⟨h, -⟩ := p_C_inv e
  exact g_hd h rfl

theorem rec_m_readClause (f : Sg → Option Sg) : ∀ ρ' σ as (k' : Sg → Option PV → Option ρ') r, FW_m_readClause f ρ' σ as k' = some r → ∃ i t, as = .inr (.inr (some (10, i))) :: t := by
  intro ρ' σ as k' r e
  unfold FW_m_readClause at e
  obtain ⟨h, -⟩ := p_C_inv e
  exact g_hd h rfl

theorem rec_m_readOrder (f : Sg → Option Sg) : ∀ ρ' σ as (k' : Sg → Option PV → Option ρ') r, FW_m_readOrder f ρ' σ as k' = some r → ∃ i t, as = .inr (.inr (some (10, i))) :: t := by
  intro ρ' σ as k' r e
  unfold FW_m_readOrder at e
  obtain ⟨h, -⟩ := p_C_inv e
  exact g_hd h rfl

theorem rec_m_readOne (f : Sg → Option Sg) : ∀ ρ' σ as (k' : Sg → Option PV → Option ρ') r, FW_m_readOne f ρ' σ as k' = some r → ∃ i t, as = .inr (.inr (some (10, i))) :: t := by
  intro ρ' σ as k' r e
  unfold FW_m_readOne at e
  obtain ⟨h, -⟩ := p_C_inv e
  exact g_hd h rfl

theorem rec_m_reads (f : Sg → Option (Sg × Int32)) : ∀ ρ' σ as (k' : Sg → Option PV → Option ρ') r, FW_m_reads f ρ' σ as k' = some r → ∃ i t, as = .inr (.inr (some (10, i))) :: t := by
  intro ρ' σ as k' r e
  unfold FW_m_reads at e
  obtain ⟨h, -⟩ := p_C_inv e
  exact g_hd h rfl

theorem rec_m_readsAs (f : Sg → Int32 → Option (Sg × Int32)) : ∀ ρ' σ as (k' : Sg → Option PV → Option ρ') r, FW_m_readsAs f ρ' σ as k' = some r → ∃ i t, as = .inr (.inr (some (10, i))) :: t := by
  intro ρ' σ as k' r e
  unfold FW_m_readsAs at e
  obtain ⟨h, -⟩ := p_C_inv e
  exact g_hd h rfl

theorem rec_m_lays (f : Sg → Int32 → Option Sg) : ∀ ρ' σ as (k' : Sg → Option PV → Option ρ') r, FW_m_lays f ρ' σ as k' = some r → ∃ i t, as = .inr (.inr (some (10, i))) :: t := by
  intro ρ' σ as k' r e
  unfold FW_m_lays at e
  obtain ⟨h, -⟩ := p_C_inv e
  exact g_hd h rfl

theorem rec_m_laysOps (f : Sg → Int32 → Option Sg) : ∀ ρ' σ as (k' : Sg → Option PV → Option ρ') r, FW_m_laysOps f ρ' σ as k' = some r → ∃ i t, as = .inr (.inr (some (10, i))) :: t := by
  intro ρ' σ as k' r e
  unfold FW_m_laysOps at e
  obtain ⟨h, -⟩ := p_C_inv e
  exact g_hd h rfl

theorem rec_m_law (f : Sg → Option (Sg × Int32)) : ∀ ρ' σ as (k' : Sg → Option PV → Option ρ') r, FW_m_law f ρ' σ as k' = some r → ∃ i t, as = .inr (.inr (some (10, i))) :: t := by
  intro ρ' σ as k' r e
  unfold FW_m_law at e
  obtain ⟨h, -⟩ := p_C_inv e
  exact g_hd h rfl

theorem rec_m_fault (f : Sg → Option (Sg × Int32)) : ∀ ρ' σ as (k' : Sg → Option PV → Option ρ') r, FW_m_fault f ρ' σ as k' = some r → ∃ i t, as = .inr (.inr (some (10, i))) :: t := by
  intro ρ' σ as k' r e
  unfold FW_m_fault at e
  obtain ⟨h, -⟩ := p_C_inv e
  exact g_hd h rfl

theorem rec_m_isLaw (f : Sg → Int32 → Option (Sg × Int32)) : ∀ ρ' σ as (k' : Sg → Option PV → Option ρ') r, FW_m_isLaw f ρ' σ as k' = some r → ∃ i t, as = .inr (.inr (some (10, i))) :: t := by
  intro ρ' σ as k' r e
  unfold FW_m_isLaw at e
  obtain ⟨h, -⟩ := p_C_inv e
  exact g_hd h rfl

theorem rec_m_force (f : Sg → Int32 → Option (Sg × Int32)) : ∀ ρ' σ as (k' : Sg → Option PV → Option ρ') r, FW_m_force f ρ' σ as k' = some r → ∃ i t, as = .inr (.inr (some (10, i))) :: t := by
  intro ρ' σ as k' r e
  unfold FW_m_force at e
  obtain ⟨h, -⟩ := p_C_inv e
  exact g_hd h rfl

theorem rec_m_codeAt (f : Sg → Int32 → Option (Sg × Int32)) : ∀ ρ' σ as (k' : Sg → Option PV → Option ρ') r, FW_m_codeAt f ρ' σ as k' = some r → ∃ i t, as = .inr (.inr (some (10, i))) :: t := by
  intro ρ' σ as k' r e
  unfold FW_m_codeAt at e
  obtain ⟨h, -⟩ := p_C_inv e
  exact g_hd h rfl

theorem rec_m_passes0 (f : Sg → Int32 → Option (Sg × Int32)) : ∀ ρ' σ as (k' : Sg → Option PV → Option ρ') r, FW_m_passes0 f ρ' σ as k' = some r → ∃ i t, as = .inr (.inr (some (10, i))) :: t := by
  intro ρ' σ as k' r e
  unfold FW_m_passes0 at e
  obtain ⟨h, -⟩ := p_C_inv e
  exact g_hd h rfl

theorem rec_m_bounded (f : Sg → Int64 → Int32 → Option (Sg × Int64)) : ∀ ρ' σ as (k' : Sg → Option PV → Option ρ') r, FW_m_bounded f ρ' σ as k' = some r → ∃ i t, as = .inr (.inr (some (10, i))) :: t := by
  intro ρ' σ as k' r e
  unfold FW_m_bounded at e
  obtain ⟨h, -⟩ := p_C_inv e
  exact g_hd h rfl

theorem rec_m_orderValue (f : Sg → Int32 → Int32 → Option (Sg × Int32)) : ∀ ρ' σ as (k' : Sg → Option PV → Option ρ') r, FW_m_orderValue f ρ' σ as k' = some r → ∃ i t, as = .inr (.inr (some (10, i))) :: t := by
  intro ρ' σ as k' r e
  unfold FW_m_orderValue at e
  obtain ⟨h, -⟩ := p_C_inv e
  exact g_hd h rfl

theorem rec_m_partOf (f : Sg → Int32 → Option (Sg × Int64)) : ∀ ρ' σ as (k' : Sg → Option PV → Option ρ') r, FW_m_partOf f ρ' σ as k' = some r → ∃ i t, as = .inr (.inr (some (10, i))) :: t := by
  intro ρ' σ as k' r e
  unfold FW_m_partOf at e
  obtain ⟨h, -⟩ := p_C_inv e
  exact g_hd h rfl

theorem rec_m_termOf (f : Sg → Int32 → Option (Sg × Int64)) : ∀ ρ' σ as (k' : Sg → Option PV → Option ρ') r, FW_m_termOf f ρ' σ as k' = some r → ∃ i t, as = .inr (.inr (some (10, i))) :: t := by
  intro ρ' σ as k' r e
  unfold FW_m_termOf at e
  obtain ⟨h, -⟩ := p_C_inv e
  exact g_hd h rfl

theorem rec_m_sumOf (f : Sg → Int32 → Option (Sg × Int64)) : ∀ ρ' σ as (k' : Sg → Option PV → Option ρ') r, FW_m_sumOf f ρ' σ as k' = some r → ∃ i t, as = .inr (.inr (some (10, i))) :: t := by
  intro ρ' σ as k' r e
  unfold FW_m_sumOf at e
  obtain ⟨h, -⟩ := p_C_inv e
  exact g_hd h rfl

theorem rec_m_positiveOf (f : Sg → Int32 → Option (Sg × Int32)) : ∀ ρ' σ as (k' : Sg → Option PV → Option ρ') r, FW_m_positiveOf f ρ' σ as k' = some r → ∃ i t, as = .inr (.inr (some (10, i))) :: t := by
  intro ρ' σ as k' r e
  unfold FW_m_positiveOf at e
  obtain ⟨h, -⟩ := p_C_inv e
  exact g_hd h rfl

theorem rec_m_plainOf (f : Sg → Int32 → Option (Sg × Int32)) : ∀ ρ' σ as (k' : Sg → Option PV → Option ρ') r, FW_m_plainOf f ρ' σ as k' = some r → ∃ i t, as = .inr (.inr (some (10, i))) :: t := by
  intro ρ' σ as k' r e
  unfold FW_m_plainOf at e
  obtain ⟨h, -⟩ := p_C_inv e
  exact g_hd h rfl

theorem rec_m_bothOf (f : Sg → Int32 → Option (Sg × Int32)) : ∀ ρ' σ as (k' : Sg → Option PV → Option ρ') r, FW_m_bothOf f ρ' σ as k' = some r → ∃ i t, as = .inr (.inr (some (10, i))) :: t := by
  intro ρ' σ as k' r e
  unfold FW_m_bothOf at e
  obtain ⟨h, -⟩ := p_C_inv e
  exact g_hd h rfl

theorem rec_m_testOf (f : Sg → Int32 → Option (Sg × Int32)) : ∀ ρ' σ as (k' : Sg → Option PV → Option ρ') r, FW_m_testOf f ρ' σ as k' = some r → ∃ i t, as = .inr (.inr (some (10, i))) :: t := by
  intro ρ' σ as k' r e
  unfold FW_m_testOf at e
  obtain ⟨h, -⟩ := p_C_inv e
  exact g_hd h rfl

theorem rec_m_workedOff (f : Sg → Int32 → Int64 → Int64 → Option (Sg × Int64)) : ∀ ρ' σ as (k' : Sg → Option PV → Option ρ') r, FW_m_workedOff f ρ' σ as k' = some r → ∃ i t, as = .inr (.inr (some (10, i))) :: t := by
  intro ρ' σ as k' r e
  unfold FW_m_workedOff at e
  obtain ⟨h, -⟩ := p_C_inv e
  exact g_hd h rfl

theorem rec_m_holds (f : Sg → Int32 → Int32 → Int32 → Option (Sg × Int32)) : ∀ ρ' σ as (k' : Sg → Option PV → Option ρ') r, FW_m_holds f ρ' σ as k' = some r → ∃ i t, as = .inr (.inr (some (10, i))) :: t := by
  intro ρ' σ as k' r e
  unfold FW_m_holds at e
  obtain ⟨h, -⟩ := p_C_inv e
  exact g_hd h rfl

theorem rec_m_tells (f : Sg → Int32 → Int32 → Int32 → Option (Sg × Int32)) : ∀ ρ' σ as (k' : Sg → Option PV → Option ρ') r, FW_m_tells f ρ' σ as k' = some r → ∃ i t, as = .inr (.inr (some (10, i))) :: t := by
  intro ρ' σ as k' r e
  unfold FW_m_tells at e
  obtain ⟨h, -⟩ := p_C_inv e
  exact g_hd h rfl

theorem rec_m_leavesOut (f : Sg → Int32 → Option Sg) : ∀ ρ' σ as (k' : Sg → Option PV → Option ρ') r, FW_m_leavesOut f ρ' σ as k' = some r → ∃ i t, as = .inr (.inr (some (10, i))) :: t := by
  intro ρ' σ as k' r e
  unfold FW_m_leavesOut at e
  obtain ⟨h, -⟩ := p_C_inv e
  exact g_hd h rfl

theorem rec_m_lastPlace (f : Sg → Option (Sg × Int32)) : ∀ ρ' σ as (k' : Sg → Option PV → Option ρ') r, FW_m_lastPlace f ρ' σ as k' = some r → ∃ i t, as = .inr (.inr (some (10, i))) :: t := by
  intro ρ' σ as k' r e
  unfold FW_m_lastPlace at e
  obtain ⟨h, -⟩ := p_C_inv e
  exact g_hd h rfl

theorem rec_m_isPlace (f : Sg → Int32 → Option (Sg × Int32)) : ∀ ρ' σ as (k' : Sg → Option PV → Option ρ') r, FW_m_isPlace f ρ' σ as k' = some r → ∃ i t, as = .inr (.inr (some (10, i))) :: t := by
  intro ρ' σ as k' r e
  unfold FW_m_isPlace at e
  obtain ⟨h, -⟩ := p_C_inv e
  exact g_hd h rfl

theorem rec_m_addsPiece (f : Sg → Int32 → Option Sg) : ∀ ρ' σ as (k' : Sg → Option PV → Option ρ') r, FW_m_addsPiece f ρ' σ as k' = some r → ∃ i t, as = .inr (.inr (some (10, i))) :: t := by
  intro ρ' σ as k' r e
  unfold FW_m_addsPiece at e
  obtain ⟨h, -⟩ := p_C_inv e
  exact g_hd h rfl

theorem rec_m_takesLine (f : Sg → Int32 → Int32 → Int32 → Int32 → Option Sg) : ∀ ρ' σ as (k' : Sg → Option PV → Option ρ') r, FW_m_takesLine f ρ' σ as k' = some r → ∃ i t, as = .inr (.inr (some (10, i))) :: t := by
  intro ρ' σ as k' r e
  unfold FW_m_takesLine at e
  obtain ⟨h, -⟩ := p_C_inv e
  exact g_hd h rfl

theorem rec_m_isLastLine (f : Sg → Option (Sg × Int32)) : ∀ ρ' σ as (k' : Sg → Option PV → Option ρ') r, FW_m_isLastLine f ρ' σ as k' = some r → ∃ i t, as = .inr (.inr (some (10, i))) :: t := by
  intro ρ' σ as k' r e
  unfold FW_m_isLastLine at e
  obtain ⟨h, -⟩ := p_C_inv e
  exact g_hd h rfl

theorem rec_m_setsAsked (f : Sg → Option Sg) : ∀ ρ' σ as (k' : Sg → Option PV → Option ρ') r, FW_m_setsAsked f ρ' σ as k' = some r → ∃ i t, as = .inr (.inr (some (10, i))) :: t := by
  intro ρ' σ as k' r e
  unfold FW_m_setsAsked at e
  obtain ⟨h, -⟩ := p_C_inv e
  exact g_hd h rfl

theorem rec_m_costsNow (f : Sg → Option (Sg × Int32)) : ∀ ρ' σ as (k' : Sg → Option PV → Option ρ') r, FW_m_costsNow f ρ' σ as k' = some r → ∃ i t, as = .inr (.inr (some (10, i))) :: t := by
  intro ρ' σ as k' r e
  unfold FW_m_costsNow at e
  obtain ⟨h, -⟩ := p_C_inv e
  exact g_hd h rfl

theorem rec_m_paysNow (f : Sg → Option (Sg × Int32)) : ∀ ρ' σ as (k' : Sg → Option PV → Option ρ') r, FW_m_paysNow f ρ' σ as k' = some r → ∃ i t, as = .inr (.inr (some (10, i))) :: t := by
  intro ρ' σ as k' r e
  unfold FW_m_paysNow at e
  obtain ⟨h, -⟩ := p_C_inv e
  exact g_hd h rfl

theorem rec_m_isBarred (f : Sg → Option (Sg × Int32)) : ∀ ρ' σ as (k' : Sg → Option PV → Option ρ') r, FW_m_isBarred f ρ' σ as k' = some r → ∃ i t, as = .inr (.inr (some (10, i))) :: t := by
  intro ρ' σ as k' r e
  unfold FW_m_isBarred at e
  obtain ⟨h, -⟩ := p_C_inv e
  exact g_hd h rfl

theorem rec_m_fitsNow (f : Sg → Option (Sg × Int32)) : ∀ ρ' σ as (k' : Sg → Option PV → Option ρ') r, FW_m_fitsNow f ρ' σ as k' = some r → ∃ i t, as = .inr (.inr (some (10, i))) :: t := by
  intro ρ' σ as k' r e
  unfold FW_m_fitsNow at e
  obtain ⟨h, -⟩ := p_C_inv e
  exact g_hd h rfl

theorem rec_m_laysSetting (f : Sg → Option Sg) : ∀ ρ' σ as (k' : Sg → Option PV → Option ρ') r, FW_m_laysSetting f ρ' σ as k' = some r → ∃ i t, as = .inr (.inr (some (10, i))) :: t := by
  intro ρ' σ as k' r e
  unfold FW_m_laysSetting at e
  obtain ⟨h, -⟩ := p_C_inv e
  exact g_hd h rfl

theorem rec_m_takesSet (f : Sg → Int32 → Option Sg) : ∀ ρ' σ as (k' : Sg → Option PV → Option ρ') r, FW_m_takesSet f ρ' σ as k' = some r → ∃ i t, as = .inr (.inr (some (10, i))) :: t := by
  intro ρ' σ as k' r e
  unfold FW_m_takesSet at e
  obtain ⟨h, -⟩ := p_C_inv e
  exact g_hd h rfl

theorem rec_m_line (f : Sg → Int32 → Int32 → Option (Sg × Int32)) : ∀ ρ' σ as (k' : Sg → Option PV → Option ρ') r, FW_m_line f ρ' σ as k' = some r → ∃ i t, as = .inr (.inr (some (10, i))) :: t := by
  intro ρ' σ as k' r e
  unfold FW_m_line at e
  obtain ⟨h, -⟩ := p_C_inv e
  exact g_hd h rfl

theorem rec_m_allOf (f : Sg → Int32 → Option (Sg × Int32)) : ∀ ρ' σ as (k' : Sg → Option PV → Option ρ') r, FW_m_allOf f ρ' σ as k' = some r → ∃ i t, as = .inr (.inr (some (10, i))) :: t := by
  intro ρ' σ as k' r e
  unfold FW_m_allOf at e
  obtain ⟨h, -⟩ := p_C_inv e
  exact g_hd h rfl

theorem rec_m_all (f : Sg → Int32 → Option (Sg × Int32)) : ∀ ρ' σ as (k' : Sg → Option PV → Option ρ') r, FW_m_all f ρ' σ as k' = some r → ∃ i t, as = .inr (.inr (some (10, i))) :: t := by
  intro ρ' σ as k' r e
  unfold FW_m_all at e
  obtain ⟨h, -⟩ := p_C_inv e
  exact g_hd h rfl

theorem rec_m_settingLines (f : Sg → Option (Sg × Int32)) : ∀ ρ' σ as (k' : Sg → Option PV → Option ρ') r, FW_m_settingLines f ρ' σ as k' = some r → ∃ i t, as = .inr (.inr (some (10, i))) :: t := by
  intro ρ' σ as k' r e
  unfold FW_m_settingLines at e
  obtain ⟨h, -⟩ := p_C_inv e
  exact g_hd h rfl

theorem rec_m_keeps (f : Sg → Int32 → Option Sg) : ∀ ρ' σ as (k' : Sg → Option PV → Option ρ') r, FW_m_keeps f ρ' σ as k' = some r → ∃ i t, as = .inr (.inr (some (10, i))) :: t := by
  intro ρ' σ as k' r e
  unfold FW_m_keeps at e
  obtain ⟨h, -⟩ := p_C_inv e
  exact g_hd h rfl

theorem rec_m_undo (f : Sg → Option (Sg × Int32)) : ∀ ρ' σ as (k' : Sg → Option PV → Option ρ') r, FW_m_undo f ρ' σ as k' = some r → ∃ i t, as = .inr (.inr (some (10, i))) :: t := by
  intro ρ' σ as k' r e
  unfold FW_m_undo at e
  obtain ⟨h, -⟩ := p_C_inv e
  exact g_hd h rfl

theorem rec_m_goodOr (f : Sg → Int32 → Option (Sg × Int32)) : ∀ ρ' σ as (k' : Sg → Option PV → Option ρ') r, FW_m_goodOr f ρ' σ as k' = some r → ∃ i t, as = .inr (.inr (some (10, i))) :: t := by
  intro ρ' σ as k' r e
  unfold FW_m_goodOr at e
  obtain ⟨h, -⟩ := p_C_inv e
  exact g_hd h rfl

theorem rec_m_stopsKept (f : Sg → Int32 → Option (Sg × Int32)) : ∀ ρ' σ as (k' : Sg → Option PV → Option ρ') r, FW_m_stopsKept f ρ' σ as k' = some r → ∃ i t, as = .inr (.inr (some (10, i))) :: t := by
  intro ρ' σ as k' r e
  unfold FW_m_stopsKept at e
  obtain ⟨h, -⟩ := p_C_inv e
  exact g_hd h rfl

theorem rec_m_splitsKept (f : Sg → Int32 → Option (Sg × Int32)) : ∀ ρ' σ as (k' : Sg → Option PV → Option ρ') r, FW_m_splitsKept f ρ' σ as k' = some r → ∃ i t, as = .inr (.inr (some (10, i))) :: t := by
  intro ρ' σ as k' r e
  unfold FW_m_splitsKept at e
  obtain ⟨h, -⟩ := p_C_inv e
  exact g_hd h rfl

theorem rec_m_canSwell (f : Sg → Int32 → Int32 → Option (Sg × Int32)) : ∀ ρ' σ as (k' : Sg → Option PV → Option ρ') r, FW_m_canSwell f ρ' σ as k' = some r → ∃ i t, as = .inr (.inr (some (10, i))) :: t := by
  intro ρ' σ as k' r e
  unfold FW_m_canSwell at e
  obtain ⟨h, -⟩ := p_C_inv e
  exact g_hd h rfl

theorem rec_m_swellsKept (f : Sg → Int32 → Int32 → Option (Sg × Int32)) : ∀ ρ' σ as (k' : Sg → Option PV → Option ρ') r, FW_m_swellsKept f ρ' σ as k' = some r → ∃ i t, as = .inr (.inr (some (10, i))) :: t := by
  intro ρ' σ as k' r e
  unfold FW_m_swellsKept at e
  obtain ⟨h, -⟩ := p_C_inv e
  exact g_hd h rfl

theorem rec_m_passesKept (f : Sg → Option (Sg × Int32)) : ∀ ρ' σ as (k' : Sg → Option PV → Option ρ') r, FW_m_passesKept f ρ' σ as k' = some r → ∃ i t, as = .inr (.inr (some (10, i))) :: t := by
  intro ρ' σ as k' r e
  unfold FW_m_passesKept at e
  obtain ⟨h, -⟩ := p_C_inv e
  exact g_hd h rfl

theorem rec_m_stop (f : Sg → Int32 → Option (Sg × Int32)) : ∀ ρ' σ as (k' : Sg → Option PV → Option ρ') r, FW_m_stop f ρ' σ as k' = some r → ∃ i t, as = .inr (.inr (some (10, i))) :: t := by
  intro ρ' σ as k' r e
  unfold FW_m_stop at e
  obtain ⟨h, -⟩ := p_C_inv e
  exact g_hd h rfl

theorem rec_m_split (f : Sg → Int32 → Option (Sg × Int32)) : ∀ ρ' σ as (k' : Sg → Option PV → Option ρ') r, FW_m_split f ρ' σ as k' = some r → ∃ i t, as = .inr (.inr (some (10, i))) :: t := by
  intro ρ' σ as k' r e
  unfold FW_m_split at e
  obtain ⟨h, -⟩ := p_C_inv e
  exact g_hd h rfl

theorem rec_m_swell (f : Sg → Int32 → Int32 → Option (Sg × Int32)) : ∀ ρ' σ as (k' : Sg → Option PV → Option ρ') r, FW_m_swell f ρ' σ as k' = some r → ∃ i t, as = .inr (.inr (some (10, i))) :: t := by
  intro ρ' σ as k' r e
  unfold FW_m_swell at e
  obtain ⟨h, -⟩ := p_C_inv e
  exact g_hd h rfl

theorem rec_m_pass (f : Sg → Option (Sg × Int32)) : ∀ ρ' σ as (k' : Sg → Option PV → Option ρ') r, FW_m_pass f ρ' σ as k' = some r → ∃ i t, as = .inr (.inr (some (10, i))) :: t := by
  intro ρ' σ as k' r e
  unfold FW_m_pass at e
  obtain ⟨h, -⟩ := p_C_inv e
  exact g_hd h rfl

theorem rec_m_laysLine (f : Sg → Int32 → Int32 → Int32 → Int32 → Int32 → Option Sg) : ∀ ρ' σ as (k' : Sg → Option PV → Option ρ') r, FW_m_laysLine f ρ' σ as k' = some r → ∃ i t, as = .inr (.inr (some (10, i))) :: t := by
  intro ρ' σ as k' r e
  unfold FW_m_laysLine at e
  obtain ⟨h, -⟩ := p_C_inv e
  exact g_hd h rfl

theorem rec_m_laysLines (f : Sg → Int32 → Int32 → Option Sg) : ∀ ρ' σ as (k' : Sg → Option PV → Option ρ') r, FW_m_laysLines f ρ' σ as k' = some r → ∃ i t, as = .inr (.inr (some (10, i))) :: t := by
  intro ρ' σ as k' r e
  unfold FW_m_laysLines at e
  obtain ⟨h, -⟩ := p_C_inv e
  exact g_hd h rfl

theorem rec_m_canLine (f : Sg → Int32 → Int32 → Int32 → Option (Sg × Int32)) : ∀ ρ' σ as (k' : Sg → Option PV → Option ρ') r, FW_m_canLine f ρ' σ as k' = some r → ∃ i t, as = .inr (.inr (some (10, i))) :: t := by
  intro ρ' σ as k' r e
  unfold FW_m_canLine at e
  obtain ⟨h, -⟩ := p_C_inv e
  exact g_hd h rfl

theorem rec_m_isStart (f : Sg → Int32 → Option (Sg × Int32)) : ∀ ρ' σ as (k' : Sg → Option PV → Option ρ') r, FW_m_isStart f ρ' σ as k' = some r → ∃ i t, as = .inr (.inr (some (10, i))) :: t := by
  intro ρ' σ as k' r e
  unfold FW_m_isStart at e
  obtain ⟨h, -⟩ := p_C_inv e
  exact g_hd h rfl

theorem rec_m_laysLeast (f : Sg → Option Sg) : ∀ ρ' σ as (k' : Sg → Option PV → Option ρ') r, FW_m_laysLeast f ρ' σ as k' = some r → ∃ i t, as = .inr (.inr (some (10, i))) :: t := by
  intro ρ' σ as k' r e
  unfold FW_m_laysLeast at e
  obtain ⟨h, -⟩ := p_C_inv e
  exact g_hd h rfl

theorem rec_m_bestNow (f : Sg → Option (Sg × Int32)) : ∀ ρ' σ as (k' : Sg → Option PV → Option ρ') r, FW_m_bestNow f ρ' σ as k' = some r → ∃ i t, as = .inr (.inr (some (10, i))) :: t := by
  intro ρ' σ as k' r e
  unfold FW_m_bestNow at e
  obtain ⟨h, -⟩ := p_C_inv e
  exact g_hd h rfl

theorem rec_m_best (f : Sg → Int32 → Option (Sg × Int32)) : ∀ ρ' σ as (k' : Sg → Option PV → Option ρ') r, FW_m_best f ρ' σ as k' = some r → ∃ i t, as = .inr (.inr (some (10, i))) :: t := by
  intro ρ' σ as k' r e
  unfold FW_m_best at e
  obtain ⟨h, -⟩ := p_C_inv e
  exact g_hd h rfl

theorem rec_m_takesSum (f : Sg → Int32 → Int32 → Int32 → Int32 → Option Sg) : ∀ ρ' σ as (k' : Sg → Option PV → Option ρ') r, FW_m_takesSum f ρ' σ as k' = some r → ∃ i t, as = .inr (.inr (some (10, i))) :: t := by
  intro ρ' σ as k' r e
  unfold FW_m_takesSum at e
  obtain ⟨h, -⟩ := p_C_inv e
  exact g_hd h rfl

theorem rec_m_laysSums (f : Sg → Int32 → Option Sg) : ∀ ρ' σ as (k' : Sg → Option PV → Option ρ') r, FW_m_laysSums f ρ' σ as k' = some r → ∃ i t, as = .inr (.inr (some (10, i))) :: t := by
  intro ρ' σ as k' r e
  unfold FW_m_laysSums at e
  obtain ⟨h, -⟩ := p_C_inv e
  exact g_hd h rfl

theorem rec_m_laysCosts (f : Sg → Option Sg) : ∀ ρ' σ as (k' : Sg → Option PV → Option ρ') r, FW_m_laysCosts f ρ' σ as k' = some r → ∃ i t, as = .inr (.inr (some (10, i))) :: t := by
  intro ρ' σ as k' r e
  unfold FW_m_laysCosts at e
  obtain ⟨h, -⟩ := p_C_inv e
  exact g_hd h rfl

theorem rec_m_costsBy (f : Sg → Int32 → Option (Sg × Int32)) : ∀ ρ' σ as (k' : Sg → Option PV → Option ρ') r, FW_m_costsBy f ρ' σ as k' = some r → ∃ i t, as = .inr (.inr (some (10, i))) :: t := by
  intro ρ' σ as k' r e
  unfold FW_m_costsBy at e
  obtain ⟨h, -⟩ := p_C_inv e
  exact g_hd h rfl

theorem rec_m_just (f : Sg → Int32 → Option (Sg × Int32)) : ∀ ρ' σ as (k' : Sg → Option PV → Option ρ') r, FW_m_just f ρ' σ as k' = some r → ∃ i t, as = .inr (.inr (some (10, i))) :: t := by
  intro ρ' σ as k' r e
  unfold FW_m_just at e
  obtain ⟨h, -⟩ := p_C_inv e
  exact g_hd h rfl

theorem rec_m_fewest (f : Sg → Option (Sg × Int32)) : ∀ ρ' σ as (k' : Sg → Option PV → Option ρ') r, FW_m_fewest f ρ' σ as k' = some r → ∃ i t, as = .inr (.inr (some (10, i))) :: t := by
  intro ρ' σ as k' r e
  unfold FW_m_fewest at e
  obtain ⟨h, -⟩ := p_C_inv e
  exact g_hd h rfl

theorem rec_m_most (f : Sg → Option (Sg × Int32)) : ∀ ρ' σ as (k' : Sg → Option PV → Option ρ') r, FW_m_most f ρ' σ as k' = some r → ∃ i t, as = .inr (.inr (some (10, i))) :: t := by
  intro ρ' σ as k' r e
  unfold FW_m_most at e
  obtain ⟨h, -⟩ := p_C_inv e
  exact g_hd h rfl

theorem rec_m_ways (f : Sg → Option (Sg × Int64)) : ∀ ρ' σ as (k' : Sg → Option PV → Option ρ') r, FW_m_ways f ρ' σ as k' = some r → ∃ i t, as = .inr (.inr (some (10, i))) :: t := by
  intro ρ' σ as k' r e
  unfold FW_m_ways at e
  obtain ⟨h, -⟩ := p_C_inv e
  exact g_hd h rfl

theorem rec_m_richest (f : Sg → Option (Sg × Int32)) : ∀ ρ' σ as (k' : Sg → Option PV → Option ρ') r, FW_m_richest f ρ' σ as k' = some r → ∃ i t, as = .inr (.inr (some (10, i))) :: t := by
  intro ρ' σ as k' r e
  unfold FW_m_richest at e
  obtain ⟨h, -⟩ := p_C_inv e
  exact g_hd h rfl

theorem rec_m_isBy (f : Sg → Int32 → Option (Sg × Int32)) : ∀ ρ' σ as (k' : Sg → Option PV → Option ρ') r, FW_m_isBy f ρ' σ as k' = some r → ∃ i t, as = .inr (.inr (some (10, i))) :: t := by
  intro ρ' σ as k' r e
  unfold FW_m_isBy at e
  obtain ⟨h, -⟩ := p_C_inv e
  exact g_hd h rfl

theorem rec_m_narrow (f : Sg → Int32 → Option (Sg × Int32)) : ∀ ρ' σ as (k' : Sg → Option PV → Option ρ') r, FW_m_narrow f ρ' σ as k' = some r → ∃ i t, as = .inr (.inr (some (10, i))) :: t := by
  intro ρ' σ as k' r e
  unfold FW_m_narrow at e
  obtain ⟨h, -⟩ := p_C_inv e
  exact g_hd h rfl

theorem rec_m_leaveOut (f : Sg → Int32 → Option (Sg × Int32)) : ∀ ρ' σ as (k' : Sg → Option PV → Option ρ') r, FW_m_leaveOut f ρ' σ as k' = some r → ∃ i t, as = .inr (.inr (some (10, i))) :: t := by
  intro ρ' σ as k' r e
  unfold FW_m_leaveOut at e
  obtain ⟨h, -⟩ := p_C_inv e
  exact g_hd h rfl

theorem rec_m_compare (f : Sg → Int32 → Option (Sg × Int32)) : ∀ ρ' σ as (k' : Sg → Option PV → Option ρ') r, FW_m_compare f ρ' σ as k' = some r → ∃ i t, as = .inr (.inr (some (10, i))) :: t := by
  intro ρ' σ as k' r e
  unfold FW_m_compare at e
  obtain ⟨h, -⟩ := p_C_inv e
  exact g_hd h rfl

theorem rec_m_addsSpaced (f : Sg → Int32 → Int32 → Int32 → Int32 → Option (Sg × Int32)) : ∀ ρ' σ as (k' : Sg → Option PV → Option ρ') r, FW_m_addsSpaced f ρ' σ as k' = some r → ∃ i t, as = .inr (.inr (some (10, i))) :: t := by
  intro ρ' σ as k' r e
  unfold FW_m_addsSpaced at e
  obtain ⟨h, -⟩ := p_C_inv e
  exact g_hd h rfl

theorem rec_m_laysSpaces (f : Sg → Int32 → Int32 → Option Sg) : ∀ ρ' σ as (k' : Sg → Option PV → Option ρ') r, FW_m_laysSpaces f ρ' σ as k' = some r → ∃ i t, as = .inr (.inr (some (10, i))) :: t := by
  intro ρ' σ as k' r e
  unfold FW_m_laysSpaces at e
  obtain ⟨h, -⟩ := p_C_inv e
  exact g_hd h rfl

theorem rec_m_riverTo (f : Sg → Int32 → Int32 → Option (Sg × Int32)) : ∀ ρ' σ as (k' : Sg → Option PV → Option ρ') r, FW_m_riverTo f ρ' σ as k' = some r → ∃ i t, as = .inr (.inr (some (10, i))) :: t := by
  intro ρ' σ as k' r e
  unfold FW_m_riverTo at e
  obtain ⟨h, -⟩ := p_C_inv e
  exact g_hd h rfl

theorem rec_m_river (f : Sg → Option (Sg × Int32)) : ∀ ρ' σ as (k' : Sg → Option PV → Option ρ') r, FW_m_river f ρ' σ as k' = some r → ∃ i t, as = .inr (.inr (some (10, i))) :: t := by
  intro ρ' σ as k' r e
  unfold FW_m_river at e
  obtain ⟨h, -⟩ := p_C_inv e
  exact g_hd h rfl

theorem rec_m_seen (f : Sg → Int32 → Int32 → Option (Sg × Int32)) : ∀ ρ' σ as (k' : Sg → Option PV → Option ρ') r, FW_m_seen f ρ' σ as k' = some r → ∃ i t, as = .inr (.inr (some (10, i))) :: t := by
  intro ρ' σ as k' r e
  unfold FW_m_seen at e
  obtain ⟨h, -⟩ := p_C_inv e
  exact g_hd h rfl

theorem rec_m_forget (f : Sg → Option (Sg × Int32)) : ∀ ρ' σ as (k' : Sg → Option PV → Option ρ') r, FW_m_forget f ρ' σ as k' = some r → ∃ i t, as = .inr (.inr (some (10, i))) :: t := by
  intro ρ' σ as k' r e
  unfold FW_m_forget at e
  obtain ⟨h, -⟩ := p_C_inv e
  exact g_hd h rfl

theorem rec_m_laysFacts (f : Sg → Option Sg) : ∀ ρ' σ as (k' : Sg → Option PV → Option ρ') r, FW_m_laysFacts f ρ' σ as k' = some r → ∃ i t, as = .inr (.inr (some (10, i))) :: t := by
  intro ρ' σ as k' r e
  unfold FW_m_laysFacts at e
  obtain ⟨h, -⟩ := p_C_inv e
  exact g_hd h rfl

theorem rec_m_isSo (f : Sg → Int32 → Option (Sg × Int32)) : ∀ ρ' σ as (k' : Sg → Option PV → Option ρ') r, FW_m_isSo f ρ' σ as k' = some r → ∃ i t, as = .inr (.inr (some (10, i))) :: t := by
  intro ρ' σ as k' r e
  unfold FW_m_isSo at e
  obtain ⟨h, -⟩ := p_C_inv e
  exact g_hd h rfl

theorem rec_m_canBe (f : Sg → Option (Sg × Int32)) : ∀ ρ' σ as (k' : Sg → Option PV → Option ρ') r, FW_m_canBe f ρ' σ as k' = some r → ∃ i t, as = .inr (.inr (some (10, i))) :: t := by
  intro ρ' σ as k' r e
  unfold FW_m_canBe at e
  obtain ⟨h, -⟩ := p_C_inv e
  exact g_hd h rfl

theorem rec_m_mostAlike (f : Sg → Int32 → Int32 → Option (Sg × Int32)) : ∀ ρ' σ as (k' : Sg → Option PV → Option ρ') r, FW_m_mostAlike f ρ' σ as k' = some r → ∃ i t, as = .inr (.inr (some (10, i))) :: t := by
  intro ρ' σ as k' r e
  unfold FW_m_mostAlike at e
  obtain ⟨h, -⟩ := p_C_inv e
  exact g_hd h rfl

theorem rec_m_look (f : Sg → Int32 → Option (Sg × Int32)) : ∀ ρ' σ as (k' : Sg → Option PV → Option ρ') r, FW_m_look f ρ' σ as k' = some r → ∃ i t, as = .inr (.inr (some (10, i))) :: t := by
  intro ρ' σ as k' r e
  unfold FW_m_look at e
  obtain ⟨h, -⟩ := p_C_inv e
  exact g_hd h rfl

theorem rec_m_few (f : Sg → Int32 → Int32 → Option (Sg × Int64)) : ∀ ρ' σ as (k' : Sg → Option PV → Option ρ') r, FW_m_few f ρ' σ as k' = some r → ∃ i t, as = .inr (.inr (some (10, i))) :: t := by
  intro ρ' σ as k' r e
  unfold FW_m_few at e
  obtain ⟨h, -⟩ := p_C_inv e
  exact g_hd h rfl

theorem rec_m_stopped (f : Sg → Option (Sg × Int32)) : ∀ ρ' σ as (k' : Sg → Option PV → Option ρ') r, FW_m_stopped f ρ' σ as k' = some r → ∃ i t, as = .inr (.inr (some (10, i))) :: t := by
  intro ρ' σ as k' r e
  unfold FW_m_stopped at e
  obtain ⟨h, -⟩ := p_C_inv e
  exact g_hd h rfl

theorem rec_m_goesAlong (f : Sg → Int32 → Int32 → Option Sg) : ∀ ρ' σ as (k' : Sg → Option PV → Option ρ') r, FW_m_goesAlong f ρ' σ as k' = some r → ∃ i t, as = .inr (.inr (some (10, i))) :: t := by
  intro ρ' σ as k' r e
  unfold FW_m_goesAlong at e
  obtain ⟨h, -⟩ := p_C_inv e
  exact g_hd h rfl

theorem rec_m_obeys (f : Sg → Option (Sg × Int32)) : ∀ ρ' σ as (k' : Sg → Option PV → Option ρ') r, FW_m_obeys f ρ' σ as k' = some r → ∃ i t, as = .inr (.inr (some (10, i))) :: t := by
  intro ρ' σ as k' r e
  unfold FW_m_obeys at e
  obtain ⟨h, -⟩ := p_C_inv e
  exact g_hd h rfl

theorem rec_m_runs (f : Sg → Int32 → Option (Sg × Int32)) : ∀ ρ' σ as (k' : Sg → Option PV → Option ρ') r, FW_m_runs f ρ' σ as k' = some r → ∃ i t, as = .inr (.inr (some (10, i))) :: t := by
  intro ρ' σ as k' r e
  unfold FW_m_runs at e
  obtain ⟨h, -⟩ := p_C_inv e
  exact g_hd h rfl

theorem rec_m_orders (f : Sg → Option (Sg × Int32)) : ∀ ρ' σ as (k' : Sg → Option PV → Option ρ') r, FW_m_orders f ρ' σ as k' = some r → ∃ i t, as = .inr (.inr (some (10, i))) :: t := by
  intro ρ' σ as k' r e
  unfold FW_m_orders at e
  obtain ⟨h, -⟩ := p_C_inv e
  exact g_hd h rfl

theorem rec_m_draws (f : Sg → Int32 → Option (Sg × Int32)) : ∀ ρ' σ as (k' : Sg → Option PV → Option ρ') r, FW_m_draws f ρ' σ as k' = some r → ∃ i t, as = .inr (.inr (some (10, i))) :: t := by
  intro ρ' σ as k' r e
  unfold FW_m_draws at e
  obtain ⟨h, -⟩ := p_C_inv e
  exact g_hd h rfl

theorem rec_m_drawnAct (f : Sg → Option Sg) : ∀ ρ' σ as (k' : Sg → Option PV → Option ρ') r, FW_m_drawnAct f ρ' σ as k' = some r → ∃ i t, as = .inr (.inr (some (10, i))) :: t := by
  intro ρ' σ as k' r e
  unfold FW_m_drawnAct at e
  obtain ⟨h, -⟩ := p_C_inv e
  exact g_hd h rfl

theorem rec_m_weeks (f : Sg → Int32 → Int32 → Option (Sg × Int32)) : ∀ ρ' σ as (k' : Sg → Option PV → Option ρ') r, FW_m_weeks f ρ' σ as k' = some r → ∃ i t, as = .inr (.inr (some (10, i))) :: t := by
  intro ρ' σ as k' r e
  unfold FW_m_weeks at e
  obtain ⟨h, -⟩ := p_C_inv e
  exact g_hd h rfl

theorem rec_m_drawn (f : Sg → Int32 → Int32 → Option (Sg × Int32)) : ∀ ρ' σ as (k' : Sg → Option PV → Option ρ') r, FW_m_drawn f ρ' σ as k' = some r → ∃ i t, as = .inr (.inr (some (10, i))) :: t := by
  intro ρ' σ as k' r e
  unfold FW_m_drawn at e
  obtain ⟨h, -⟩ := p_C_inv e
  exact g_hd h rfl

theorem rec_m_count (f : Sg → Int32 → Option (Sg × Int32)) : ∀ ρ' σ as (k' : Sg → Option PV → Option ρ') r, FW_m_count f ρ' σ as k' = some r → ∃ i t, as = .inr (.inr (some (10, i))) :: t := by
  intro ρ' σ as k' r e
  unfold FW_m_count at e
  obtain ⟨h, -⟩ := p_C_inv e
  exact g_hd h rfl

theorem rec_m_status (f : Sg → Option (Sg × Int32)) : ∀ ρ' σ as (k' : Sg → Option PV → Option ρ') r, FW_m_status f ρ' σ as k' = some r → ∃ i t, as = .inr (.inr (some (10, i))) :: t := by
  intro ρ' σ as k' r e
  unfold FW_m_status at e
  obtain ⟨h, -⟩ := p_C_inv e
  exact g_hd h rfl
