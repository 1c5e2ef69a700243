/-! links -/
theorem lic_1 : Int32.ofInt 1 = 1 := by decide
theorem lic_2 : Int32.ofInt 2 = 2 := by decide
theorem lic_4 : Int32.ofInt 4 = 4 := by decide
theorem lib_8 : (Int8.ofInt 8).toInt32 = 8 := by decide
theorem lib_16 : (Int8.ofInt 16).toInt32 = 16 := by decide
theorem lib_63 : (Int8.ofInt 63).toInt32 = 63 := by decide
theorem lis_256 : (Int16.ofInt 256).toInt32 = 256 := by decide
theorem lic_8 : Int32.ofInt 8 = 8 := by decide
theorem lic_16 : Int32.ofInt 16 = 16 := by decide
theorem lic_m1 : Int32.ofInt (-1) = (-1) := by decide
theorem lib_32 : (Int8.ofInt 32).toInt32 = 32 := by decide
theorem lic_0 : Int32.ofInt 0 = 0 := by decide
theorem lis_255 : (Int16.ofInt 255).toInt32 = 255 := by decide
theorem lis_300 : (Int16.ofInt 300).toInt32 = 300 := by decide
theorem lib_20 : (Int8.ofInt 20).toInt32 = 20 := by decide
theorem lic_m8 : Int32.ofInt (-8) = (-8) := by decide
theorem lib_24 : (Int8.ofInt 24).toInt32 = 24 := by decide
theorem lib_60 : (Int8.ofInt 60).toInt32 = 60 := by decide
theorem lib_m2 : (Int8.ofInt (-2)).toInt32 = (-2) := by decide
theorem lib_42 : (Int8.ofInt 42).toInt32 = 42 := by decide
theorem lis_9999 : (Int16.ofInt 9999).toInt32 = 9999 := by decide
theorem lib_40 : (Int8.ofInt 40).toInt32 = 40 := by decide
theorem lis_m1000 : (Int16.ofInt (-1000)).toInt32 = (-1000) := by decide
theorem lib_6 : (Int8.ofInt 6).toInt32 = 6 := by decide
theorem lib_18 : (Int8.ofInt 18).toInt32 = 18 := by decide
theorem lib_12 : (Int8.ofInt 12).toInt32 = 12 := by decide
theorem lib_36 : (Int8.ofInt 36).toInt32 = 36 := by decide
theorem lib_30 : (Int8.ofInt 30).toInt32 = 30 := by decide
theorem lib_9 : (Int8.ofInt 9).toInt32 = 9 := by decide
theorem lib_43 : (Int8.ofInt 43).toInt32 = 43 := by decide
theorem lic_3 : Int32.ofInt 3 = 3 := by decide
theorem lic_5 : Int32.ofInt 5 = 5 := by decide
theorem lib_99 : (Int8.ofInt 99).toInt32 = 99 := by decide
theorem lis_999 : (Int16.ofInt 999).toInt32 = 999 := by decide
theorem lis_4016 : (Int16.ofInt 4016).toInt32 = 4016 := by decide
theorem lis_2820 : (Int16.ofInt 2820).toInt32 = 2820 := by decide
theorem lis_160 : (Int16.ofInt 160).toInt32 = 160 := by decide
theorem lis_330 : (Int16.ofInt 330).toInt32 = 330 := by decide
theorem lib_84 : (Int8.ofInt 84).toInt32 = 84 := by decide
theorem lib_100 : (Int8.ofInt 100).toInt32 = 100 := by decide
theorem lis_6000 : (Int16.ofInt 6000).toInt32 = 6000 := by decide
theorem lib_127 : (Int8.ofInt 127).toInt32 = 127 := by decide
theorem lib_10 : (Int8.ofInt 10).toInt32 = 10 := by decide
theorem lib_7 : (Int8.ofInt 7).toInt32 = 7 := by decide
theorem lib_65 : (Int8.ofInt 65).toInt32 = 65 := by decide
theorem lib_90 : (Int8.ofInt 90).toInt32 = 90 := by decide
theorem lib_97 : (Int8.ofInt 97).toInt32 = 97 := by decide
theorem lib_122 : (Int8.ofInt 122).toInt32 = 122 := by decide
theorem lib_48 : (Int8.ofInt 48).toInt32 = 48 := by decide
theorem lib_57 : (Int8.ofInt 57).toInt32 = 57 := by decide
theorem lib_61 : (Int8.ofInt 61).toInt32 = 61 := by decide
theorem lib_62 : (Int8.ofInt 62).toInt32 = 62 := by decide
theorem lil_0 : Int64.ofNat ((0 : Fin 2) : Nat) = 0 := by decide
theorem lib_112 : (Int8.ofInt 112).toInt32 = 112 := by decide
theorem lib_117 : (Int8.ofInt 117).toInt32 = 117 := by decide
theorem lib_114 : (Int8.ofInt 114).toInt32 = 114 := by decide
theorem lib_115 : (Int8.ofInt 115).toInt32 = 115 := by decide
theorem lib_101 : (Int8.ofInt 101).toInt32 = 101 := by decide
theorem lib_111 : (Int8.ofInt 111).toInt32 = 111 := by decide
theorem lib_102 : (Int8.ofInt 102).toInt32 = 102 := by decide
theorem lib_119 : (Int8.ofInt 119).toInt32 = 119 := by decide
theorem lib_105 : (Int8.ofInt 105).toInt32 = 105 := by decide
theorem lib_103 : (Int8.ofInt 103).toInt32 = 103 := by decide
theorem lib_104 : (Int8.ofInt 104).toInt32 = 104 := by decide
theorem lib_116 : (Int8.ofInt 116).toInt32 = 116 := by decide
theorem lib_113 : (Int8.ofInt 113).toInt32 = 113 := by decide
theorem lib_121 : (Int8.ofInt 121).toInt32 = 121 := by decide
theorem lib_21 : (Int8.ofInt 21).toInt32 = 21 := by decide
theorem lib_22 : (Int8.ofInt 22).toInt32 = 22 := by decide
theorem lib_110 : (Int8.ofInt 110).toInt32 = 110 := by decide
theorem lib_41 : (Int8.ofInt 41).toInt32 = 41 := by decide
theorem lib_98 : (Int8.ofInt 98).toInt32 = 98 := by decide
theorem lib_45 : (Int8.ofInt 45).toInt32 = 45 := by decide
theorem lib_35 : (Int8.ofInt 35).toInt32 = 35 := by decide
theorem lib_15 : (Int8.ofInt 15).toInt32 = 15 := by decide
theorem lib_14 : (Int8.ofInt 14).toInt32 = 14 := by decide
theorem lib_13 : (Int8.ofInt 13).toInt32 = 13 := by decide
theorem lib_11 : (Int8.ofInt 11).toInt32 = 11 := by decide
theorem lib_47 : (Int8.ofInt 47).toInt32 = 47 := by decide
theorem lib_109 : (Int8.ofInt 109).toInt32 = 109 := by decide
theorem lib_118 : (Int8.ofInt 118).toInt32 = 118 := by decide
theorem lib_108 : (Int8.ofInt 108).toInt32 = 108 := by decide
theorem lib_107 : (Int8.ofInt 107).toInt32 = 107 := by decide
theorem lib_59 : (Int8.ofInt 59).toInt32 = 59 := by decide
theorem lis_705 : (Int16.ofInt 705).toInt32 = 705 := by decide
theorem lic_m2 : Int32.ofInt (-2) = (-2) := by decide
theorem lis_1556 : (Int16.ofInt 1556).toInt32 = 1556 := by decide
theorem lis_1230 : (Int16.ofInt 1230).toInt32 = 1230 := by decide
theorem lis_10000 : (Int16.ofInt 10000).toInt32 = 10000 := by decide
theorem lis_1000 : (Int16.ofInt 1000).toInt32 = 1000 := by decide
theorem lis_m999 : (Int16.ofInt (-999)).toInt32 = (-999) := by decide
theorem lis_146 : (Int16.ofInt 146).toInt32 = 146 := by decide
theorem lis_1363 : (Int16.ofInt 1363).toInt32 = 1363 := by decide
theorem lis_193 : (Int16.ofInt 193).toInt32 = 193 := by decide
theorem lil_1 : Int64.ofNat ((1 : Fin 2) : Nat) = 1 := by decide
theorem lib_120 : (Int8.ofInt 120).toInt32 = 120 := by decide
theorem lis_136 : (Int16.ofInt 136).toInt32 = 136 := by decide
theorem lis_141 : (Int16.ofInt 141).toInt32 = 141 := by decide
theorem lis_353 : (Int16.ofInt 353).toInt32 = 353 := by decide
theorem lis_233 : (Int16.ofInt 233).toInt32 = 233 := by decide
theorem lis_30427 : (Int16.ofInt 30427).toInt32 = 30427 := by decide
theorem lib_75 : (Int8.ofInt 75).toInt32 = 75 := by decide
theorem lib_64 : (Int8.ofInt 64).toInt32 = 64 := by decide
theorem lis_10023 : (Int16.ofInt 10023).toInt32 = 10023 := by decide
theorem lis_10010 : (Int16.ofInt 10010).toInt32 = 10010 := by decide
theorem lis_10007 : (Int16.ofInt 10007).toInt32 = 10007 := by decide
theorem lib_96 : (Int8.ofInt 96).toInt32 = 96 := by decide
theorem lis_10006 : (Int16.ofInt 10006).toInt32 = 10006 := by decide
theorem lib_44 : (Int8.ofInt 44).toInt32 = 44 := by decide
theorem lic_6 : Int32.ofInt 6 = 6 := by decide
theorem fi10 (k : Nat) : ∀ C T N, cls[10]? = some (C, T, N) → (T k).2.2.2 = false ∨ (("<init>" : String) = "<init>" ∧ C = "OwedToWinds") := fun _ _ _ h => by cases h; exact Or.inr ⟨rfl, rfl⟩
theorem nf10_4 {mn own : String} : ∀ C T N, cls[10]? = some (C, T, N) → (T 4).2.2.2 = false ∨ (mn = "<init>" ∧ C = own) := fun _ _ _ h => by cases h; exact Or.inl rfl
theorem nf9_9 {mn own : String} : ∀ C T N, cls[9]? = some (C, T, N) → (T 9).2.2.2 = false ∨ (mn = "<init>" ∧ C = own) := fun _ _ _ h => by cases h; exact Or.inl rfl
theorem nf9_10 {mn own : String} : ∀ C T N, cls[9]? = some (C, T, N) → (T 10).2.2.2 = false ∨ (mn = "<init>" ∧ C = own) := fun _ _ _ h => by cases h; exact Or.inl rfl
theorem nf9_11 {mn own : String} : ∀ C T N, cls[9]? = some (C, T, N) → (T 11).2.2.2 = false ∨ (mn = "<init>" ∧ C = own) := fun _ _ _ h => by cases h; exact Or.inl rfl
theorem nf9_14 {mn own : String} : ∀ C T N, cls[9]? = some (C, T, N) → (T 14).2.2.2 = false ∨ (mn = "<init>" ∧ C = own) := fun _ _ _ h => by cases h; exact Or.inl rfl
theorem nf9_16 {mn own : String} : ∀ C T N, cls[9]? = some (C, T, N) → (T 16).2.2.2 = false ∨ (mn = "<init>" ∧ C = own) := fun _ _ _ h => by cases h; exact Or.inl rfl
theorem fi11 (k : Nat) : ∀ C T N, cls[11]? = some (C, T, N) → (T k).2.2.2 = false ∨ (("<init>" : String) = "<init>" ∧ C = "OwedToWindsModel") := fun _ _ _ h => by cases h; exact Or.inr ⟨rfl, rfl⟩
theorem nf11_5 {mn own : String} : ∀ C T N, cls[11]? = some (C, T, N) → (T 5).2.2.2 = false ∨ (mn = "<init>" ∧ C = own) := fun _ _ _ h => by cases h; exact Or.inl rfl
theorem nf11_6 {mn own : String} : ∀ C T N, cls[11]? = some (C, T, N) → (T 6).2.2.2 = false ∨ (mn = "<init>" ∧ C = own) := fun _ _ _ h => by cases h; exact Or.inl rfl
theorem nf11_24 {mn own : String} : ∀ C T N, cls[11]? = some (C, T, N) → (T 24).2.2.2 = false ∨ (mn = "<init>" ∧ C = own) := fun _ _ _ h => by cases h; exact Or.inl rfl
theorem nf11_4 {mn own : String} : ∀ C T N, cls[11]? = some (C, T, N) → (T 4).2.2.2 = false ∨ (mn = "<init>" ∧ C = own) := fun _ _ _ h => by cases h; exact Or.inl rfl
theorem nf11_9 {mn own : String} : ∀ C T N, cls[11]? = some (C, T, N) → (T 9).2.2.2 = false ∨ (mn = "<init>" ∧ C = own) := fun _ _ _ h => by cases h; exact Or.inl rfl
theorem nf11_7 {mn own : String} : ∀ C T N, cls[11]? = some (C, T, N) → (T 7).2.2.2 = false ∨ (mn = "<init>" ∧ C = own) := fun _ _ _ h => by cases h; exact Or.inl rfl
theorem nf11_11 {mn own : String} : ∀ C T N, cls[11]? = some (C, T, N) → (T 11).2.2.2 = false ∨ (mn = "<init>" ∧ C = own) := fun _ _ _ h => by cases h; exact Or.inl rfl
theorem nf11_10 {mn own : String} : ∀ C T N, cls[11]? = some (C, T, N) → (T 10).2.2.2 = false ∨ (mn = "<init>" ∧ C = own) := fun _ _ _ h => by cases h; exact Or.inl rfl
theorem nf11_8 {mn own : String} : ∀ C T N, cls[11]? = some (C, T, N) → (T 8).2.2.2 = false ∨ (mn = "<init>" ∧ C = own) := fun _ _ _ h => by cases h; exact Or.inl rfl
theorem nf11_13 {mn own : String} : ∀ C T N, cls[11]? = some (C, T, N) → (T 13).2.2.2 = false ∨ (mn = "<init>" ∧ C = own) := fun _ _ _ h => by cases h; exact Or.inl rfl
theorem nf11_17 {mn own : String} : ∀ C T N, cls[11]? = some (C, T, N) → (T 17).2.2.2 = false ∨ (mn = "<init>" ∧ C = own) := fun _ _ _ h => by cases h; exact Or.inl rfl
theorem nf11_16 {mn own : String} : ∀ C T N, cls[11]? = some (C, T, N) → (T 16).2.2.2 = false ∨ (mn = "<init>" ∧ C = own) := fun _ _ _ h => by cases h; exact Or.inl rfl
theorem nf11_18 {mn own : String} : ∀ C T N, cls[11]? = some (C, T, N) → (T 18).2.2.2 = false ∨ (mn = "<init>" ∧ C = own) := fun _ _ _ h => by cases h; exact Or.inl rfl
theorem nf11_19 {mn own : String} : ∀ C T N, cls[11]? = some (C, T, N) → (T 19).2.2.2 = false ∨ (mn = "<init>" ∧ C = own) := fun _ _ _ h => by cases h; exact Or.inl rfl
theorem nf11_14 {mn own : String} : ∀ C T N, cls[11]? = some (C, T, N) → (T 14).2.2.2 = false ∨ (mn = "<init>" ∧ C = own) := fun _ _ _ h => by cases h; exact Or.inl rfl
theorem nf11_20 {mn own : String} : ∀ C T N, cls[11]? = some (C, T, N) → (T 20).2.2.2 = false ∨ (mn = "<init>" ∧ C = own) := fun _ _ _ h => by cases h; exact Or.inl rfl
theorem nf11_12 {mn own : String} : ∀ C T N, cls[11]? = some (C, T, N) → (T 12).2.2.2 = false ∨ (mn = "<init>" ∧ C = own) := fun _ _ _ h => by cases h; exact Or.inl rfl
theorem nf11_25 {mn own : String} : ∀ C T N, cls[11]? = some (C, T, N) → (T 25).2.2.2 = false ∨ (mn = "<init>" ∧ C = own) := fun _ _ _ h => by cases h; exact Or.inl rfl
theorem nf11_26 {mn own : String} : ∀ C T N, cls[11]? = some (C, T, N) → (T 26).2.2.2 = false ∨ (mn = "<init>" ∧ C = own) := fun _ _ _ h => by cases h; exact Or.inl rfl
theorem nf11_27 {mn own : String} : ∀ C T N, cls[11]? = some (C, T, N) → (T 27).2.2.2 = false ∨ (mn = "<init>" ∧ C = own) := fun _ _ _ h => by cases h; exact Or.inl rfl
theorem nf11_28 {mn own : String} : ∀ C T N, cls[11]? = some (C, T, N) → (T 28).2.2.2 = false ∨ (mn = "<init>" ∧ C = own) := fun _ _ _ h => by cases h; exact Or.inl rfl
theorem nf11_35 {mn own : String} : ∀ C T N, cls[11]? = some (C, T, N) → (T 35).2.2.2 = false ∨ (mn = "<init>" ∧ C = own) := fun _ _ _ h => by cases h; exact Or.inl rfl
theorem fi0 (k : Nat) : ∀ C T N, cls[0]? = some (C, T, N) → (T k).2.2.2 = false ∨ (("<init>" : String) = "<init>" ∧ C = "OwedToWinds$Coins") := fun _ _ _ h => by cases h; exact Or.inr ⟨rfl, rfl⟩
theorem nf1_2 {mn own : String} : ∀ C T N, cls[1]? = some (C, T, N) → (T 2).2.2.2 = false ∨ (mn = "<init>" ∧ C = own) := fun _ _ _ h => by cases h; exact Or.inl rfl
theorem nf1_3 {mn own : String} : ∀ C T N, cls[1]? = some (C, T, N) → (T 3).2.2.2 = false ∨ (mn = "<init>" ∧ C = own) := fun _ _ _ h => by cases h; exact Or.inl rfl
theorem nf1_4 {mn own : String} : ∀ C T N, cls[1]? = some (C, T, N) → (T 4).2.2.2 = false ∨ (mn = "<init>" ∧ C = own) := fun _ _ _ h => by cases h; exact Or.inl rfl
theorem fi1 (k : Nat) : ∀ C T N, cls[1]? = some (C, T, N) → (T k).2.2.2 = false ∨ (("<init>" : String) = "<init>" ∧ C = "OwedToWinds$Days") := fun _ _ _ h => by cases h; exact Or.inr ⟨rfl, rfl⟩
theorem fi2 (k : Nat) : ∀ C T N, cls[2]? = some (C, T, N) → (T k).2.2.2 = false ∨ (("<init>" : String) = "<init>" ∧ C = "OwedToWinds$Foresight") := fun _ _ _ h => by cases h; exact Or.inr ⟨rfl, rfl⟩
theorem nf2_3 {mn own : String} : ∀ C T N, cls[2]? = some (C, T, N) → (T 3).2.2.2 = false ∨ (mn = "<init>" ∧ C = own) := fun _ _ _ h => by cases h; exact Or.inl rfl
theorem nf2_4 {mn own : String} : ∀ C T N, cls[2]? = some (C, T, N) → (T 4).2.2.2 = false ∨ (mn = "<init>" ∧ C = own) := fun _ _ _ h => by cases h; exact Or.inl rfl
theorem nf2_5 {mn own : String} : ∀ C T N, cls[2]? = some (C, T, N) → (T 5).2.2.2 = false ∨ (mn = "<init>" ∧ C = own) := fun _ _ _ h => by cases h; exact Or.inl rfl
theorem nf2_6 {mn own : String} : ∀ C T N, cls[2]? = some (C, T, N) → (T 6).2.2.2 = false ∨ (mn = "<init>" ∧ C = own) := fun _ _ _ h => by cases h; exact Or.inl rfl
theorem nf2_8 {mn own : String} : ∀ C T N, cls[2]? = some (C, T, N) → (T 8).2.2.2 = false ∨ (mn = "<init>" ∧ C = own) := fun _ _ _ h => by cases h; exact Or.inl rfl
theorem nf3_0 {mn own : String} : ∀ C T N, cls[3]? = some (C, T, N) → (T 0).2.2.2 = false ∨ (mn = "<init>" ∧ C = own) := fun _ _ _ h => by cases h; exact Or.inl rfl
theorem nf3_1 {mn own : String} : ∀ C T N, cls[3]? = some (C, T, N) → (T 1).2.2.2 = false ∨ (mn = "<init>" ∧ C = own) := fun _ _ _ h => by cases h; exact Or.inl rfl
theorem fi4 (k : Nat) : ∀ C T N, cls[4]? = some (C, T, N) → (T k).2.2.2 = false ∨ (("<init>" : String) = "<init>" ∧ C = "OwedToWinds$Laws") := fun _ _ _ h => by cases h; exact Or.inr ⟨rfl, rfl⟩
theorem nf5_1 {mn own : String} : ∀ C T N, cls[5]? = some (C, T, N) → (T 1).2.2.2 = false ∨ (mn = "<init>" ∧ C = own) := fun _ _ _ h => by cases h; exact Or.inl rfl
theorem nf5_2 {mn own : String} : ∀ C T N, cls[5]? = some (C, T, N) → (T 2).2.2.2 = false ∨ (mn = "<init>" ∧ C = own) := fun _ _ _ h => by cases h; exact Or.inl rfl
theorem nf5_3 {mn own : String} : ∀ C T N, cls[5]? = some (C, T, N) → (T 3).2.2.2 = false ∨ (mn = "<init>" ∧ C = own) := fun _ _ _ h => by cases h; exact Or.inl rfl
theorem nf5_4 {mn own : String} : ∀ C T N, cls[5]? = some (C, T, N) → (T 4).2.2.2 = false ∨ (mn = "<init>" ∧ C = own) := fun _ _ _ h => by cases h; exact Or.inl rfl
theorem nf5_5 {mn own : String} : ∀ C T N, cls[5]? = some (C, T, N) → (T 5).2.2.2 = false ∨ (mn = "<init>" ∧ C = own) := fun _ _ _ h => by cases h; exact Or.inl rfl
theorem nf5_6 {mn own : String} : ∀ C T N, cls[5]? = some (C, T, N) → (T 6).2.2.2 = false ∨ (mn = "<init>" ∧ C = own) := fun _ _ _ h => by cases h; exact Or.inl rfl
theorem nf5_7 {mn own : String} : ∀ C T N, cls[5]? = some (C, T, N) → (T 7).2.2.2 = false ∨ (mn = "<init>" ∧ C = own) := fun _ _ _ h => by cases h; exact Or.inl rfl
theorem nf5_8 {mn own : String} : ∀ C T N, cls[5]? = some (C, T, N) → (T 8).2.2.2 = false ∨ (mn = "<init>" ∧ C = own) := fun _ _ _ h => by cases h; exact Or.inl rfl
theorem nf5_9 {mn own : String} : ∀ C T N, cls[5]? = some (C, T, N) → (T 9).2.2.2 = false ∨ (mn = "<init>" ∧ C = own) := fun _ _ _ h => by cases h; exact Or.inl rfl
theorem fi5 (k : Nat) : ∀ C T N, cls[5]? = some (C, T, N) → (T k).2.2.2 = false ∨ (("<init>" : String) = "<init>" ∧ C = "OwedToWinds$Reader") := fun _ _ _ h => by cases h; exact Or.inr ⟨rfl, rfl⟩
theorem nf5_11 {mn own : String} : ∀ C T N, cls[5]? = some (C, T, N) → (T 11).2.2.2 = false ∨ (mn = "<init>" ∧ C = own) := fun _ _ _ h => by cases h; exact Or.inl rfl
theorem nf5_12 {mn own : String} : ∀ C T N, cls[5]? = some (C, T, N) → (T 12).2.2.2 = false ∨ (mn = "<init>" ∧ C = own) := fun _ _ _ h => by cases h; exact Or.inl rfl
theorem nf5_13 {mn own : String} : ∀ C T N, cls[5]? = some (C, T, N) → (T 13).2.2.2 = false ∨ (mn = "<init>" ∧ C = own) := fun _ _ _ h => by cases h; exact Or.inl rfl
theorem nf5_14 {mn own : String} : ∀ C T N, cls[5]? = some (C, T, N) → (T 14).2.2.2 = false ∨ (mn = "<init>" ∧ C = own) := fun _ _ _ h => by cases h; exact Or.inl rfl
theorem fi6 (k : Nat) : ∀ C T N, cls[6]? = some (C, T, N) → (T k).2.2.2 = false ∨ (("<init>" : String) = "<init>" ∧ C = "OwedToWinds$Riddles") := fun _ _ _ h => by cases h; exact Or.inr ⟨rfl, rfl⟩
theorem fi7 (k : Nat) : ∀ C T N, cls[7]? = some (C, T, N) → (T k).2.2.2 = false ∨ (("<init>" : String) = "<init>" ∧ C = "OwedToWinds$Text") := fun _ _ _ h => by cases h; exact Or.inr ⟨rfl, rfl⟩
theorem nf7_1 {mn own : String} : ∀ C T N, cls[7]? = some (C, T, N) → (T 1).2.2.2 = false ∨ (mn = "<init>" ∧ C = own) := fun _ _ _ h => by cases h; exact Or.inl rfl
theorem nf7_5 {mn own : String} : ∀ C T N, cls[7]? = some (C, T, N) → (T 5).2.2.2 = false ∨ (mn = "<init>" ∧ C = own) := fun _ _ _ h => by cases h; exact Or.inl rfl
theorem fi9 (k : Nat) : ∀ C T N, cls[9]? = some (C, T, N) → (T k).2.2.2 = false ∨ (("<init>" : String) = "<init>" ∧ C = "OwedToWinds$World") := fun _ _ _ h => by cases h; exact Or.inr ⟨rfl, rfl⟩
theorem nf9_2 {mn own : String} : ∀ C T N, cls[9]? = some (C, T, N) → (T 2).2.2.2 = false ∨ (mn = "<init>" ∧ C = own) := fun _ _ _ h => by cases h; exact Or.inl rfl
theorem nf9_3 {mn own : String} : ∀ C T N, cls[9]? = some (C, T, N) → (T 3).2.2.2 = false ∨ (mn = "<init>" ∧ C = own) := fun _ _ _ h => by cases h; exact Or.inl rfl
theorem nf9_4 {mn own : String} : ∀ C T N, cls[9]? = some (C, T, N) → (T 4).2.2.2 = false ∨ (mn = "<init>" ∧ C = own) := fun _ _ _ h => by cases h; exact Or.inl rfl
theorem nf9_6 {mn own : String} : ∀ C T N, cls[9]? = some (C, T, N) → (T 6).2.2.2 = false ∨ (mn = "<init>" ∧ C = own) := fun _ _ _ h => by cases h; exact Or.inl rfl
theorem lkI_265 : Cond.constant "java/lang/Integer" 265 1431655765 ∈ gtb := tb4 63 (by decide +kernel)
theorem lkI_266 : Cond.constant "java/lang/Integer" 266 858993459 ∈ gtb := tb4 64 (by decide +kernel)
theorem lkI_267 : Cond.constant "java/lang/Integer" 267 252645135 ∈ gtb := tb4 65 (by decide +kernel)
theorem lkI_264 : Cond.constant "java/lang/Integer" 264 65536 ∈ gtb := tb4 195 (by decide +kernel)
theorem lkS_335 : VL "java/lang/String" 335 nS_coder 0 := ⟨mlS_coder, tb1 233 (by decide +kernel), imS_coder, seS_coder⟩
theorem lkS_9 : Cond.fieldLink "java/lang/String" 9 "java/lang/String" "value" "[B" ∈ gtb := tb8 24 (by decide +kernel)
theorem lkS_38 : Cond.fieldLink "java/lang/String" 38 "java/lang/String" "COMPACT_STRINGS" "Z" ∈ gtb := tb1 237 (by decide +kernel)
theorem lkS_15 : Cond.fieldLink "java/lang/String" 15 "java/lang/String" "coder" "B" ∈ gtb := tb8 25 (by decide +kernel)
theorem lkS_495 : SL "java/lang/String" 495 nU_charAt 2 := ⟨mlU_charAt, tb2 7 (by decide +kernel), stU_charAt⟩
theorem lkS_492 : VL "java/lang/String" 492 nS_isLatin1 0 := ⟨mlS_isLatin1, tb2 3 (by decide +kernel), imS_isLatin1, seS_isLatin1⟩
theorem lkS_1053 : Cond.fieldLink "java/lang/String" 1053 "jdk/internal/util/Preconditions" "SIOOBE_FORMATTER" "Ljava/util/function/BiFunction;" ∈ gtb := tb2 13 (by decide +kernel)
theorem lkS_1059 : SL "java/lang/String" 1059 nP_checkIndex 3 := ⟨mlP_checkIndex, tb2 15 (by decide +kernel), stP_checkIndex⟩
theorem lkU_9 : SL "java/lang/StringLatin1" 9 nS_checkIndex 2 := ⟨mlS_checkIndex, tb2 10 (by decide +kernel), stS_checkIndex⟩
theorem lkX_87 : FL "OwedToWinds" 87 10 8 := ⟨RX10, TX10, 12, rfl, by decide, by decide, tb1 122 (by decide +kernel)⟩
theorem lkX_80 : FL "OwedToWinds" 80 10 7 := ⟨RX10, TX10, 12, rfl, by decide, by decide, tb1 121 (by decide +kernel)⟩
theorem lkX_84 : NL "OwedToWinds" 84 6 := ⟨RX6, TX6, 6, rfl, by decide, tb1 87 (by decide +kernel)⟩
theorem lkX_10 : FL "OwedToWinds" 10 10 0 := ⟨RX10, TX10, 12, rfl, by decide, by decide, tb1 114 (by decide +kernel)⟩
theorem lkX_62 : FL "OwedToWinds" 62 10 9 := ⟨RX10, TX10, 12, rfl, by decide, by decide, tb1 123 (by decide +kernel)⟩
theorem lkX_86 : IL "OwedToWinds" 86 nZ_init 2 := ⟨mlZ_init, by decide +kernel, by decide +kernel, tb1 89 (by decide +kernel), imZ_init⟩
theorem lkX_71 : FL "OwedToWinds" 71 10 6 := ⟨RX10, TX10, 12, rfl, by decide, by decide, tb1 120 (by decide +kernel)⟩
theorem lkX_75 : NL "OwedToWinds" 75 2 := ⟨RX2, TX2, 10, rfl, by decide, tb1 45 (by decide +kernel)⟩
theorem lkX_77 : IL "OwedToWinds" 77 nF_init 2 := ⟨mlF_init, by decide +kernel, by decide +kernel, tb1 47 (by decide +kernel), imF_init⟩
theorem lkX_66 : NL "OwedToWinds" 66 1 := ⟨RX1, TX1, 5, rfl, by decide, tb1 21 (by decide +kernel)⟩
theorem lkX_68 : IL "OwedToWinds" 68 nD_init 2 := ⟨mlD_init, by decide +kernel, by decide +kernel, tb1 23 (by decide +kernel), imD_init⟩
theorem lkX_57 : NL "OwedToWinds" 57 4 := ⟨RX4, TX4, 3, rfl, by decide, tb1 5 (by decide +kernel)⟩
theorem lkX_21 : FL "OwedToWinds" 21 10 2 := ⟨RX10, TX10, 12, rfl, by decide, by decide, tb1 116 (by decide +kernel)⟩
theorem lkX_59 : IL "OwedToWinds" 59 nL_init 2 := ⟨mlL_init, by decide +kernel, by decide +kernel, tb1 7 (by decide +kernel), imL_init⟩
theorem lkX_19 : NL "OwedToWinds" 19 7 := ⟨RX7, TX7, 6, rfl, by decide, tb0 129 (by decide +kernel)⟩
theorem lkX_56 : ILn "OwedToWinds" 56 nT_init 0 := ⟨mlT_init, by decide +kernel, by decide +kernel, ⟨"OwedToWinds", List.mem_of_getElem? (l := nestL) (i := 2) rfl⟩, imT_init⟩
theorem lkX_52 : FL "OwedToWinds" 52 10 11 := ⟨RX10, TX10, 12, rfl, by decide, by decide, tb1 125 (by decide +kernel)⟩
theorem lkX_45 : FL "OwedToWinds" 45 10 10 := ⟨RX10, TX10, 12, rfl, by decide, by decide, tb1 124 (by decide +kernel)⟩
theorem lkX_49 : NL "OwedToWinds" 49 0 := ⟨RX0, TX0, 1, rfl, by decide, tb0 204 (by decide +kernel)⟩
theorem lkX_51 : ILn "OwedToWinds" 51 nC_init 0 := ⟨mlC_init, by decide +kernel, by decide +kernel, ⟨"OwedToWinds", List.mem_of_getElem? (l := nestL) (i := 1) rfl⟩, imC_init⟩
theorem lkX_38 : FL "OwedToWinds" 38 10 5 := ⟨RX10, TX10, 12, rfl, by decide, by decide, tb1 119 (by decide +kernel)⟩
theorem lkX_42 : NL "OwedToWinds" 42 3 := ⟨RX3, TX3, 2, rfl, by decide, tb0 189 (by decide +kernel)⟩
theorem lkX_44 : ILn "OwedToWinds" 44 nQ_init 0 := ⟨mlQ_init, by decide +kernel, by decide +kernel, ⟨"OwedToWinds", List.mem_of_getElem? (l := nestL) (i := 0) rfl⟩, imQ_init⟩
theorem lkX_16 : FL "OwedToWinds" 16 10 1 := ⟨RX10, TX10, 12, rfl, by decide, by decide, tb1 115 (by decide +kernel)⟩
theorem lkaX_19 : Cond.classLink "OwedToWinds" 19 "OwedToWinds$Text" ∈ gtb := tb0 129 (by decide +kernel)
theorem lkX_25 : FL "OwedToWinds" 25 10 3 := ⟨RX10, TX10, 12, rfl, by decide, by decide, tb1 117 (by decide +kernel)⟩
theorem lkX_29 : FL "OwedToWinds" 29 10 4 := ⟨RX10, TX10, 12, rfl, by decide, by decide, tb1 118 (by decide +kernel)⟩
theorem lkX_33 : NL "OwedToWinds" 33 5 := ⟨RX5, TX5, 15, rfl, by decide, tb0 131 (by decide +kernel)⟩
theorem lkX_35 : IL "OwedToWinds" 35 nR_init 1 := ⟨mlR_init, by decide +kernel, by decide +kernel, tb0 133 (by decide +kernel), imR_init⟩
theorem lkX_7 : NL "OwedToWinds" 7 9 := ⟨RX9, TX9, 18, rfl, by decide, tb0 29 (by decide +kernel)⟩
theorem lkX_9 : IL "OwedToWinds" 9 nW_init 0 := ⟨mlW_init, by decide +kernel, by decide +kernel, tb0 31 (by decide +kernel), imW_init⟩
theorem lkX_1 : Cond.methodLink "OwedToWinds" 1 Lib.objectInit ∈ gtb := tb0 26 (by decide +kernel)
theorem lkX_91 : VL "OwedToWinds" 91 nW_tellWind 3 := ⟨mlW_tellWind, tb1 155 (by decide +kernel), imW_tellWind, seW_tellWind⟩
theorem lkX_95 : VL "OwedToWinds" 95 nW_tellVillage 2 := ⟨mlW_tellVillage, tb1 166 (by decide +kernel), imW_tellVillage, seW_tellVillage⟩
theorem lkX_99 : VL "OwedToWinds" 99 nW_tellWay 3 := ⟨mlW_tellWay, tb1 177 (by decide +kernel), imW_tellWay, seW_tellWay⟩
theorem lkX_103 : VL "OwedToWinds" 103 nX_feedFour 1 := ⟨mlX_feedFour, tb1 189 (by decide +kernel), imX_feedFour, seX_feedFour⟩
theorem lkX_107 : FL "OwedToWinds" 107 9 9 := ⟨RX9, TX9, 18, rfl, by decide, by decide, tb0 66 (by decide +kernel)⟩
theorem lkX_109 : VL "OwedToWinds" 109 nR_read 2 := ⟨mlR_read, tb1 201 (by decide +kernel), imR_read, seR_read⟩
theorem lkX_116 : FL "OwedToWinds" 116 5 14 := ⟨RX5, TX5, 15, rfl, by decide, by decide, tb0 157 (by decide +kernel)⟩
theorem lkX_113 : FL "OwedToWinds" 113 5 13 := ⟨RX5, TX5, 15, rfl, by decide, by decide, tb0 155 (by decide +kernel)⟩
theorem lkX_123 : FL "OwedToWinds" 123 9 10 := ⟨RX9, TX9, 18, rfl, by decide, by decide, tb0 70 (by decide +kernel)⟩
theorem lkX_119 : VL "OwedToWinds" 119 nW_isText 1 := ⟨mlW_isText, tb2 178 (by decide +kernel), imW_isText, seW_isText⟩
theorem lkX_126 : VL "OwedToWinds" 126 nD_payByHand 3 := ⟨mlD_payByHand, tb2 186 (by decide +kernel), imD_payByHand, seD_payByHand⟩
theorem lkX_129 : VL "OwedToWinds" 129 nD_mergeByHand 2 := ⟨mlD_mergeByHand, tb2 218 (by decide +kernel), imD_mergeByHand, seD_mergeByHand⟩
theorem lkX_142 : FL "OwedToWinds" 142 1 4 := ⟨RX1, TX1, 5, rfl, by decide, by decide, tb1 33 (by decide +kernel)⟩
theorem lkX_139 : VL "OwedToWinds" 139 nD_pass 0 := ⟨mlD_pass, tb3 3 (by decide +kernel), imD_pass, seD_pass⟩
theorem lkX_136 : VL "OwedToWinds" 136 nW_keepStep 0 := ⟨mlW_keepStep, tb3 2 (by decide +kernel), imW_keepStep, seW_keepStep⟩
theorem lkX_132 : VL "OwedToWinds" 132 nW_daysLeft 0 := ⟨mlW_daysLeft, tb2 238 (by decide +kernel), imW_daysLeft, seW_daysLeft⟩
theorem lkX_145 : VL "OwedToWinds" 145 nD_play 1 := ⟨mlD_play, tb3 100 (by decide +kernel), imD_play, seD_play⟩
theorem lkX_153 : FL "OwedToWinds" 153 9 0 := ⟨RX9, TX9, 18, rfl, by decide, by decide, tb0 42 (by decide +kernel)⟩
theorem lkX_149 : VL "OwedToWinds" 149 nD_passYears 2 := ⟨mlD_passYears, tb3 119 (by decide +kernel), imD_passYears, seD_passYears⟩
theorem lkX_160 : FL "OwedToWinds" 160 9 3 := ⟨RX9, TX9, 18, rfl, by decide, by decide, tb0 46 (by decide +kernel)⟩
theorem lkX_156 : VL "OwedToWinds" 156 nW_takeBack 0 := ⟨mlW_takeBack, tb3 135 (by decide +kernel), imW_takeBack, seW_takeBack⟩
theorem lkX_176 : VL "OwedToWinds" 176 nL_duesOf 1 := ⟨mlL_duesOf, tb3 146 (by decide +kernel), imL_duesOf, seL_duesOf⟩
theorem lkX_173 : VL "OwedToWinds" 173 nL_comesOf 1 := ⟨mlL_comesOf, tb3 145 (by decide +kernel), imL_comesOf, seL_comesOf⟩
theorem lkX_169 : VL "OwedToWinds" 169 nL_blowsOf 1 := ⟨mlL_blowsOf, tb3 144 (by decide +kernel), imL_blowsOf, seL_blowsOf⟩
theorem lkX_166 : FL "OwedToWinds" 166 9 5 := ⟨RX9, TX9, 18, rfl, by decide, by decide, tb0 55 (by decide +kernel)⟩
theorem lkX_163 : VL "OwedToWinds" 163 nW_isWind 1 := ⟨mlW_isWind, tb3 143 (by decide +kernel), imW_isWind, seW_isWind⟩
theorem lkX_185 : VL "OwedToWinds" 185 nL_catchOf 3 := ⟨mlL_catchOf, tb3 152 (by decide +kernel), imL_catchOf, seL_catchOf⟩
theorem lkX_182 : FL "OwedToWinds" 182 9 7 := ⟨RX9, TX9, 18, rfl, by decide, by decide, tb0 63 (by decide +kernel)⟩
theorem lkX_179 : VL "OwedToWinds" 179 nW_isVillage 1 := ⟨mlW_isVillage, tb3 151 (by decide +kernel), imW_isVillage, seW_isVillage⟩
theorem lkX_191 : VL "OwedToWinds" 191 nL_takesOf 3 := ⟨mlL_takesOf, tb3 160 (by decide +kernel), imL_takesOf, seL_takesOf⟩
theorem lkX_188 : SL "OwedToWinds" 188 nX_isForce 1 := ⟨mlX_isForce, tb3 157 (by decide +kernel), stX_isForce⟩
theorem lkX_197 : VL "OwedToWinds" 197 nW_page 2 := ⟨mlW_page, tb3 177 (by decide +kernel), imW_page, seW_page⟩
theorem lkX_194 : VL "OwedToWinds" 194 nW_pages 0 := ⟨mlW_pages, tb3 173 (by decide +kernel), imW_pages, seW_pages⟩
theorem lkX_203 : VL "OwedToWinds" 203 nF_taken 1 := ⟨mlF_taken, tb3 191 (by decide +kernel), imF_taken, seF_taken⟩
theorem lkX_200 : SL "OwedToWinds" 200 nX_isFar 1 := ⟨mlX_isFar, tb3 188 (by decide +kernel), stX_isFar⟩
theorem lkX_206 : VL "OwedToWinds" 206 nF_later 2 := ⟨mlF_later, tb3 220 (by decide +kernel), imF_later, seF_later⟩
theorem lkX_209 : VL "OwedToWinds" 209 nF_daysToArrears 0 := ⟨mlF_daysToArrears, tb3 232 (by decide +kernel), imF_daysToArrears, seF_daysToArrears⟩
theorem lkX_212 : VL "OwedToWinds" 212 nF_daysToBroke 1 := ⟨mlF_daysToBroke, tb4 13 (by decide +kernel), imF_daysToBroke, seF_daysToBroke⟩
theorem lkX_215 : VL "OwedToWinds" 215 nF_mildestText 1 := ⟨mlF_mildestText, tb4 21 (by decide +kernel), imF_mildestText, seF_mildestText⟩
theorem lkX_228 : FL "OwedToWinds" 228 3 0 := ⟨RX3, TX3, 2, rfl, by decide, by decide, tb0 196 (by decide +kernel)⟩
theorem lkX_224 : FL "OwedToWinds" 224 3 1 := ⟨RX3, TX3, 2, rfl, by decide, by decide, tb0 198 (by decide +kernel)⟩
theorem lkX_220 : VL "OwedToWinds" 220 nQ_setOdds 3 := ⟨mlQ_setOdds, tb4 30 (by decide +kernel), imQ_setOdds, seQ_setOdds⟩
theorem lkX_218 : Cond.constantLong "OwedToWinds" 218 (-1) ∈ gtb := tb4 29 (by decide +kernel)
theorem lkX_237 : FL "OwedToWinds" 237 2 3 := ⟨RX2, TX2, 10, rfl, by decide, by decide, tb1 55 (by decide +kernel)⟩
theorem lkX_234 : FL "OwedToWinds" 234 2 4 := ⟨RX2, TX2, 10, rfl, by decide, by decide, tb1 57 (by decide +kernel)⟩
theorem lkX_231 : VL "OwedToWinds" 231 nF_findLeast 2 := ⟨mlF_findLeast, tb4 44 (by decide +kernel), imF_findLeast, seF_findLeast⟩
theorem lkX_251 : FL "OwedToWinds" 251 6 2 := ⟨RX6, TX6, 6, rfl, by decide, by decide, tb1 96 (by decide +kernel)⟩
theorem lkX_254 : VL "OwedToWinds" 254 nQ_setShare 3 := ⟨mlQ_setShare, tb4 71 (by decide +kernel), imQ_setShare, seQ_setShare⟩
theorem lkX_248 : VL "OwedToWinds" 248 nZ_findTakes 2 := ⟨mlZ_findTakes, tb4 66 (by decide +kernel), imZ_findTakes, seZ_findTakes⟩
theorem lkX_243 : SL "OwedToWinds" 243 nJ_bitCount 1 := ⟨mlJ_bitCount, tb4 60 (by decide +kernel), stJ_bitCount⟩
theorem lkX_240 : FL "OwedToWinds" 240 9 6 := ⟨RX9, TX9, 18, rfl, by decide, by decide, tb0 60 (by decide +kernel)⟩
theorem lkX_267 : FL "OwedToWinds" 267 2 9 := ⟨RX2, TX2, 10, rfl, by decide, by decide, tb1 65 (by decide +kernel)⟩
theorem lkX_264 : VL "OwedToWinds" 264 nF_lastAhead 1 := ⟨mlF_lastAhead, tb4 110 (by decide +kernel), imF_lastAhead, seF_lastAhead⟩
theorem lkX_261 : VL "OwedToWinds" 261 nF_isReached 1 := ⟨mlF_isReached, tb4 106 (by decide +kernel), imF_isReached, seF_isReached⟩
theorem lkX_258 : VL "OwedToWinds" 258 nF_setOut 1 := ⟨mlF_setOut, tb4 86 (by decide +kernel), imF_setOut, seF_setOut⟩
theorem lkX_273 : FL "OwedToWinds" 273 9 12 := ⟨RX9, TX9, 18, rfl, by decide, by decide, tb0 77 (by decide +kernel)⟩
theorem lkX_270 : FL "OwedToWinds" 270 9 11 := ⟨RX9, TX9, 18, rfl, by decide, by decide, tb0 74 (by decide +kernel)⟩
theorem lkX_276 : FL "OwedToWinds" 276 9 13 := ⟨RX9, TX9, 18, rfl, by decide, by decide, tb0 80 (by decide +kernel)⟩
theorem lkX_279 : VL "OwedToWinds" 279 nZ_fittingWinds 0 := ⟨mlZ_fittingWinds, tb4 122 (by decide +kernel), imZ_fittingWinds, seZ_fittingWinds⟩
theorem lkX_282 : VL "OwedToWinds" 282 nZ_fittingForces 1 := ⟨mlZ_fittingForces, tb4 138 (by decide +kernel), imZ_fittingForces, seZ_fittingForces⟩
theorem lkX_285 : VL "OwedToWinds" 285 nZ_nextVane 0 := ⟨mlZ_nextVane, tb4 143 (by decide +kernel), imZ_nextVane, seZ_nextVane⟩
theorem lkX_291 : FL "OwedToWinds" 291 9 15 := ⟨RX9, TX9, 18, rfl, by decide, by decide, tb0 86 (by decide +kernel)⟩
theorem lkX_288 : FL "OwedToWinds" 288 9 14 := ⟨RX9, TX9, 18, rfl, by decide, by decide, tb0 83 (by decide +kernel)⟩
theorem lkX_297 : VL "OwedToWinds" 297 nZ_countRows 0 := ⟨mlZ_countRows, tb4 168 (by decide +kernel), imZ_countRows, seZ_countRows⟩
theorem lkX_294 : VL "OwedToWinds" 294 nZ_findSails 2 := ⟨mlZ_findSails, tb4 163 (by decide +kernel), imZ_findSails, seZ_findSails⟩
theorem lkX_300 : VL "OwedToWinds" 300 nZ_surePayment 1 := ⟨mlZ_surePayment, tb4 187 (by decide +kernel), imZ_surePayment, seZ_surePayment⟩
theorem lkX_306 : FL "OwedToWinds" 306 9 17 := ⟨RX9, TX9, 18, rfl, by decide, by decide, tb0 90 (by decide +kernel)⟩
theorem lkX_303 : FL "OwedToWinds" 303 9 16 := ⟨RX9, TX9, 18, rfl, by decide, by decide, tb0 88 (by decide +kernel)⟩
theorem lkX_315 : VL "OwedToWinds" 315 nC_piecesOf 3 := ⟨mlC_piecesOf, tb4 208 (by decide +kernel), imC_piecesOf, seC_piecesOf⟩
theorem lkX_312 : FL "OwedToWinds" 312 0 0 := ⟨RX0, TX0, 1, rfl, by decide, by decide, tb0 211 (by decide +kernel)⟩
theorem lkX_309 : VL "OwedToWinds" 309 nC_count 3 := ⟨mlC_count, tb4 204 (by decide +kernel), imC_count, seC_count⟩
theorem lkX_325 : FL "OwedToWinds" 325 2 5 := ⟨RX2, TX2, 10, rfl, by decide, by decide, tb1 59 (by decide +kernel)⟩
theorem lkX_322 : FL "OwedToWinds" 322 2 6 := ⟨RX2, TX2, 10, rfl, by decide, by decide, tb1 61 (by decide +kernel)⟩
theorem lkX_319 : VL "OwedToWinds" 319 nF_countCalms 1 := ⟨mlF_countCalms, tb4 216 (by decide +kernel), imF_countCalms, seF_countCalms⟩
theorem lkX_331 : VL "OwedToWinds" 331 nW_isHere 1 := ⟨mlW_isHere, tb4 225 (by decide +kernel), imW_isHere, seW_isHere⟩
theorem lkX_328 : FL "OwedToWinds" 328 9 4 := ⟨RX9, TX9, 18, rfl, by decide, by decide, tb0 51 (by decide +kernel)⟩
theorem lkX_334 : VL "OwedToWinds" 334 nW_copyFrom 1 := ⟨mlW_copyFrom, tb5 2 (by decide +kernel), imW_copyFrom, seW_copyFrom⟩
theorem lkM_1 : Cond.methodLink "OwedToWindsModel" 1 Lib.objectInit ∈ gtb := tb5 19 (by decide +kernel)
theorem lkM_7 : FL "OwedToWindsModel" 7 11 0 := ⟨RX11, TX11, 38, rfl, by decide, by decide, tb5 23 (by decide +kernel)⟩
theorem lkM_13 : FL "OwedToWindsModel" 13 11 1 := ⟨RX11, TX11, 38, rfl, by decide, by decide, tb5 24 (by decide +kernel)⟩
theorem lkM_16 : FL "OwedToWindsModel" 16 11 2 := ⟨RX11, TX11, 38, rfl, by decide, by decide, tb5 25 (by decide +kernel)⟩
theorem lkM_19 : FL "OwedToWindsModel" 19 11 3 := ⟨RX11, TX11, 38, rfl, by decide, by decide, tb5 26 (by decide +kernel)⟩
theorem lkM_22 : FL "OwedToWindsModel" 22 11 5 := ⟨RX11, TX11, 38, rfl, by decide, by decide, tb5 28 (by decide +kernel)⟩
theorem lkM_26 : FL "OwedToWindsModel" 26 11 6 := ⟨RX11, TX11, 38, rfl, by decide, by decide, tb5 29 (by decide +kernel)⟩
theorem lkM_29 : FL "OwedToWindsModel" 29 11 15 := ⟨RX11, TX11, 38, rfl, by decide, by decide, tb5 38 (by decide +kernel)⟩
theorem lkM_32 : FL "OwedToWindsModel" 32 11 21 := ⟨RX11, TX11, 38, rfl, by decide, by decide, tb5 44 (by decide +kernel)⟩
theorem lkM_35 : FL "OwedToWindsModel" 35 11 22 := ⟨RX11, TX11, 38, rfl, by decide, by decide, tb5 45 (by decide +kernel)⟩
theorem lkM_39 : FL "OwedToWindsModel" 39 11 23 := ⟨RX11, TX11, 38, rfl, by decide, by decide, tb5 46 (by decide +kernel)⟩
theorem lkM_43 : FL "OwedToWindsModel" 43 11 24 := ⟨RX11, TX11, 38, rfl, by decide, by decide, tb5 47 (by decide +kernel)⟩
theorem lkM_47 : FL "OwedToWindsModel" 47 11 29 := ⟨RX11, TX11, 38, rfl, by decide, by decide, tb5 52 (by decide +kernel)⟩
theorem lkM_50 : FL "OwedToWindsModel" 50 11 30 := ⟨RX11, TX11, 38, rfl, by decide, by decide, tb5 53 (by decide +kernel)⟩
theorem lkM_53 : FL "OwedToWindsModel" 53 11 31 := ⟨RX11, TX11, 38, rfl, by decide, by decide, tb5 54 (by decide +kernel)⟩
theorem lkM_56 : FL "OwedToWindsModel" 56 11 32 := ⟨RX11, TX11, 38, rfl, by decide, by decide, tb5 55 (by decide +kernel)⟩
theorem lkM_59 : FL "OwedToWindsModel" 59 11 33 := ⟨RX11, TX11, 38, rfl, by decide, by decide, tb5 56 (by decide +kernel)⟩
theorem lkM_62 : FL "OwedToWindsModel" 62 11 34 := ⟨RX11, TX11, 38, rfl, by decide, by decide, tb5 57 (by decide +kernel)⟩
theorem lkM_65 : FL "OwedToWindsModel" 65 11 36 := ⟨RX11, TX11, 38, rfl, by decide, by decide, tb5 59 (by decide +kernel)⟩
theorem lkM_68 : FL "OwedToWindsModel" 68 11 37 := ⟨RX11, TX11, 38, rfl, by decide, by decide, tb5 60 (by decide +kernel)⟩
theorem lkM_71 : SL "OwedToWindsModel" 71 nM_copy 2 := ⟨mlM_copy, tb5 20 (by decide +kernel), stM_copy⟩
theorem lkM_75 : SL "OwedToWindsModel" 75 nM_isIn 3 := ⟨mlM_isIn, tb5 143 (by decide +kernel), stM_isIn⟩
theorem lkM_83 : VL "OwedToWindsModel" 83 nM_get 2 := ⟨mlM_get, tb5 154 (by decide +kernel), imM_get, seM_get⟩
theorem lkM_79 : VL "OwedToWindsModel" 79 nM_isWind 1 := ⟨mlM_isWind, tb6 118 (by decide +kernel), imM_isWind, seM_isWind⟩
theorem lkM_91 : VL "OwedToWindsModel" 91 nM_begin 1 := ⟨mlM_begin, tb5 150 (by decide +kernel), imM_begin, seM_begin⟩
theorem lkM_87 : VL "OwedToWindsModel" 87 nM_put 3 := ⟨mlM_put, tb5 146 (by decide +kernel), imM_put, seM_put⟩
theorem lkM_95 : VL "OwedToWindsModel" 95 nM_lay 3 := ⟨mlM_lay, tb5 162 (by decide +kernel), imM_lay, seM_lay⟩
theorem lkM_98 : VL "OwedToWindsModel" 98 nM_isVillage 1 := ⟨mlM_isVillage, tb5 170 (by decide +kernel), imM_isVillage, seM_isVillage⟩
theorem lkM_101 : FL "OwedToWindsModel" 101 11 4 := ⟨RX11, TX11, 38, rfl, by decide, by decide, tb5 27 (by decide +kernel)⟩
theorem lkM_104 : VL "OwedToWindsModel" 104 nM_four 1 := ⟨mlM_four, tb5 178 (by decide +kernel), imM_four, seM_four⟩
theorem lkM_117 : FL "OwedToWindsModel" 117 11 9 := ⟨RX11, TX11, 38, rfl, by decide, by decide, tb5 32 (by decide +kernel)⟩
theorem lkM_107 : FL "OwedToWindsModel" 107 11 7 := ⟨RX11, TX11, 38, rfl, by decide, by decide, tb5 30 (by decide +kernel)⟩
theorem lkM_110 : VL "OwedToWindsModel" 110 nM_byteAt 1 := ⟨mlM_byteAt, tb5 198 (by decide +kernel), imM_byteAt, seM_byteAt⟩
theorem lkM_136 : SL "OwedToWindsModel" 136 nM_isSign 1 := ⟨mlM_isSign, tb5 210 (by decide +kernel), stM_isSign⟩
theorem lkM_130 : FL "OwedToWindsModel" 130 11 11 := ⟨RX11, TX11, 38, rfl, by decide, by decide, tb5 34 (by decide +kernel)⟩
theorem lkM_134 : Cond.constantLong "OwedToWindsModel" 134 1152921504606846976 ∈ gtb := tb5 209 (by decide +kernel)
theorem lkM_127 : SL "OwedToWindsModel" 127 nM_isLetterByte 1 := ⟨mlM_isLetterByte, tb5 206 (by decide +kernel), stM_isLetterByte⟩
theorem lkM_123 : FL "OwedToWindsModel" 123 11 10 := ⟨RX11, TX11, 38, rfl, by decide, by decide, tb5 33 (by decide +kernel)⟩
theorem lkM_126 : Cond.constant "OwedToWindsModel" 126 99999 ∈ gtb := tb5 205 (by decide +kernel)
theorem lkM_120 : SL "OwedToWindsModel" 120 nM_isFigure 1 := ⟨mlM_isFigure, tb5 202 (by decide +kernel), stM_isFigure⟩
theorem lkM_114 : FL "OwedToWindsModel" 114 11 8 := ⟨RX11, TX11, 38, rfl, by decide, by decide, tb5 31 (by decide +kernel)⟩
theorem lkM_139 : SL "OwedToWindsModel" 139 nM_w2 2 := ⟨mlM_w2, tb5 230 (by decide +kernel), stM_w2⟩
theorem lkM_143 : SL "OwedToWindsModel" 143 nM_w3 3 := ⟨mlM_w3, tb5 227 (by decide +kernel), stM_w3⟩
theorem lkM_147 : SL "OwedToWindsModel" 147 nM_w4 4 := ⟨mlM_w4, tb5 224 (by decide +kernel), stM_w4⟩
theorem lkM_151 : SL "OwedToWindsModel" 151 nM_w5 5 := ⟨mlM_w5, tb5 221 (by decide +kernel), stM_w5⟩
theorem lkM_155 : FL "OwedToWindsModel" 155 11 12 := ⟨RX11, TX11, 38, rfl, by decide, by decide, tb5 35 (by decide +kernel)⟩
theorem lkM_158 : FL "OwedToWindsModel" 158 11 13 := ⟨RX11, TX11, 38, rfl, by decide, by decide, tb5 36 (by decide +kernel)⟩
theorem lkM_165 : SL "OwedToWindsModel" 165 nM_w6 6 := ⟨mlM_w6, tb6 8 (by decide +kernel), stM_w6⟩
theorem lkM_161 : VL "OwedToWindsModel" 161 nM_isLong 2 := ⟨mlM_isLong, tb5 237 (by decide +kernel), imM_isLong, seM_isLong⟩
theorem lkM_169 : FL "OwedToWindsModel" 169 11 14 := ⟨RX11, TX11, 38, rfl, by decide, by decide, tb5 37 (by decide +kernel)⟩
theorem lkM_182 : FL "OwedToWindsModel" 182 11 17 := ⟨RX11, TX11, 38, rfl, by decide, by decide, tb5 40 (by decide +kernel)⟩
theorem lkM_172 : FL "OwedToWindsModel" 172 11 16 := ⟨RX11, TX11, 38, rfl, by decide, by decide, tb5 39 (by decide +kernel)⟩
theorem lkM_175 : SL "OwedToWindsModel" 175 nM_rank 1 := ⟨mlM_rank, tb6 51 (by decide +kernel), stM_rank⟩
theorem lkM_178 : VL "OwedToWindsModel" 178 nM_emit 2 := ⟨mlM_emit, tb6 62 (by decide +kernel), imM_emit, seM_emit⟩
theorem lkM_188 : VL "OwedToWindsModel" 188 nM_isOpen 0 := ⟨mlM_isOpen, tb6 43 (by decide +kernel), imM_isOpen, seM_isOpen⟩
theorem lkM_185 : FL "OwedToWindsModel" 185 11 19 := ⟨RX11, TX11, 38, rfl, by decide, by decide, tb5 42 (by decide +kernel)⟩
theorem lkM_192 : VL "OwedToWindsModel" 192 nM_nextToken 0 := ⟨mlM_nextToken, tb5 194 (by decide +kernel), imM_nextToken, seM_nextToken⟩
theorem lkM_205 : VL "OwedToWindsModel" 205 nM_opened 1 := ⟨mlM_opened, tb6 82 (by decide +kernel), imM_opened, seM_opened⟩
theorem lkM_212 : VL "OwedToWindsModel" 212 nM_isAskAhead 0 := ⟨mlM_isAskAhead, tb6 86 (by decide +kernel), imM_isAskAhead, seM_isAskAhead⟩
theorem lkM_208 : VL "OwedToWindsModel" 208 nM_isWord 1 := ⟨mlM_isWord, tb5 233 (by decide +kernel), imM_isWord, seM_isWord⟩
theorem lkM_202 : VL "OwedToWindsModel" 202 nM_endOne 0 := ⟨mlM_endOne, tb6 66 (by decide +kernel), imM_endOne, seM_endOne⟩
theorem lkM_199 : VL "OwedToWindsModel" 199 nM_isOf 1 := ⟨mlM_isOf, tb6 78 (by decide +kernel), imM_isOf, seM_isOf⟩
theorem lkM_195 : VL "OwedToWindsModel" 195 nM_nameOf 0 := ⟨mlM_nameOf, tb6 74 (by decide +kernel), imM_nameOf, seM_nameOf⟩
theorem lkM_218 : FL "OwedToWindsModel" 218 11 18 := ⟨RX11, TX11, 38, rfl, by decide, by decide, tb5 41 (by decide +kernel)⟩
theorem lkM_215 : VL "OwedToWindsModel" 215 nM_settle 1 := ⟨mlM_settle, tb6 58 (by decide +kernel), imM_settle, seM_settle⟩
theorem lkM_224 : VL "OwedToWindsModel" 224 nM_compareOf 0 := ⟨mlM_compareOf, tb6 54 (by decide +kernel), imM_compareOf, seM_compareOf⟩
theorem lkM_221 : VL "OwedToWindsModel" 221 nM_isCompared 0 := ⟨mlM_isCompared, tb6 47 (by decide +kernel), imM_isCompared, seM_isCompared⟩
theorem lkM_227 : VL "OwedToWindsModel" 227 nM_betweenOf 0 := ⟨mlM_betweenOf, tb6 39 (by decide +kernel), imM_betweenOf, seM_betweenOf⟩
theorem lkM_233 : VL "OwedToWindsModel" 233 nM_beginOne 0 := ⟨mlM_beginOne, tb6 70 (by decide +kernel), imM_beginOne, seM_beginOne⟩
theorem lkM_230 : VL "OwedToWindsModel" 230 nM_behindOne 0 := ⟨mlM_behindOne, tb6 35 (by decide +kernel), imM_behindOne, seM_behindOne⟩
theorem lkM_236 : VL "OwedToWindsModel" 236 nM_figure 3 := ⟨mlM_figure, tb6 15 (by decide +kernel), imM_figure, seM_figure⟩
theorem lkM_240 : VL "OwedToWindsModel" 240 nM_parsed 1 := ⟨mlM_parsed, tb6 31 (by decide +kernel), imM_parsed, seM_parsed⟩
theorem lkM_244 : VL "OwedToWindsModel" 244 nM_worded 4 := ⟨mlM_worded, tb6 19 (by decide +kernel), imM_worded, seM_worded⟩
theorem lkM_256 : VL "OwedToWindsModel" 256 nM_lawClause 2 := ⟨mlM_lawClause, tb6 27 (by decide +kernel), imM_lawClause, seM_lawClause⟩
theorem lkM_252 : VL "OwedToWindsModel" 252 nM_two0 4 := ⟨mlM_two0, tb6 23 (by decide +kernel), imM_two0, seM_two0⟩
theorem lkM_248 : VL "OwedToWindsModel" 248 nM_three 7 := ⟨mlM_three, tb6 11 (by decide +kernel), imM_three, seM_three⟩
theorem lkM_270 : VL "OwedToWindsModel" 270 nM_body 2 := ⟨mlM_body, tb6 4 (by decide +kernel), imM_body, seM_body⟩
theorem lkM_263 : FL "OwedToWindsModel" 263 11 20 := ⟨RX11, TX11, 38, rfl, by decide, by decide, tb5 43 (by decide +kernel)⟩
theorem lkM_266 : SL "OwedToWindsModel" 266 nM_has 2 := ⟨mlM_has, tb6 1 (by decide +kernel), stM_has⟩
theorem lkM_260 : VL "OwedToWindsModel" 260 nM_sortOf 0 := ⟨mlM_sortOf, tb5 217 (by decide +kernel), imM_sortOf, seM_sortOf⟩
theorem lkM_273 : VL "OwedToWindsModel" 273 nM_clause 0 := ⟨mlM_clause, tb5 213 (by decide +kernel), imM_clause, seM_clause⟩
theorem lkM_276 : VL "OwedToWindsModel" 276 nM_readText 0 := ⟨mlM_readText, tb5 190 (by decide +kernel), imM_readText, seM_readText⟩
theorem lkM_281 : Cond.constantLong "OwedToWindsModel" 281 (-1000000) ∈ gtb := tb6 190 (by decide +kernel)
theorem lkM_279 : Cond.constantLong "OwedToWindsModel" 279 1000000 ∈ gtb := tb6 189 (by decide +kernel)
theorem lkM_283 : SL "OwedToWindsModel" 283 nM_clip 1 := ⟨mlM_clip, tb6 186 (by decide +kernel), stM_clip⟩
theorem lkM_287 : Cond.constantLong "OwedToWindsModel" 287 2 ∈ gtb := tb6 180 (by decide +kernel)
theorem lkM_310 : SL "OwedToWindsModel" 310 nM_joined 3 := ⟨mlM_joined, tb6 194 (by decide +kernel), stM_joined⟩
theorem lkM_306 : SL "OwedToWindsModel" 306 nM_isAsked 3 := ⟨mlM_isAsked, tb6 191 (by decide +kernel), stM_isAsked⟩
theorem lkM_302 : SL "OwedToWindsModel" 302 nM_two 3 := ⟨mlM_two, tb6 183 (by decide +kernel), stM_two⟩
theorem lkM_296 : Cond.constant "OwedToWindsModel" 296 (-1000000) ∈ gtb := tb6 181 (by decide +kernel)
theorem lkM_297 : Cond.constant "OwedToWindsModel" 297 1000000 ∈ gtb := tb6 182 (by decide +kernel)
theorem lkM_298 : SL "OwedToWindsModel" 298 nM_cut 3 := ⟨mlM_cut, tb6 138 (by decide +kernel), stM_cut⟩
theorem lkM_292 : SL "OwedToWindsModel" 292 nM_rounded 2 := ⟨mlM_rounded, tb6 177 (by decide +kernel), stM_rounded⟩
theorem lkM_289 : VL "OwedToWindsModel" 289 nM_debtOf 1 := ⟨mlM_debtOf, tb6 173 (by decide +kernel), imM_debtOf, seM_debtOf⟩
theorem lkM_317 : VL "OwedToWindsModel" 317 nM_work 1 := ⟨mlM_work, tb6 169 (by decide +kernel), imM_work, seM_work⟩
theorem lkM_314 : VL "OwedToWindsModel" 314 nM_clauseOf 1 := ⟨mlM_clauseOf, tb6 165 (by decide +kernel), imM_clauseOf, seM_clauseOf⟩
theorem lkM_320 : VL "OwedToWindsModel" 320 nM_name 3 := ⟨mlM_name, tb6 157 (by decide +kernel), imM_name, seM_name⟩
theorem lkM_323 : VL "OwedToWindsModel" 323 nM_says 3 := ⟨mlM_says, tb6 161 (by decide +kernel), imM_says, seM_says⟩
theorem lkM_326 : VL "OwedToWindsModel" 326 nM_blowsOf 3 := ⟨mlM_blowsOf, tb6 224 (by decide +kernel), imM_blowsOf, seM_blowsOf⟩
theorem lkM_329 : VL "OwedToWindsModel" 329 nM_of 2 := ⟨mlM_of, tb6 102 (by decide +kernel), imM_of, seM_of⟩
theorem lkM_332 : VL "OwedToWindsModel" 332 nM_nameVillage 3 := ⟨mlM_nameVillage, tb6 236 (by decide +kernel), imM_nameVillage, seM_nameVillage⟩
theorem lkM_335 : Cond.constantLong "OwedToWindsModel" 335 353 ∈ gtb := tb6 213 (by decide +kernel)
theorem lkM_337 : Cond.constantLong "OwedToWindsModel" 337 233 ∈ gtb := tb6 214 (by decide +kernel)
theorem lkM_339 : Cond.constantLong "OwedToWindsModel" 339 30427 ∈ gtb := tb6 215 (by decide +kernel)
theorem lkM_344 : VL "OwedToWindsModel" 344 nM_anew 0 := ⟨mlM_anew, tb6 209 (by decide +kernel), imM_anew, seM_anew⟩
theorem lkM_341 : VL "OwedToWindsModel" 341 nM_weights 0 := ⟨mlM_weights, tb6 205 (by decide +kernel), imM_weights, seM_weights⟩
theorem lkM_353 : FL "OwedToWindsModel" 353 11 26 := ⟨RX11, TX11, 38, rfl, by decide, by decide, tb5 49 (by decide +kernel)⟩
theorem lkM_350 : FL "OwedToWindsModel" 350 11 25 := ⟨RX11, TX11, 38, rfl, by decide, by decide, tb5 48 (by decide +kernel)⟩
theorem lkM_359 : VL "OwedToWindsModel" 359 nM_blowsNow 1 := ⟨mlM_blowsNow, tb6 220 (by decide +kernel), imM_blowsNow, seM_blowsNow⟩
theorem lkM_356 : VL "OwedToWindsModel" 356 nM_isComing 1 := ⟨mlM_isComing, tb6 216 (by decide +kernel), imM_isComing, seM_isComing⟩
theorem lkM_347 : VL "OwedToWindsModel" 347 nM_drawn 0 := ⟨mlM_drawn, tb6 201 (by decide +kernel), imM_drawn, seM_drawn⟩
theorem lkM_368 : VL "OwedToWindsModel" 368 nM_catchOf 3 := ⟨mlM_catchOf, tb7 0 (by decide +kernel), imM_catchOf, seM_catchOf⟩
theorem lkM_365 : FL "OwedToWindsModel" 365 11 27 := ⟨RX11, TX11, 38, rfl, by decide, by decide, tb5 50 (by decide +kernel)⟩
theorem lkM_362 : VL "OwedToWindsModel" 362 nM_takesOf 3 := ⟨mlM_takesOf, tb6 232 (by decide +kernel), imM_takesOf, seM_takesOf⟩
theorem lkM_380 : VL "OwedToWindsModel" 380 nM_write 0 := ⟨mlM_write, tb7 4 (by decide +kernel), imM_write, seM_write⟩
theorem lkM_377 : VL "OwedToWindsModel" 377 nM_takeFrom 1 := ⟨mlM_takeFrom, tb6 228 (by decide +kernel), imM_takeFrom, seM_takeFrom⟩
theorem lkM_374 : VL "OwedToWindsModel" 374 nM_blow 0 := ⟨mlM_blow, tb6 197 (by decide +kernel), imM_blow, seM_blow⟩
theorem lkM_371 : VL "OwedToWindsModel" 371 nM_duesOf 1 := ⟨mlM_duesOf, tb6 153 (by decide +kernel), imM_duesOf, seM_duesOf⟩
theorem lkM_383 : VL "OwedToWindsModel" 383 nM_isHere 1 := ⟨mlM_isHere, tb6 114 (by decide +kernel), imM_isHere, seM_isHere⟩
theorem lkM_392 : VL "OwedToWindsModel" 392 nM_payNow 3 := ⟨mlM_payNow, tb6 126 (by decide +kernel), imM_payNow, seM_payNow⟩
theorem lkM_389 : VL "OwedToWindsModel" 389 nM_keep 0 := ⟨mlM_keep, tb6 122 (by decide +kernel), imM_keep, seM_keep⟩
theorem lkM_386 : VL "OwedToWindsModel" 386 nM_canPay 3 := ⟨mlM_canPay, tb6 110 (by decide +kernel), imM_canPay, seM_canPay⟩
theorem lkM_395 : VL "OwedToWindsModel" 395 nM_mergeNow 2 := ⟨mlM_mergeNow, tb6 134 (by decide +kernel), imM_mergeNow, seM_mergeNow⟩
theorem lkM_398 : FL "OwedToWindsModel" 398 11 28 := ⟨RX11, TX11, 38, rfl, by decide, by decide, tb5 51 (by decide +kernel)⟩
theorem lkM_401 : VL "OwedToWindsModel" 401 nM_pass 0 := ⟨mlM_pass, tb6 149 (by decide +kernel), imM_pass, seM_pass⟩
theorem lkM_404 : VL "OwedToWindsModel" 404 nM_arePassed 1 := ⟨mlM_arePassed, tb6 145 (by decide +kernel), imM_arePassed, seM_arePassed⟩
theorem lkM_419 : VL "OwedToWindsModel" 419 nM_merge 2 := ⟨mlM_merge, tb7 20 (by decide +kernel), imM_merge, seM_merge⟩
theorem lkM_416 : VL "OwedToWindsModel" 416 nM_pay 3 := ⟨mlM_pay, tb7 19 (by decide +kernel), imM_pay, seM_pay⟩
theorem lkM_413 : VL "OwedToWindsModel" 413 nM_way 3 := ⟨mlM_way, tb7 18 (by decide +kernel), imM_way, seM_way⟩
theorem lkM_410 : VL "OwedToWindsModel" 410 nM_village 2 := ⟨mlM_village, tb7 17 (by decide +kernel), imM_village, seM_village⟩
theorem lkM_407 : VL "OwedToWindsModel" 407 nM_wind 3 := ⟨mlM_wind, tb7 16 (by decide +kernel), imM_wind, seM_wind⟩
theorem lkM_422 : VL "OwedToWindsModel" 422 nM_isPlayed 1 := ⟨mlM_isPlayed, tb7 12 (by decide +kernel), imM_isPlayed, seM_isPlayed⟩
theorem lkM_425 : VL "OwedToWindsModel" 425 nM_happens 1 := ⟨mlM_happens, tb7 25 (by decide +kernel), imM_happens, seM_happens⟩
theorem lkM_428 : VL "OwedToWindsModel" 428 nM_shown 0 := ⟨mlM_shown, tb7 53 (by decide +kernel), imM_shown, seM_shown⟩
theorem lkM_431 : VL "OwedToWindsModel" 431 nM_entry 2 := ⟨mlM_entry, tb7 57 (by decide +kernel), imM_entry, seM_entry⟩
theorem lkM_440 : VL "OwedToWindsModel" 440 nM_putBack 0 := ⟨mlM_putBack, tb7 97 (by decide +kernel), imM_putBack, seM_putBack⟩
theorem lkM_437 : VL "OwedToWindsModel" 437 nM_goOn 0 := ⟨mlM_goOn, tb7 93 (by decide +kernel), imM_goOn, seM_goOn⟩
theorem lkM_434 : VL "OwedToWindsModel" 434 nM_setAside 0 := ⟨mlM_setAside, tb7 89 (by decide +kernel), imM_setAside, seM_setAside⟩
theorem lkM_443 : VL "OwedToWindsModel" 443 nM_behind 2 := ⟨mlM_behind, tb7 85 (by decide +kernel), imM_behind, seM_behind⟩
theorem lkM_446 : VL "OwedToWindsModel" 446 nM_takenIn 1 := ⟨mlM_takenIn, tb7 81 (by decide +kernel), imM_takenIn, seM_takenIn⟩
theorem lkM_449 : VL "OwedToWindsModel" 449 nM_isInArrears 0 := ⟨mlM_isInArrears, tb7 113 (by decide +kernel), imM_isInArrears, seM_isInArrears⟩
theorem lkM_452 : Cond.constant "OwedToWindsModel" 452 1000000000 ∈ gtb := tb7 125 (by decide +kernel)
theorem lkM_453 : SL "OwedToWindsModel" 453 nM_common 2 := ⟨mlM_common, tb7 138 (by decide +kernel), stM_common⟩
theorem lkM_458 : SL "OwedToWindsModel" 458 nM_part 3 := ⟨mlM_part, tb7 135 (by decide +kernel), stM_part⟩
theorem lkM_456 : Cond.constantLong "OwedToWindsModel" 456 (-1) ∈ gtb := tb7 134 (by decide +kernel)
theorem lkM_462 : VL "OwedToWindsModel" 462 nM_owedBy 2 := ⟨mlM_owedBy, tb7 145 (by decide +kernel), imM_owedBy, seM_owedBy⟩
theorem lkM_465 : VL "OwedToWindsModel" 465 nM_takenBy 2 := ⟨mlM_takenBy, tb7 149 (by decide +kernel), imM_takenBy, seM_takenBy⟩
theorem lkM_474 : VL "OwedToWindsModel" 474 nM_nextRow 1 := ⟨mlM_nextRow, tb7 164 (by decide +kernel), imM_nextRow, seM_nextRow⟩
theorem lkM_471 : VL "OwedToWindsModel" 471 nM_added 2 := ⟨mlM_added, tb7 160 (by decide +kernel), imM_added, seM_added⟩
theorem lkM_468 : SL "OwedToWindsModel" 468 nM_bits 1 := ⟨mlM_bits, tb7 157 (by decide +kernel), stM_bits⟩
theorem lkM_477 : FL "OwedToWindsModel" 477 11 35 := ⟨RX11, TX11, 38, rfl, by decide, by decide, tb5 58 (by decide +kernel)⟩
theorem lkM_480 : VL "OwedToWindsModel" 480 nM_reached 2 := ⟨mlM_reached, tb7 180 (by decide +kernel), imM_reached, seM_reached⟩
theorem lkM_486 : VL "OwedToWindsModel" 486 nM_arrival 2 := ⟨mlM_arrival, tb7 176 (by decide +kernel), imM_arrival, seM_arrival⟩
theorem lkM_483 : VL "OwedToWindsModel" 483 nM_laySpeeds 0 := ⟨mlM_laySpeeds, tb7 172 (by decide +kernel), imM_laySpeeds, seM_laySpeeds⟩
theorem lkM_489 : VL "OwedToWindsModel" 489 nM_isFitting 2 := ⟨mlM_isFitting, tb7 196 (by decide +kernel), imM_isFitting, seM_isFitting⟩
theorem lkM_492 : VL "OwedToWindsModel" 492 nM_strengthsOf 1 := ⟨mlM_strengthsOf, tb7 192 (by decide +kernel), imM_strengthsOf, seM_strengthsOf⟩
theorem lkM_498 : VL "OwedToWindsModel" 498 nM_answers 1 := ⟨mlM_answers, tb7 212 (by decide +kernel), imM_answers, seM_answers⟩
theorem lkM_495 : VL "OwedToWindsModel" 495 nM_isRead 1 := ⟨mlM_isRead, tb7 208 (by decide +kernel), imM_isRead, seM_isRead⟩
theorem lkM_501 : SL "OwedToWindsModel" 501 nM_paymentOf 2 := ⟨mlM_paymentOf, tb7 232 (by decide +kernel), stM_paymentOf⟩
theorem lkM_507 : VL "OwedToWindsModel" 507 nM_isTorn 3 := ⟨mlM_isTorn, tb7 228 (by decide +kernel), imM_isTorn, seM_isTorn⟩
theorem lkM_504 : VL "OwedToWindsModel" 504 nM_canTear 2 := ⟨mlM_canTear, tb7 224 (by decide +kernel), imM_canTear, seM_canTear⟩
theorem lkM_510 : VL "OwedToWindsModel" 510 nM_layPieces 1 := ⟨mlM_layPieces, tb8 7 (by decide +kernel), imM_layPieces, seM_layPieces⟩
theorem lkC_3 : Cond.methodLink "OwedToWinds$Coins" 3 Lib.objectInit ∈ gtb := tb0 209 (by decide +kernel)
theorem lkC_9 : FL "OwedToWinds$Coins" 9 0 0 := ⟨RX0, TX0, 1, rfl, by decide, by decide, tb0 210 (by decide +kernel)⟩
theorem lkD_3 : Cond.methodLink "OwedToWinds$Days" 3 Lib.objectInit ∈ gtb := tb1 26 (by decide +kernel)
theorem lkD_9 : FL "OwedToWinds$Days" 9 1 2 := ⟨RX1, TX1, 5, rfl, by decide, by decide, tb1 29 (by decide +kernel)⟩
theorem lkD_15 : FL "OwedToWinds$Days" 15 1 3 := ⟨RX1, TX1, 5, rfl, by decide, by decide, tb1 30 (by decide +kernel)⟩
theorem lkD_18 : FL "OwedToWinds$Days" 18 1 4 := ⟨RX1, TX1, 5, rfl, by decide, by decide, tb1 31 (by decide +kernel)⟩
theorem lkD_21 : FL "OwedToWinds$Days" 21 1 0 := ⟨RX1, TX1, 5, rfl, by decide, by decide, tb1 27 (by decide +kernel)⟩
theorem lkD_25 : FL "OwedToWinds$Days" 25 1 1 := ⟨RX1, TX1, 5, rfl, by decide, by decide, tb1 28 (by decide +kernel)⟩
theorem lkD_35 : SL "OwedToWinds$Days" 35 nJ_max 2 := ⟨mlJ_max, tb2 231 (by decide +kernel), stJ_max⟩
theorem lkD_29 : FL "OwedToWinds$Days" 29 9 5 := ⟨RX9, TX9, 18, rfl, by decide, by decide, tb0 53 (by decide +kernel)⟩
theorem lkD_80 : VL "OwedToWinds$Days" 80 nW_writePage 3 := ⟨mlW_writePage, tb3 92 (by decide +kernel), imW_writePage, seW_writePage⟩
theorem lkD_57 : SL "OwedToWinds$Days" 57 nJ_min 2 := ⟨mlJ_min, tb2 230 (by decide +kernel), stJ_min⟩
theorem lkD_77 : VL "OwedToWinds$Days" 77 nL_catchOf 3 := ⟨mlL_catchOf, tb3 88 (by decide +kernel), imL_catchOf, seL_catchOf⟩
theorem lkD_70 : FL "OwedToWinds$Days" 70 9 6 := ⟨RX9, TX9, 18, rfl, by decide, by decide, tb0 58 (by decide +kernel)⟩
theorem lkD_73 : VL "OwedToWinds$Days" 73 nL_takesOf 3 := ⟨mlL_takesOf, tb3 84 (by decide +kernel), imL_takesOf, seL_takesOf⟩
theorem lkD_67 : VL "OwedToWinds$Days" 67 nL_blowsOf 1 := ⟨mlL_blowsOf, tb3 80 (by decide +kernel), imL_blowsOf, seL_blowsOf⟩
theorem lkD_64 : VL "OwedToWinds$Days" 64 nL_comesOf 1 := ⟨mlL_comesOf, tb3 76 (by decide +kernel), imL_comesOf, seL_comesOf⟩
theorem lkD_60 : VL "OwedToWinds$Days" 60 nD_drawnWind 0 := ⟨mlD_drawnWind, tb3 58 (by decide +kernel), imD_drawnWind, seD_drawnWind⟩
theorem lkD_51 : VL "OwedToWinds$Days" 51 nL_duesOf 1 := ⟨mlL_duesOf, tb3 7 (by decide +kernel), imL_duesOf, seL_duesOf⟩
theorem lkD_44 : FL "OwedToWinds$Days" 44 9 4 := ⟨RX9, TX9, 18, rfl, by decide, by decide, tb0 48 (by decide +kernel)⟩
theorem lkD_47 : VL "OwedToWinds$Days" 47 nW_isHere 1 := ⟨mlW_isHere, tb2 195 (by decide +kernel), imW_isHere, seW_isHere⟩
theorem lkD_41 : FL "OwedToWinds$Days" 41 9 0 := ⟨RX9, TX9, 18, rfl, by decide, by decide, tb0 40 (by decide +kernel)⟩
theorem lkD_90 : VL "OwedToWinds$Days" 90 nW_weightOf 1 := ⟨mlW_weightOf, tb3 75 (by decide +kernel), imW_weightOf, seW_weightOf⟩
theorem lkD_87 : VL "OwedToWinds$Days" 87 nD_drawX 0 := ⟨mlD_drawX, tb3 71 (by decide +kernel), imD_drawX, seD_drawX⟩
theorem lkD_84 : VL "OwedToWinds$Days" 84 nW_weightOfAll 0 := ⟨mlW_weightOfAll, tb3 62 (by decide +kernel), imW_weightOfAll, seW_weightOfAll⟩
theorem lkD_100 : VL "OwedToWinds$Days" 100 nD_payNow 3 := ⟨mlD_payNow, tb2 210 (by decide +kernel), imD_payNow, seD_payNow⟩
theorem lkD_97 : VL "OwedToWinds$Days" 97 nW_keepStep 0 := ⟨mlW_keepStep, tb2 199 (by decide +kernel), imW_keepStep, seW_keepStep⟩
theorem lkD_93 : VL "OwedToWinds$Days" 93 nD_canPay 3 := ⟨mlD_canPay, tb2 190 (by decide +kernel), imD_canPay, seD_canPay⟩
theorem lkD_103 : VL "OwedToWinds$Days" 103 nW_isVillage 1 := ⟨mlW_isVillage, tb2 194 (by decide +kernel), imW_isVillage, seW_isVillage⟩
theorem lkD_110 : VL "OwedToWinds$Days" 110 nD_mergeNow 2 := ⟨mlD_mergeNow, tb2 226 (by decide +kernel), imD_mergeNow, seD_mergeNow⟩
theorem lkD_106 : VL "OwedToWinds$Days" 106 nD_canMerge 2 := ⟨mlD_canMerge, tb2 222 (by decide +kernel), imD_canMerge, seD_canMerge⟩
theorem lkD_124 : VL "OwedToWinds$Days" 124 nD_pass 0 := ⟨mlD_pass, tb3 114 (by decide +kernel), imD_pass, seD_pass⟩
theorem lkD_121 : VL "OwedToWinds$Days" 121 nW_daysLeft 0 := ⟨mlW_daysLeft, tb3 113 (by decide +kernel), imW_daysLeft, seW_daysLeft⟩
theorem lkD_118 : VL "OwedToWinds$Days" 118 nD_mergeByChance 1 := ⟨mlD_mergeByChance, tb3 127 (by decide +kernel), imD_mergeByChance, seD_mergeByChance⟩
theorem lkD_114 : VL "OwedToWinds$Days" 114 nD_payByChance 1 := ⟨mlD_payByChance, tb3 123 (by decide +kernel), imD_payByChance, seD_payByChance⟩
theorem lkD_135 : VL "OwedToWinds$Days" 135 nD_perform 4 := ⟨mlD_perform, tb3 104 (by decide +kernel), imD_perform, seD_perform⟩
