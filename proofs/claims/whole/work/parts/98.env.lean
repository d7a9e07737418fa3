/-! ===== what the start gives: the enum's constants, the texts, what a throw needs ===== -/
abbrev zpre : Cond := Jvm.Cond.and given_1 narrow_1
theorem ze_1 : ∀ i, i < 24 → Cond.laysStatic "HalfShop$Word" (fx_nm.getD i "") "LHalfShop$Word;" ∈ lw_tbl := by decide +kernel
theorem ze_2 : ∀ i, i < 24 → Cond.exactly (.static "HalfShop$Word" (fx_nm.getD i "") "LHalfShop$Word;") "HalfShop$Word" ∈ flatC zpre := by decide +kernel
theorem ze_3 : ∀ i, i < 24 → Cond.eq (.field (.static "HalfShop$Word" (fx_nm.getD i "") "LHalfShop$Word;") "HalfShop$Word" "reserved" "Z") (.int (([1, 1, 1, 1, 1, 1, 1, 1, 1, 1, 1, 1, 1, 1, 1, 1, 1, 1, 1, 1, 0, 0, 0, 0] : List Int32).getD i 0)) ∈ flatC zpre := by decide +kernel
theorem ze_4 : ∀ i, i < 24 → Cond.eq (.field (.static "HalfShop$Word" (fx_nm.getD i "") "LHalfShop$Word;") "HalfShop$Word" "key" "J") (.long (fx_keys.getD i 0)) ∈ flatC zpre := by decide +kernel
theorem ze_5 : ∀ i, i < 24 → Cond.eq (.elem (.static "HalfShop$Word" "ALL" "[LHalfShop$Word;") (.int (Int32.ofNat i))) (.static "HalfShop$Word" (fx_nm.getD i "") "LHalfShop$Word;") ∈ flatC zpre := by decide +kernel
def ze_r : List Nat := [0, 5, 6, 7, 8, 9, 10, 11, 19, 20, 21, 22, 23, 1, 2, 3, 4, 16, 17, 18, 12, 13, 14, 15]
theorem ze_6_0 : ∀ j, j < 24 → ze_r.getD 0 0 < ze_r.getD j 0 → (flatC zpre)[([0, 72, 81, 91, 102, 114, 127, 141, 289, 312, 336, 361, 387, 46, 51, 57, 64, 226, 246, 267, 156, 172, 189, 207] : List Nat).getD j 0]? = some (Cond.not (.eq (.static "HalfShop$Word" (fx_nm.getD 0 "") "LHalfShop$Word;") (.static "HalfShop$Word" (fx_nm.getD j "") "LHalfShop$Word;"))) := by decide +kernel
theorem ze_6_1 : ∀ j, j < 24 → ze_r.getD 1 0 < ze_r.getD j 0 → (flatC zpre)[([0, 0, 86, 96, 107, 119, 132, 146, 294, 317, 341, 366, 392, 0, 0, 0, 0, 231, 251, 272, 161, 177, 194, 212] : List Nat).getD j 0]? = some (Cond.not (.eq (.static "HalfShop$Word" (fx_nm.getD 1 "") "LHalfShop$Word;") (.static "HalfShop$Word" (fx_nm.getD j "") "LHalfShop$Word;"))) := by decide +kernel
theorem ze_6_2 : ∀ j, j < 24 → ze_r.getD 2 0 < ze_r.getD j 0 → (flatC zpre)[([0, 0, 0, 97, 108, 120, 133, 147, 295, 318, 342, 367, 393, 0, 0, 0, 0, 232, 252, 273, 162, 178, 195, 213] : List Nat).getD j 0]? = some (Cond.not (.eq (.static "HalfShop$Word" (fx_nm.getD 2 "") "LHalfShop$Word;") (.static "HalfShop$Word" (fx_nm.getD j "") "LHalfShop$Word;"))) := by decide +kernel
theorem ze_6_3 : ∀ j, j < 24 → ze_r.getD 3 0 < ze_r.getD j 0 → (flatC zpre)[([0, 0, 0, 0, 109, 121, 134, 148, 296, 319, 343, 368, 394, 0, 0, 0, 0, 233, 253, 274, 163, 179, 196, 214] : List Nat).getD j 0]? = some (Cond.not (.eq (.static "HalfShop$Word" (fx_nm.getD 3 "") "LHalfShop$Word;") (.static "HalfShop$Word" (fx_nm.getD j "") "LHalfShop$Word;"))) := by decide +kernel
theorem ze_6_4 : ∀ j, j < 24 → ze_r.getD 4 0 < ze_r.getD j 0 → (flatC zpre)[([0, 0, 0, 0, 0, 122, 135, 149, 297, 320, 344, 369, 395, 0, 0, 0, 0, 234, 254, 275, 164, 180, 197, 215] : List Nat).getD j 0]? = some (Cond.not (.eq (.static "HalfShop$Word" (fx_nm.getD 4 "") "LHalfShop$Word;") (.static "HalfShop$Word" (fx_nm.getD j "") "LHalfShop$Word;"))) := by decide +kernel
theorem ze_6_5 : ∀ j, j < 24 → ze_r.getD 5 0 < ze_r.getD j 0 → (flatC zpre)[([0, 0, 0, 0, 0, 0, 136, 150, 298, 321, 345, 370, 396, 0, 0, 0, 0, 235, 255, 276, 165, 181, 198, 216] : List Nat).getD j 0]? = some (Cond.not (.eq (.static "HalfShop$Word" (fx_nm.getD 5 "") "LHalfShop$Word;") (.static "HalfShop$Word" (fx_nm.getD j "") "LHalfShop$Word;"))) := by decide +kernel
theorem ze_6_6 : ∀ j, j < 24 → ze_r.getD 6 0 < ze_r.getD j 0 → (flatC zpre)[([0, 0, 0, 0, 0, 0, 0, 151, 299, 322, 346, 371, 397, 0, 0, 0, 0, 236, 256, 277, 166, 182, 199, 217] : List Nat).getD j 0]? = some (Cond.not (.eq (.static "HalfShop$Word" (fx_nm.getD 6 "") "LHalfShop$Word;") (.static "HalfShop$Word" (fx_nm.getD j "") "LHalfShop$Word;"))) := by decide +kernel
theorem ze_6_7 : ∀ j, j < 24 → ze_r.getD 7 0 < ze_r.getD j 0 → (flatC zpre)[([0, 0, 0, 0, 0, 0, 0, 0, 300, 323, 347, 372, 398, 0, 0, 0, 0, 237, 257, 278, 167, 183, 200, 218] : List Nat).getD j 0]? = some (Cond.not (.eq (.static "HalfShop$Word" (fx_nm.getD 7 "") "LHalfShop$Word;") (.static "HalfShop$Word" (fx_nm.getD j "") "LHalfShop$Word;"))) := by decide +kernel
theorem ze_6_8 : ∀ j, j < 24 → ze_r.getD 8 0 < ze_r.getD j 0 → (flatC zpre)[([0, 0, 0, 0, 0, 0, 0, 0, 0, 331, 355, 380, 406, 0, 0, 0, 0, 0, 0, 0, 0, 0, 0, 0] : List Nat).getD j 0]? = some (Cond.not (.eq (.static "HalfShop$Word" (fx_nm.getD 8 "") "LHalfShop$Word;") (.static "HalfShop$Word" (fx_nm.getD j "") "LHalfShop$Word;"))) := by decide +kernel
theorem ze_6_9 : ∀ j, j < 24 → ze_r.getD 9 0 < ze_r.getD j 0 → (flatC zpre)[([0, 0, 0, 0, 0, 0, 0, 0, 0, 0, 356, 381, 407, 0, 0, 0, 0, 0, 0, 0, 0, 0, 0, 0] : List Nat).getD j 0]? = some (Cond.not (.eq (.static "HalfShop$Word" (fx_nm.getD 9 "") "LHalfShop$Word;") (.static "HalfShop$Word" (fx_nm.getD j "") "LHalfShop$Word;"))) := by decide +kernel
theorem ze_6_10 : ∀ j, j < 24 → ze_r.getD 10 0 < ze_r.getD j 0 → (flatC zpre)[([0, 0, 0, 0, 0, 0, 0, 0, 0, 0, 0, 382, 408, 0, 0, 0, 0, 0, 0, 0, 0, 0, 0, 0] : List Nat).getD j 0]? = some (Cond.not (.eq (.static "HalfShop$Word" (fx_nm.getD 10 "") "LHalfShop$Word;") (.static "HalfShop$Word" (fx_nm.getD j "") "LHalfShop$Word;"))) := by decide +kernel
theorem ze_6_11 : ∀ j, j < 24 → ze_r.getD 11 0 < ze_r.getD j 0 → (flatC zpre)[([0, 0, 0, 0, 0, 0, 0, 0, 0, 0, 0, 0, 409, 0, 0, 0, 0, 0, 0, 0, 0, 0, 0, 0] : List Nat).getD j 0]? = some (Cond.not (.eq (.static "HalfShop$Word" (fx_nm.getD 11 "") "LHalfShop$Word;") (.static "HalfShop$Word" (fx_nm.getD j "") "LHalfShop$Word;"))) := by decide +kernel
theorem ze_6_12 : ∀ j, j < 24 → ze_r.getD 12 0 < ze_r.getD j 0 → (flatC zpre)[([0, 0, 0, 0, 0, 0, 0, 0, 0, 0, 0, 0, 0, 0, 0, 0, 0, 0, 0, 0, 0, 0, 0, 0] : List Nat).getD j 0]? = some (Cond.not (.eq (.static "HalfShop$Word" (fx_nm.getD 12 "") "LHalfShop$Word;") (.static "HalfShop$Word" (fx_nm.getD j "") "LHalfShop$Word;"))) := by decide +kernel
theorem ze_6_13 : ∀ j, j < 24 → ze_r.getD 13 0 < ze_r.getD j 0 → (flatC zpre)[([0, 73, 82, 92, 103, 115, 128, 142, 290, 313, 337, 362, 388, 0, 52, 58, 65, 227, 247, 268, 157, 173, 190, 208] : List Nat).getD j 0]? = some (Cond.not (.eq (.static "HalfShop$Word" (fx_nm.getD 13 "") "LHalfShop$Word;") (.static "HalfShop$Word" (fx_nm.getD j "") "LHalfShop$Word;"))) := by decide +kernel
theorem ze_6_14 : ∀ j, j < 24 → ze_r.getD 14 0 < ze_r.getD j 0 → (flatC zpre)[([0, 74, 83, 93, 104, 116, 129, 143, 291, 314, 338, 363, 389, 0, 0, 59, 66, 228, 248, 269, 158, 174, 191, 209] : List Nat).getD j 0]? = some (Cond.not (.eq (.static "HalfShop$Word" (fx_nm.getD 14 "") "LHalfShop$Word;") (.static "HalfShop$Word" (fx_nm.getD j "") "LHalfShop$Word;"))) := by decide +kernel
theorem ze_6_15 : ∀ j, j < 24 → ze_r.getD 15 0 < ze_r.getD j 0 → (flatC zpre)[([0, 75, 84, 94, 105, 117, 130, 144, 292, 315, 339, 364, 390, 0, 0, 0, 67, 229, 249, 270, 159, 175, 192, 210] : List Nat).getD j 0]? = some (Cond.not (.eq (.static "HalfShop$Word" (fx_nm.getD 15 "") "LHalfShop$Word;") (.static "HalfShop$Word" (fx_nm.getD j "") "LHalfShop$Word;"))) := by decide +kernel
theorem ze_6_16 : ∀ j, j < 24 → ze_r.getD 16 0 < ze_r.getD j 0 → (flatC zpre)[([0, 76, 85, 95, 106, 118, 131, 145, 293, 316, 340, 365, 391, 0, 0, 0, 0, 230, 250, 271, 160, 176, 193, 211] : List Nat).getD j 0]? = some (Cond.not (.eq (.static "HalfShop$Word" (fx_nm.getD 16 "") "LHalfShop$Word;") (.static "HalfShop$Word" (fx_nm.getD j "") "LHalfShop$Word;"))) := by decide +kernel
theorem ze_6_17 : ∀ j, j < 24 → ze_r.getD 17 0 < ze_r.getD j 0 → (flatC zpre)[([0, 0, 0, 0, 0, 0, 0, 0, 305, 328, 352, 377, 403, 0, 0, 0, 0, 0, 262, 283, 0, 0, 0, 0] : List Nat).getD j 0]? = some (Cond.not (.eq (.static "HalfShop$Word" (fx_nm.getD 17 "") "LHalfShop$Word;") (.static "HalfShop$Word" (fx_nm.getD j "") "LHalfShop$Word;"))) := by decide +kernel
theorem ze_6_18 : ∀ j, j < 24 → ze_r.getD 18 0 < ze_r.getD j 0 → (flatC zpre)[([0, 0, 0, 0, 0, 0, 0, 0, 306, 329, 353, 378, 404, 0, 0, 0, 0, 0, 0, 284, 0, 0, 0, 0] : List Nat).getD j 0]? = some (Cond.not (.eq (.static "HalfShop$Word" (fx_nm.getD 18 "") "LHalfShop$Word;") (.static "HalfShop$Word" (fx_nm.getD j "") "LHalfShop$Word;"))) := by decide +kernel
theorem ze_6_19 : ∀ j, j < 24 → ze_r.getD 19 0 < ze_r.getD j 0 → (flatC zpre)[([0, 0, 0, 0, 0, 0, 0, 0, 307, 330, 354, 379, 405, 0, 0, 0, 0, 0, 0, 0, 0, 0, 0, 0] : List Nat).getD j 0]? = some (Cond.not (.eq (.static "HalfShop$Word" (fx_nm.getD 19 "") "LHalfShop$Word;") (.static "HalfShop$Word" (fx_nm.getD j "") "LHalfShop$Word;"))) := by decide +kernel
theorem ze_6_20 : ∀ j, j < 24 → ze_r.getD 20 0 < ze_r.getD j 0 → (flatC zpre)[([0, 0, 0, 0, 0, 0, 0, 0, 301, 324, 348, 373, 399, 0, 0, 0, 0, 238, 258, 279, 0, 184, 201, 219] : List Nat).getD j 0]? = some (Cond.not (.eq (.static "HalfShop$Word" (fx_nm.getD 20 "") "LHalfShop$Word;") (.static "HalfShop$Word" (fx_nm.getD j "") "LHalfShop$Word;"))) := by decide +kernel
theorem ze_6_21 : ∀ j, j < 24 → ze_r.getD 21 0 < ze_r.getD j 0 → (flatC zpre)[([0, 0, 0, 0, 0, 0, 0, 0, 302, 325, 349, 374, 400, 0, 0, 0, 0, 239, 259, 280, 0, 0, 202, 220] : List Nat).getD j 0]? = some (Cond.not (.eq (.static "HalfShop$Word" (fx_nm.getD 21 "") "LHalfShop$Word;") (.static "HalfShop$Word" (fx_nm.getD j "") "LHalfShop$Word;"))) := by decide +kernel
theorem ze_6_22 : ∀ j, j < 24 → ze_r.getD 22 0 < ze_r.getD j 0 → (flatC zpre)[([0, 0, 0, 0, 0, 0, 0, 0, 303, 326, 350, 375, 401, 0, 0, 0, 0, 240, 260, 281, 0, 0, 0, 221] : List Nat).getD j 0]? = some (Cond.not (.eq (.static "HalfShop$Word" (fx_nm.getD 22 "") "LHalfShop$Word;") (.static "HalfShop$Word" (fx_nm.getD j "") "LHalfShop$Word;"))) := by decide +kernel
theorem ze_6_23 : ∀ j, j < 24 → ze_r.getD 23 0 < ze_r.getD j 0 → (flatC zpre)[([0, 0, 0, 0, 0, 0, 0, 0, 304, 327, 351, 376, 402, 0, 0, 0, 0, 241, 261, 282, 0, 0, 0, 0] : List Nat).getD j 0]? = some (Cond.not (.eq (.static "HalfShop$Word" (fx_nm.getD 23 "") "LHalfShop$Word;") (.static "HalfShop$Word" (fx_nm.getD j "") "LHalfShop$Word;"))) := by decide +kernel
theorem ze_6 : ∀ i, i < 24 → ∀ j, j < 24 → ze_r.getD i 0 < ze_r.getD j 0 → Cond.not (.eq (.static "HalfShop$Word" (fx_nm.getD i "") "LHalfShop$Word;") (.static "HalfShop$Word" (fx_nm.getD j "") "LHalfShop$Word;")) ∈ flatC zpre := by
  intro i hi j hj h
  have hc : i = 0 ∨ i = 1 ∨ i = 2 ∨ i = 3 ∨ i = 4 ∨ i = 5 ∨ i = 6 ∨ i = 7 ∨ i = 8 ∨ i = 9 ∨ i = 10 ∨ i = 11 ∨ i = 12 ∨ i = 13 ∨ i = 14 ∨ i = 15 ∨ i = 16 ∨ i = 17 ∨ i = 18 ∨ i = 19 ∨ i = 20 ∨ i = 21 ∨ i = 22 ∨ i = 23 := by omega
  rcases hc with rfl | rfl | rfl | rfl | rfl | rfl | rfl | rfl | rfl | rfl | rfl | rfl | rfl | rfl | rfl | rfl | rfl | rfl | rfl | rfl | rfl | rfl | rfl | rfl
  · exact List.mem_of_getElem? (ze_6_0 j hj h)
  · exact List.mem_of_getElem? (ze_6_1 j hj h)
  · exact List.mem_of_getElem? (ze_6_2 j hj h)
  · exact List.mem_of_getElem? (ze_6_3 j hj h)
  · exact List.mem_of_getElem? (ze_6_4 j hj h)
  · exact List.mem_of_getElem? (ze_6_5 j hj h)
  · exact List.mem_of_getElem? (ze_6_6 j hj h)
  · exact List.mem_of_getElem? (ze_6_7 j hj h)
  · exact List.mem_of_getElem? (ze_6_8 j hj h)
  · exact List.mem_of_getElem? (ze_6_9 j hj h)
  · exact List.mem_of_getElem? (ze_6_10 j hj h)
  · exact List.mem_of_getElem? (ze_6_11 j hj h)
  · exact List.mem_of_getElem? (ze_6_12 j hj h)
  · exact List.mem_of_getElem? (ze_6_13 j hj h)
  · exact List.mem_of_getElem? (ze_6_14 j hj h)
  · exact List.mem_of_getElem? (ze_6_15 j hj h)
  · exact List.mem_of_getElem? (ze_6_16 j hj h)
  · exact List.mem_of_getElem? (ze_6_17 j hj h)
  · exact List.mem_of_getElem? (ze_6_18 j hj h)
  · exact List.mem_of_getElem? (ze_6_19 j hj h)
  · exact List.mem_of_getElem? (ze_6_20 j hj h)
  · exact List.mem_of_getElem? (ze_6_21 j hj h)
  · exact List.mem_of_getElem? (ze_6_22 j hj h)
  · exact List.mem_of_getElem? (ze_6_23 j hj h)
theorem ze_6r : ∀ i, i < 24 → ∀ j, j < 24 → ze_r.getD i 0 = ze_r.getD j 0 → i = j := by decide +kernel
theorem ze_7 : ∀ j, j < 8 → Cond.eq (.elem (.field (.string "HalfShop$Tokens" 76) "java/lang/String" "value" "[B") (.int (Int32.ofNat j))) (.int (([40, 41, 60, 61, 43, 45, 42, 59] : List Int32).getD j 0)) ∈ flatC zpre := by decide +kernel
section ZEN
variable {p : Program} {s : State} {m : MethodId} {meth : Method} {c : Code} {b L : Nat} {xs : Nat → Int32}
theorem ze_all (C0 : lw_At p s m meth c b L xs) : ∃ ec sa : Nat → Nat, fx_E ec (zAL s) s s.heap ∧ vq_E sa (zAL s) s s.heap := by
  obtain ⟨-, -, -, -, -, hts, -, -, -, hgv⟩ := C0
  have hs := flat_of_before _ hgv
  have hA : ∀ a : Nat, a < s.heap.size → ¬ zAL s a := fun a h => Nat.not_le.mpr h
  obtain ⟨a1, hEn, hev⟩ := va_Enof2 (E := "HalfShop$Word") (d := "LHalfShop$Word;") (nm := fx_nm) (F := fx_F) (A := zAL s) (fun i hi => hts _ (ze_1 i hi)) (hts _ (by decide +kernel)) (fun i hi => hs _ (ze_2 i hi)) (fun q hq i hi => by
      rw [List.mem_singleton.mp hq]
      exact hs _ (ze_3 i hi)) (fun i j hi hj hne => by
      rcases Nat.lt_trichotomy (ze_r.getD i 0) (ze_r.getD j 0) with h | h | h
      · exact Or.inl (hs _ (ze_6 i hi j hj h))
      · exact absurd (ze_6r i hi j hj h) hne
      · exact Or.inr (hs _ (ze_6 j hj i hi h))) hA
  have hEf := va_Efof (A := zAL s) (N := 24) (o := "HalfShop$Word") (n := "key") (d := "J") (v := fun k => .long (fx_keys.getD k 0)) (tm := fun i => .long (fx_keys.getD i 0)) hev (fun i hi => hs _ (ze_4 i hi)) (fun i hi => rfl) hA
  obtain ⟨t, ht, hT⟩ := va_Tof (A := zAL s) (tm := .static "HalfShop$Word" "ALL" "[LHalfShop$Word;") (ty := .object "HalfShop$Word") (N := 24) (f := fun j => .ref (a1 j)) (by decide) (hs _ (by decide +kernel)) (va_eqv (u := .int 24) (hs _ (by decide +kernel)) rfl) (fun j hj => va_eqv (hs _ (ze_5 j hj)) (hev j hj)) hA
  have hZ1 := va_Zof (A := zAL s) (C := "HalfShop$Word") (n := "ALL") (d := "[LHalfShop$Word;") (hts _ (by decide +kernel)) (hts _ (by decide +kernel)) ht hA
  obtain ⟨aK, aV, hS, hK⟩ := vk_Sof (A := zAL s) (args := #[Value.ref b]) (N := 1) (tm := fun _ => .string "HalfShop$Tokens" 76) (len := [8]) (byt := [[40, 41, 60, 61, 43, 45, 42, 59]]) (fun i hi => by
      rw [show i = 0 by omega]; decide) (fun i hi => hs _ (by decide +kernel)) (fun i hi => hs _ (by decide +kernel)) (fun i hi => hs _ (by decide +kernel)) (fun i hi => by
      rw [show i = 0 by omega]
      exact hs _ (by decide +kernel)) (fun i hi j hj => by
      cases (show i = 0 by omega)
      exact hs _ (ze_7 j hj)) (fun i j hi hj hne => absurd (by omega : i = j) hne) hA
  have hZ2 := va_Zof (A := zAL s) (C := "java/lang/String") (n := "COMPACT_STRINGS") (d := "Z") (v := .int 1) (hts _ (by decide +kernel)) (hts _ (by decide +kernel)) (va_eqv (u := .int 1) (hs _ (by decide +kernel)) rfl) hA
  obtain ⟨s0, _, _, _, hs0, -⟩ := Cond.exactly_spec (show (Cond.exactly (.string "HalfShop" 286) "java/lang/String").holds #[Value.ref b] s none s [] = true from hs _ (by decide +kernel))
  obtain ⟨s1, _, _, _, hs1, -⟩ := Cond.exactly_spec (show (Cond.exactly (.string "HalfShop" 295) "java/lang/String").holds #[Value.ref b] s none s [] = true from hs _ (by decide +kernel))
  have e0 : ∀ i, i < 24 → (fun k => if k < 24 then a1 k else if k = 24 then t else if k = 25 then aK 0 else aV 0) i = a1 i := fun i hi => if_pos hi
  refine ⟨fun k => if k < 24 then a1 k else if k = 24 then t else if k = 25 then aK 0 else aV 0, fun k => if k = 0 then s0 else s1, ⟨⟨fun i hi => ?_, fun i j hi hj he => ?_⟩, fun i hi => ?_, hZ1, ?_, ⟨fun i hi => ?_, fun i j hi hj _ => by omega⟩, hZ2, vk_R.of (A := #[Value.ref b]) (hts _ (by decide +kernel)) (hK 0 (by decide)), va_Nw.of rfl (hts _ (by decide +kernel)), va_Nw.of rfl (hts _ (by decide +kernel))⟩, ⟨va_Nw.of rfl (hts _ (by decide +kernel)), va_Nw.of rfl (hts _ (by decide +kernel)), va_Nw.of rfl (hts _ (by decide +kernel)), va_Nw.of rfl (hts _ (by decide +kernel))⟩, vx_Zqof (hts _ (by decide +kernel)) (hts _ (by decide +kernel)) (hs _ (by decide +kernel)) hA, vx_Zqof (hts _ (by decide +kernel)) (hts _ (by decide +kernel)) (hs _ (by decide +kernel)) hA, vk_R.of (A := #[Value.ref b]) (hts _ (by decide +kernel)) hs0, vk_R.of (A := #[Value.ref b]) (hts _ (by decide +kernel)) hs1⟩
  · rw [e0 i hi]; exact hEn.1 i hi
  · rw [e0 i hi, e0 j hj] at he; exact hEn.2 i j hi hj he
  · rw [e0 i hi]; exact hEf i hi
  · obtain ⟨cell, g1, g2, g3, g4, g5, g6, g7⟩ := hT
    exact ⟨cell, g1, g2, g3, g4, g5, fun j hj => (g6 j hj).trans (congrArg (fun z => some (Value.ref z)) (e0 j hj).symm), g7⟩
  · have h0 : i = 0 := by omega
    subst h0
    exact hS.1 0 hi
end ZEN
