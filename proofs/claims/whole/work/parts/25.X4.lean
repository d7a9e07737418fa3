set_option maxHeartbeats 4000000 in
set_option maxRecDepth 100000 in
theorem ctX2_stepHere (l : Launch) {a1 : Int32} {σ : FH} {v : Int32} (hf : fX2_stepHere a1 σ = some v) : fx_Mi l yX2_stepHere cX2_stepHere 2 (some .int) (1) LX (fun ad ec => [.ref (ad 2), .int a1]) σ v σ := by
  unfold fX2_stepHere at hf
  refine fx_mi' (own := RX2) rfl (by decide +kernel) ?_
  intro p e s m args below meth c D cy ad ec A hC hr hk hP hS
  have hx := hC.1
  have hb := hC.2.1
  have hl := lv_entry ([.ref (ad 2), .int a1]) (n := 2) (Nat.le_of_ble_eq_true rfl)
  show W _ _ _ _ _ _ _ _ _ _ _ _ _ _ _ (entryFrame m ([.ref (ad 2), .int a1] : List Value).toArray 2)
  rw [lg_entry_eq]
  generalize (lg_sl ([.ref (ad 2), .int a1]) ++ List.replicate (2 - (lg_sl ([.ref (ad 2), .int a1])).length) Slot.unset).toArray = ls at hl ⊢
  have hl : lv_has ls 2 [(0, .ref (ad 2)), (1, .int a1)] := hl
  have main : ∀ (H : Heap) (locs : List Loc) (ls : Array Slot), fx_P D cy LX ad σ H → va_S A s.heap H locs → lv_has ls 2 [(0, .ref (ad 2)), (1, .int a1)] → W p l e (fx_R (1)) s m args below meth c H locs 0 0 (fx_Qi D cy LX ad A below args s v σ) (F0 m 0 ls []) := by
    intro H locs ls hP hS hl
    refine lv_iload_n hx hb dX2_stepHere_0 rfl (lv_at hl 1 rfl) ?_
    by_cases c1 : a1 = 0
    · replace hf := fx_it c1 hf
      refine lv_tableIn (off := 27) (tgt := 28) hx hb dX2_stepHere_1 (by rw [c1]; decide) (by rw [c1]; decide) (by rw [c1]; rfl) (by decide) ?_
      refine lv_aload_n hx hb dX2_stepHere_28 rfl (lv_at hl 0 rfl) ?_
      refine gf_X2_9 (v := .ref (ad 3)) hC hP kX_2 rfl dX2_stepHere_29 ?_
      refine fx_gete hC hS 18 (by decide) rfl kFw_X2_68 dX2_stepHere_32 ?_
      obtain ⟨r3, hc2, hf⟩ := fxBP_e hf
      refine fx_ci hC hS (fx_runV (i := 3) (As := [.ref (ec 18)]) (rest := []) hC hP hS (ctX9_isWord l hc2 D cy ad ec _) kX_3 (by decide) rfl kMV_X2_48 kC_X9_isWord hd_X9_isWord rfl ⟨(Nat.le_of_ble_eq_true rfl), (Nat.le_of_ble_eq_true rfl)⟩ ⟨Nat.le_refl 0, Nat.le_refl 0⟩ hl.1 (Nat.le_of_ble_eq_true rfl) rfl dX2_stepHere_35) (fun H locs hP hS => ?_)
      refine lv_if_eq (tgt := 46) hx hb dX2_stepHere_38 (by decide) (fun c5 => ?_) (fun c5 => ?_)
      · replace hf := fx_it c5 hf
        refine lv_aload_n hx hb dX2_stepHere_46 rfl (lv_at hl 0 rfl) ?_
        refine gf_X2_9 (v := .ref (ad 3)) hC hP kX_2 rfl dX2_stepHere_47 ?_
        refine fx_gete hC hS 19 (by decide) rfl kFw_X2_71 dX2_stepHere_50 ?_
        obtain ⟨r7, hc6, hf⟩ := fxBP_e hf
        refine fx_ci hC hS (fx_runV (i := 3) (As := [.ref (ec 19)]) (rest := []) hC hP hS (ctX9_isWord l hc6 D cy ad ec _) kX_3 (by decide) rfl kMV_X2_48 kC_X9_isWord hd_X9_isWord rfl ⟨(Nat.le_of_ble_eq_true rfl), (Nat.le_of_ble_eq_true rfl)⟩ ⟨Nat.le_refl 0, Nat.le_refl 0⟩ hl.1 (Nat.le_of_ble_eq_true rfl) rfl dX2_stepHere_53) (fun H locs hP hS => ?_)
        refine lv_if_eq (tgt := 64) hx hb dX2_stepHere_56 (by decide) (fun c9 => ?_) (fun c9 => ?_)
        · replace hf := fx_it c9 hf
          refine lv_iconst hx hb dX2_stepHere_64 ki_0 ?_
          exact fx_iretp hf hC hr hk hP hS dX2_stepHere_65
        · replace hf := fx_ie c9 hf
          refine lv_bipush hx hb dX2_stepHere_59 kb_m7 ?_
          refine lv_goto (tgt := 65) hx hb dX2_stepHere_61 (by decide) ?_
          exact fx_iretp hf hC hr hk hP hS dX2_stepHere_65
      · replace hf := fx_ie c5 hf
        refine lv_bipush hx hb dX2_stepHere_41 kb_m6 ?_
        refine lv_goto (tgt := 65) hx hb dX2_stepHere_43 (by decide) ?_
        exact fx_iretp hf hC hr hk hP hS dX2_stepHere_65
    replace hf := fx_ie c1 hf
    by_cases c10 : a1 = 1
    · replace hf := fx_it c10 hf
      refine lv_tableIn (off := 65) (tgt := 66) hx hb dX2_stepHere_1 (by rw [c10]; decide) (by rw [c10]; decide) (by rw [c10]; rfl) (by decide) ?_
      refine lv_aload_n hx hb dX2_stepHere_66 rfl (lv_at hl 0 rfl) ?_
      refine gf_X2_9 (v := .ref (ad 3)) hC hP kX_2 rfl dX2_stepHere_67 ?_
      refine lv_bipush hx hb dX2_stepHere_70 kb_60 ?_
      obtain ⟨r12, hc11, hf⟩ := fxBP_e hf
      refine fx_ci hC hS (fx_runV (i := 3) (As := [.int 60]) (rest := []) hC hP hS (ctX9_isSign l hc11 D cy ad ec _) kX_3 (by decide) rfl kMV_X2_52 kC_X9_isSign hd_X9_isSign rfl ⟨(Nat.le_of_ble_eq_true rfl), (Nat.le_of_ble_eq_true rfl)⟩ ⟨Nat.le_refl 0, Nat.le_refl 0⟩ hl.1 (Nat.le_of_ble_eq_true rfl) rfl dX2_stepHere_72) (fun H locs hP hS => ?_)
      refine lv_if_eq (tgt := 83) hx hb dX2_stepHere_75 (by decide) (fun c14 => ?_) (fun c14 => ?_)
      · replace hf := fx_it c14 hf
        refine lv_aload_n hx hb dX2_stepHere_83 rfl (lv_at hl 0 rfl) ?_
        refine gf_X2_9 (v := .ref (ad 3)) hC hP kX_2 rfl dX2_stepHere_84 ?_
        refine lv_bipush hx hb dX2_stepHere_87 kb_61 ?_
        obtain ⟨r16, hc15, hf⟩ := fxBP_e hf
        refine fx_ci hC hS (fx_runV (i := 3) (As := [.int 61]) (rest := []) hC hP hS (ctX9_isSign l hc15 D cy ad ec _) kX_3 (by decide) rfl kMV_X2_52 kC_X9_isSign hd_X9_isSign rfl ⟨(Nat.le_of_ble_eq_true rfl), (Nat.le_of_ble_eq_true rfl)⟩ ⟨Nat.le_refl 0, Nat.le_refl 0⟩ hl.1 (Nat.le_of_ble_eq_true rfl) rfl dX2_stepHere_89) (fun H locs hP hS => ?_)
        refine lv_if_eq (tgt := 100) hx hb dX2_stepHere_92 (by decide) (fun c18 => ?_) (fun c18 => ?_)
        · replace hf := fx_it c18 hf
          refine lv_iconst hx hb dX2_stepHere_100 ki_0 ?_
          exact fx_iretp hf hC hr hk hP hS dX2_stepHere_101
        · replace hf := fx_ie c18 hf
          refine lv_bipush hx hb dX2_stepHere_95 kb_m9 ?_
          refine lv_goto (tgt := 101) hx hb dX2_stepHere_97 (by decide) ?_
          exact fx_iretp hf hC hr hk hP hS dX2_stepHere_101
      · replace hf := fx_ie c14 hf
        refine lv_bipush hx hb dX2_stepHere_78 kb_m8 ?_
        refine lv_goto (tgt := 101) hx hb dX2_stepHere_80 (by decide) ?_
        exact fx_iretp hf hC hr hk hP hS dX2_stepHere_101
    replace hf := fx_ie c10 hf
    by_cases c19 : a1 = 2
    · replace hf := fx_it c19 hf
      refine lv_tableIn (off := 101) (tgt := 102) hx hb dX2_stepHere_1 (by rw [c19]; decide) (by rw [c19]; decide) (by rw [c19]; rfl) (by decide) ?_
      refine lv_aload_n hx hb dX2_stepHere_102 rfl (lv_at hl 0 rfl) ?_
      refine gf_X2_9 (v := .ref (ad 3)) hC hP kX_2 rfl dX2_stepHere_103 ?_
      refine lv_bipush hx hb dX2_stepHere_106 kb_43 ?_
      obtain ⟨r21, hc20, hf⟩ := fxBP_e hf
      refine fx_ci hC hS (fx_runV (i := 3) (As := [.int 43]) (rest := []) hC hP hS (ctX9_isSign l hc20 D cy ad ec _) kX_3 (by decide) rfl kMV_X2_52 kC_X9_isSign hd_X9_isSign rfl ⟨(Nat.le_of_ble_eq_true rfl), (Nat.le_of_ble_eq_true rfl)⟩ ⟨Nat.le_refl 0, Nat.le_refl 0⟩ hl.1 (Nat.le_of_ble_eq_true rfl) rfl dX2_stepHere_108) (fun H locs hP hS => ?_)
      refine lv_if_eq (tgt := 119) hx hb dX2_stepHere_111 (by decide) (fun c23 => ?_) (fun c23 => ?_)
      · replace hf := fx_it c23 hf
        refine lv_aload_n hx hb dX2_stepHere_119 rfl (lv_at hl 0 rfl) ?_
        refine gf_X2_9 (v := .ref (ad 3)) hC hP kX_2 rfl dX2_stepHere_120 ?_
        refine lv_bipush hx hb dX2_stepHere_123 kb_45 ?_
        obtain ⟨r25, hc24, hf⟩ := fxBP_e hf
        refine fx_ci hC hS (fx_runV (i := 3) (As := [.int 45]) (rest := []) hC hP hS (ctX9_isSign l hc24 D cy ad ec _) kX_3 (by decide) rfl kMV_X2_52 kC_X9_isSign hd_X9_isSign rfl ⟨(Nat.le_of_ble_eq_true rfl), (Nat.le_of_ble_eq_true rfl)⟩ ⟨Nat.le_refl 0, Nat.le_refl 0⟩ hl.1 (Nat.le_of_ble_eq_true rfl) rfl dX2_stepHere_125) (fun H locs hP hS => ?_)
        refine lv_if_eq (tgt := 136) hx hb dX2_stepHere_128 (by decide) (fun c27 => ?_) (fun c27 => ?_)
        · replace hf := fx_it c27 hf
          refine lv_iconst hx hb dX2_stepHere_136 ki_0 ?_
          exact fx_iretp hf hC hr hk hP hS dX2_stepHere_137
        · replace hf := fx_ie c27 hf
          refine lv_bipush hx hb dX2_stepHere_131 kb_m11 ?_
          refine lv_goto (tgt := 137) hx hb dX2_stepHere_133 (by decide) ?_
          exact fx_iretp hf hC hr hk hP hS dX2_stepHere_137
      · replace hf := fx_ie c23 hf
        refine lv_bipush hx hb dX2_stepHere_114 kb_m10 ?_
        refine lv_goto (tgt := 137) hx hb dX2_stepHere_116 (by decide) ?_
        exact fx_iretp hf hC hr hk hP hS dX2_stepHere_137
    replace hf := fx_ie c19 hf
    have qc1 := fx_ne32 (z := 0) rfl c1
    have qc10 := fx_ne32 (z := 1) rfl c10
    have qc19 := fx_ne32 (z := 2) rfl c19
    refine lv_tableOut (tgt := 138) hx hb dX2_stepHere_1 (by omega) (by decide) ?_
    refine lv_aload_n hx hb dX2_stepHere_138 rfl (lv_at hl 0 rfl) ?_
    refine gf_X2_9 (v := .ref (ad 3)) hC hP kX_2 rfl dX2_stepHere_139 ?_
    refine lv_bipush hx hb dX2_stepHere_142 kb_42 ?_
    obtain ⟨r29, hc28, hf⟩ := fxBP_e hf
    refine fx_ci hC hS (fx_runV (i := 3) (As := [.int 42]) (rest := []) hC hP hS (ctX9_isSign l hc28 D cy ad ec _) kX_3 (by decide) rfl kMV_X2_52 kC_X9_isSign hd_X9_isSign rfl ⟨(Nat.le_of_ble_eq_true rfl), (Nat.le_of_ble_eq_true rfl)⟩ ⟨Nat.le_refl 0, Nat.le_refl 0⟩ hl.1 (Nat.le_of_ble_eq_true rfl) rfl dX2_stepHere_144) (fun H locs hP hS => ?_)
    obtain ⟨v31, ev31, hf⟩ := fxL_e hf
    have j_v31 : ∀ (z32 : Int32), z32 = ((if r29 = 0 then 0 else (-12)) : Int32) → ∀ (ls : Array Slot), lv_has ls 2 [] → W p l e (fx_R (1)) s m args below meth c H locs 0 0 (fx_Qi D cy LX ad A below args s v σ) (F0 m 156 ls [.int z32]) := by
      intro z32 hz32 ls hl
      obtain rfl : v31 = z32 := ev31.trans hz32.symm
      exact fx_iretp hf hC hr hk hP hS dX2_stepHere_156
    refine lv_if_eq (tgt := 155) hx hb dX2_stepHere_147 (by decide) (fun c33 => ?_) (fun c33 => ?_)
    · refine lv_iconst hx hb dX2_stepHere_155 ki_0 ?_
      exact j_v31 0 (if_pos c33).symm ls (lv_sub hl [] rfl)
    · refine lv_bipush hx hb dX2_stepHere_150 kb_m12 ?_
      refine lv_goto (tgt := 156) hx hb dX2_stepHere_152 (by decide) ?_
      exact j_v31 (-12) (if_neg c33).symm ls (lv_sub hl [] rfl)
  exact main _ _ _ hP hS hl

set_option maxHeartbeats 4000000 in
set_option maxRecDepth 100000 in
theorem ctX2_factHere (l : Launch) {σ : FH} {v : Int32} (hf : fX2_factHere σ = some v) : fx_Mi l yX2_factHere cX2_factHere 1 (some .int) (1) LX (fun ad ec => [.ref (ad 2)]) σ v σ := by
  unfold fX2_factHere at hf
  refine fx_mi' (own := RX2) rfl (by decide +kernel) ?_
  intro p e s m args below meth c D cy ad ec A hC hr hk hP hS
  have hx := hC.1
  have hb := hC.2.1
  have hl := lv_entry ([.ref (ad 2)]) (n := 1) (Nat.le_of_ble_eq_true rfl)
  show W _ _ _ _ _ _ _ _ _ _ _ _ _ _ _ (entryFrame m ([.ref (ad 2)] : List Value).toArray 1)
  rw [lg_entry_eq]
  generalize (lg_sl ([.ref (ad 2)]) ++ List.replicate (1 - (lg_sl ([.ref (ad 2)])).length) Slot.unset).toArray = ls at hl ⊢
  have hl : lv_has ls 1 [(0, .ref (ad 2))] := hl
  have main : ∀ (H : Heap) (locs : List Loc) (ls : Array Slot), fx_P D cy LX ad σ H → va_S A s.heap H locs → lv_has ls 1 [(0, .ref (ad 2))] → W p l e (fx_R (1)) s m args below meth c H locs 0 0 (fx_Qi D cy LX ad A below args s v σ) (F0 m 0 ls []) := by
    intro H locs ls hP hS hl
    refine lv_aload_n hx hb dX2_factHere_0 rfl (lv_at hl 0 rfl) ?_
    refine gf_X2_9 (v := .ref (ad 3)) hC hP kX_2 rfl dX2_factHere_1 ?_
    refine fx_gete hC hS 20 (by decide) rfl kFw_X2_74 dX2_factHere_4 ?_
    obtain ⟨r2, hc1, hf⟩ := fxBP_e hf
    refine fx_ci hC hS (fx_runV (i := 3) (As := [.ref (ec 20)]) (rest := []) hC hP hS (ctX9_isWord l hc1 D cy ad ec _) kX_3 (by decide) rfl kMV_X2_48 kC_X9_isWord hd_X9_isWord rfl ⟨(Nat.le_of_ble_eq_true rfl), (Nat.le_of_ble_eq_true rfl)⟩ ⟨Nat.le_refl 0, Nat.le_refl 0⟩ hl.1 (Nat.le_of_ble_eq_true rfl) rfl dX2_factHere_7) (fun H locs hP hS => ?_)
    refine lv_if_eq (tgt := 17) hx hb dX2_factHere_10 (by decide) (fun c4 => ?_) (fun c4 => ?_)
    · replace hf := fx_it c4 hf
      refine lv_aload_n hx hb dX2_factHere_17 rfl (lv_at hl 0 rfl) ?_
      refine gf_X2_9 (v := .ref (ad 3)) hC hP kX_2 rfl dX2_factHere_18 ?_
      refine fx_gete hC hS 21 (by decide) rfl kFw_X2_77 dX2_factHere_21 ?_
      obtain ⟨r6, hc5, hf⟩ := fxBP_e hf
      refine fx_ci hC hS (fx_runV (i := 3) (As := [.ref (ec 21)]) (rest := []) hC hP hS (ctX9_isWord l hc5 D cy ad ec _) kX_3 (by decide) rfl kMV_X2_48 kC_X9_isWord hd_X9_isWord rfl ⟨(Nat.le_of_ble_eq_true rfl), (Nat.le_of_ble_eq_true rfl)⟩ ⟨Nat.le_refl 0, Nat.le_refl 0⟩ hl.1 (Nat.le_of_ble_eq_true rfl) rfl dX2_factHere_24) (fun H locs hP hS => ?_)
      refine lv_if_eq (tgt := 35) hx hb dX2_factHere_27 (by decide) (fun c8 => ?_) (fun c8 => ?_)
      · replace hf := fx_it c8 hf
        refine lv_aload_n hx hb dX2_factHere_35 rfl (lv_at hl 0 rfl) ?_
        refine gf_X2_9 (v := .ref (ad 3)) hC hP kX_2 rfl dX2_factHere_36 ?_
        refine fx_gete hC hS 22 (by decide) rfl kFw_X2_80 dX2_factHere_39 ?_
        obtain ⟨r10, hc9, hf⟩ := fxBP_e hf
        refine fx_ci hC hS (fx_runV (i := 3) (As := [.ref (ec 22)]) (rest := []) hC hP hS (ctX9_isWord l hc9 D cy ad ec _) kX_3 (by decide) rfl kMV_X2_48 kC_X9_isWord hd_X9_isWord rfl ⟨(Nat.le_of_ble_eq_true rfl), (Nat.le_of_ble_eq_true rfl)⟩ ⟨Nat.le_refl 0, Nat.le_refl 0⟩ hl.1 (Nat.le_of_ble_eq_true rfl) rfl dX2_factHere_42) (fun H locs hP hS => ?_)
        refine lv_if_eq (tgt := 53) hx hb dX2_factHere_45 (by decide) (fun c12 => ?_) (fun c12 => ?_)
        · replace hf := fx_it c12 hf
          refine lv_aload_n hx hb dX2_factHere_53 rfl (lv_at hl 0 rfl) ?_
          refine gf_X2_9 (v := .ref (ad 3)) hC hP kX_2 rfl dX2_factHere_54 ?_
          refine fx_gete hC hS 23 (by decide) rfl kFw_X2_83 dX2_factHere_57 ?_
          obtain ⟨r14, hc13, hf⟩ := fxBP_e hf
          refine fx_ci hC hS (fx_runV (i := 3) (As := [.ref (ec 23)]) (rest := []) hC hP hS (ctX9_isWord l hc13 D cy ad ec _) kX_3 (by decide) rfl kMV_X2_48 kC_X9_isWord hd_X9_isWord rfl ⟨(Nat.le_of_ble_eq_true rfl), (Nat.le_of_ble_eq_true rfl)⟩ ⟨Nat.le_refl 0, Nat.le_refl 0⟩ hl.1 (Nat.le_of_ble_eq_true rfl) rfl dX2_factHere_60) (fun H locs hP hS => ?_)
          refine lv_if_eq (tgt := 71) hx hb dX2_factHere_63 (by decide) (fun c16 => ?_) (fun c16 => ?_)
          · replace hf := fx_it c16 hf
            refine lv_iconst hx hb dX2_factHere_71 ki_0 ?_
            exact fx_iretp hf hC hr hk hP hS dX2_factHere_72
          · replace hf := fx_ie c16 hf
            refine lv_bipush hx hb dX2_factHere_66 kb_m4 ?_
            refine lv_goto (tgt := 72) hx hb dX2_factHere_68 (by decide) ?_
            exact fx_iretp hf hC hr hk hP hS dX2_factHere_72
        · replace hf := fx_ie c12 hf
          refine lv_bipush hx hb dX2_factHere_48 kb_m3 ?_
          refine lv_goto (tgt := 72) hx hb dX2_factHere_50 (by decide) ?_
          exact fx_iretp hf hC hr hk hP hS dX2_factHere_72
      · replace hf := fx_ie c8 hf
        refine lv_bipush hx hb dX2_factHere_30 kb_m2 ?_
        refine lv_goto (tgt := 72) hx hb dX2_factHere_32 (by decide) ?_
        exact fx_iretp hf hC hr hk hP hS dX2_factHere_72
    · replace hf := fx_ie c4 hf
      refine lv_iconst hx hb dX2_factHere_13 ki_m1 ?_
      refine lv_goto (tgt := 72) hx hb dX2_factHere_14 (by decide) ?_
      exact fx_iretp hf hC hr hk hP hS dX2_factHere_72
  exact main _ _ _ hP hS hl

set_option maxHeartbeats 4000000 in
set_option maxRecDepth 100000 in
theorem cbX2_readLevel (l : Launch) (rc_readLevel : Nat → Int32 → Int32 → FH → Option (Int32 × FH)) (rc_readPart : Nat → Int32 → FH → Option (Int32 × FH)) (d : Nat) (hrc_readLevel : ∀ {b0 : Nat} {b1 : Int32} {b2 : Int32} {s0 : FH} {s1 : FH} {u : Int32}, rc_readLevel b0 b1 b2 s0 = some (u, s1) → fx_Mi l yX2_readLevel cX2_readLevel 7 (some .boolean) (d + 7) LX (fun ad ec => [.ref (ad 2), .ref (ad b0), .int b1, .int b2]) s0 u s1) (hrc_readPart : ∀ {b0 : Nat} {b1 : Int32} {s0 : FH} {s1 : FH} {u : Int32}, rc_readPart b0 b1 s0 = some (u, s1) → fx_Mi l yX2_readPart cX2_readPart 7 (some .boolean) (d + 7) LX (fun ad ec => [.ref (ad 2), .ref (ad b0), .int b1]) s0 u s1) {a1 : Nat} {a2 : Int32} {a3 : Int32} {σ σ' : FH} {v : Int32} (hf : bX2_readLevel rc_readLevel rc_readPart a1 a2 a3 σ = some (v, σ')) : fx_Mi l yX2_readLevel cX2_readLevel 7 (some .boolean) (d + 1 + 7) LX (fun ad ec => [.ref (ad 2), .ref (ad a1), .int a2, .int a3]) σ v σ' := by
  unfold bX2_readLevel at hf
  obtain ⟨h_a1, hf⟩ := fxG_e hf
  refine fx_mi' (own := RX2) rfl (by decide +kernel) ?_
  intro p e s m args below meth c D cy ad ec A hC hr hk hP hS
  have hx := hC.1
  have hb := hC.2.1
  have hl := lv_entry ([.ref (ad 2), .ref (ad a1), .int a2, .int a3]) (n := 7) (Nat.le_of_ble_eq_true rfl)
  show W _ _ _ _ _ _ _ _ _ _ _ _ _ _ _ (entryFrame m ([.ref (ad 2), .ref (ad a1), .int a2, .int a3] : List Value).toArray 7)
  rw [lg_entry_eq]
  generalize (lg_sl ([.ref (ad 2), .ref (ad a1), .int a2, .int a3]) ++ List.replicate (7 - (lg_sl ([.ref (ad 2), .ref (ad a1), .int a2, .int a3])).length) Slot.unset).toArray = ls at hl ⊢
  have hl : lv_has ls 7 [(0, .ref (ad 2)), (1, .ref (ad a1)), (2, .int a2), (3, .int a3)] := hl
  have main : ∀ (H : Heap) (locs : List Loc) (ls : Array Slot), fx_P D cy LX ad σ H → va_S A s.heap H locs → lv_has ls 7 [(0, .ref (ad 2)), (1, .ref (ad a1)), (2, .int a2), (3, .int a3)] → W p l e (fx_R (d + 1 + 7)) s m args below meth c H locs 0 0 (fx_Qi D cy LX ad A below args s v σ') (F0 m 0 ls []) := by
    intro H locs ls hP hS hl
    refine lv_iload_n hx hb dX2_readLevel_0 rfl (lv_at hl 2 rfl) ?_
    refine lv_iconst hx hb dX2_readLevel_1 ki_3 ?_
    refine lv_icmp_le (tgt := 12) hx hb dX2_readLevel_2 (by decide) (fun c1 => ?_) (fun c1 => ?_)
    · replace hf := fx_it c1 hf
      refine lv_aload_n hx hb dX2_readLevel_12 rfl (lv_at hl 0 rfl) ?_
      refine lv_aload_n hx hb dX2_readLevel_13 rfl (lv_at hl 1 rfl) ?_
      refine lv_iload_n hx hb dX2_readLevel_14 rfl (lv_at hl 2 rfl) ?_
      refine lv_iconst hx hb dX2_readLevel_15 ki_1 ?_
      refine lv_iadd hx hb dX2_readLevel_16 ?_
      refine lv_iload_n hx hb dX2_readLevel_17 rfl (lv_at hl 3 rfl) ?_
      obtain ⟨r3, σ4, hc2, hf⟩ := fxBI_e hf
      refine fx_ci hC hS (fx_runV (i := 2) (As := [.ref (ad a1), .int (a2 + 1), .int a3]) (rest := []) hC hP hS (hrc_readLevel hc2 D cy ad ec _) kX_2 (by decide) rfl kMV_X2_19 kC_X2_readLevel hd_X2_readLevel rfl ⟨(show d + 7 + 1 ≤ d + 1 + 7 from by omega), (show 8 + (7 + 11) + 64 * (d + 7) ≤ 64 * (d + 1 + 7) from by omega)⟩ ⟨Nat.le_refl 0, Nat.le_refl 0⟩ hl.1 (Nat.le_of_ble_eq_true rfl) rfl dX2_readLevel_18) (fun H locs hP hS => ?_)
      refine lv_istore (lv' := [(4, .int r3), (0, .ref (ad 2)), (1, .ref (ad a1)), (2, .int a2), (3, .int a3)]) hx hb dX2_readLevel_21 hl (by decide) rfl (fun ls hl => ?_)
      refine lv_aload_n hx hb dX2_readLevel_23 rfl (lv_at hl 1 rfl) ?_
      refine lv_iload_n hx hb dX2_readLevel_24 rfl (lv_at hl 3 rfl) ?_
      obtain ⟨r6, hc5, hf⟩ := fxBP_e hf
      refine fx_ci hC hS (fx_runV (i := 2) (As := [.int a2]) (rest := []) hC hP hS (ctX2_stepHere l hc5 D cy ad ec _) kX_2 (by decide) rfl kMV_X2_23 kC_X2_stepHere hd_X2_stepHere rfl ⟨(show 1 + 1 ≤ d + 1 + 7 from by omega), (show 8 + (2 + 11) + 64 * (1) ≤ 64 * (d + 1 + 7) from by omega)⟩ ⟨Nat.le_refl 0, Nat.le_refl 0⟩ hl.1 (Nat.le_of_ble_eq_true rfl) rfl dX2_readLevel_25) (fun H locs hP hS => ?_)
      refine lv_istore (lv' := [(5, .int r6), (4, .int r3), (0, .ref (ad 2)), (1, .ref (ad a1)), (2, .int a2), (3, .int a3)]) hx hb dX2_readLevel_28 hl (by decide) rfl (fun ls hl => ?_)
      refine lv_iconst hx hb dX2_readLevel_30 ki_0 ?_
      refine lv_istore (lv' := [(6, .int 0), (5, .int r6), (4, .int r3), (0, .ref (ad 2)), (1, .ref (ad a1)), (2, .int a2), (3, .int a3)]) hx hb dX2_readLevel_31 hl (by decide) rfl (fun ls hl => ?_)
      obtain ⟨K8, hK8, hf⟩ := fxL_e hf
      have k_K8 : ∀ (x9 : Int32) (σ10 : FH) (H : Heap) (locs : List Loc) (ls : Array Slot), fx_P D cy LX ad σ10 H → va_S A s.heap H locs → lv_has ls 7 [(4, .int x9)] → K8 x9 σ10 = some (v, σ') → W p l e (fx_R (d + 1 + 7)) s m args below meth c H locs 0 0 (fx_Qi D cy LX ad A below args s v σ') (F0 m 97 ls []) := by
        intro x9 σ10 H locs ls hP hS hl hf
        replace hf := fxk2 hK8 hf
        refine lv_iload hx hb dX2_readLevel_97 (lv_at hl 0 rfl) ?_
        obtain ⟨h11, hf⟩ := fxG_e hf
        exact fx_zretf (fx_bon h11) hf hC hr hk hP hS dX2_readLevel_99
      have L34 : ∀ (n17 : Nat) (w12 : Int32) (w13 : Int32) (w14 : Int32) (σ15 : FH) (H : Heap) (locs : List Loc) (ls : Array Slot), fx_P D cy LX ad σ15 H → va_S A s.heap H locs → lv_has ls 7 [(0, .ref (ad 2)), (1, .ref (ad a1)), (2, .int a2), (3, .int a3), (4, .int w12), (5, .int w13), (6, .int w14)] → fX2_readLevel_33 rc_readLevel a1 a2 a3 K8 n17 w12 w13 w14 σ15 = some (v, σ') → W p l e (fx_R (d + 1 + 7)) s m args below meth c H locs 0 0 (fx_Qi D cy LX ad A below args s v σ') (F0 m 33 ls []) := by
        intro n17
        induction n17 with
        | zero =>
          intro w12 w13 w14 σ15 H locs ls hP hS hl hf
          rw [fX2_readLevel_33] at hf
          cases hf
        | succ n17 ih16 =>
          intro w12 w13 w14 σ15 H locs ls hP hS hl hf
          rw [fX2_readLevel_33] at hf
          refine lv_iload hx hb dX2_readLevel_33 (lv_at hl 6 rfl) ?_
          refine lv_sipush hx hb dX2_readLevel_35 ks_1000 ?_
          refine lv_icmp_ge (tgt := 97) hx hb dX2_readLevel_38 (by decide) (fun c18 => ?_) (fun c18 => ?_)
          · replace hf := fx_it c18 hf
            exact k_K8 w12 σ15 _ _ _ hP hS (lv_sub hl [4] rfl) hf
          · replace hf := fx_ie c18 hf
            refine lv_iload hx hb dX2_readLevel_41 (lv_at hl 4 rfl) ?_
            refine lv_if_eq (tgt := 97) hx hb dX2_readLevel_43 (by decide) (fun c19 => ?_) (fun c19 => ?_)
            · replace hf := fx_it c19 hf
              exact k_K8 w12 σ15 _ _ _ hP hS (lv_sub hl [4] rfl) hf
            · replace hf := fx_ie c19 hf
              refine lv_iload hx hb dX2_readLevel_46 (lv_at hl 5 rfl) ?_
              refine lv_if_eq (tgt := 97) hx hb dX2_readLevel_48 (by decide) (fun c20 => ?_) (fun c20 => ?_)
              · replace hf := fx_it c20 hf
                exact k_K8 w12 σ15 _ _ _ hP hS (lv_sub hl [4] rfl) hf
              · replace hf := fx_ie c20 hf
                refine lv_aload_n hx hb dX2_readLevel_51 rfl (lv_at hl 0 rfl) ?_
                refine gf_X2_9 (v := .ref (ad 3)) hC hP kX_2 rfl dX2_readLevel_52 ?_
                obtain ⟨σ23, hc21, hf⟩ := fxBV_e hf
                refine fx_cv hC hS (fx_runV (i := 3) (As := []) (rest := []) hC hP hS (ctX9_advance l hc21 D cy ad ec _) kX_3 (by decide) rfl kMV_X2_27 kC_X9_advance hd_X9_advance rfl ⟨(show 5 + 1 ≤ d + 1 + 7 from by omega), (show 8 + (1 + 11) + 64 * (5) ≤ 64 * (d + 1 + 7) from by omega)⟩ ⟨Nat.le_refl 0, Nat.le_refl 0⟩ hl.1 (Nat.le_of_ble_eq_true rfl) rfl dX2_readLevel_55) (fun H locs hP hS => ?_)
                refine lv_aload_n hx hb dX2_readLevel_58 rfl (lv_at hl 0 rfl) ?_
                refine lv_aload_n hx hb dX2_readLevel_59 rfl (lv_at hl 1 rfl) ?_
                refine lv_iload_n hx hb dX2_readLevel_60 rfl (lv_at hl 2 rfl) ?_
                refine lv_iconst hx hb dX2_readLevel_61 ki_1 ?_
                refine lv_iadd hx hb dX2_readLevel_62 ?_
                refine lv_iload_n hx hb dX2_readLevel_63 rfl (lv_at hl 3 rfl) ?_
                obtain ⟨r25, σ26, hc24, hf⟩ := fxBI_e hf
                refine fx_ci hC hS (fx_runV (i := 2) (As := [.ref (ad a1), .int (a2 + 1), .int a3]) (rest := []) hC hP hS (hrc_readLevel hc24 D cy ad ec _) kX_2 (by decide) rfl kMV_X2_19 kC_X2_readLevel hd_X2_readLevel rfl ⟨(show d + 7 + 1 ≤ d + 1 + 7 from by omega), (show 8 + (7 + 11) + 64 * (d + 7) ≤ 64 * (d + 1 + 7) from by omega)⟩ ⟨Nat.le_refl 0, Nat.le_refl 0⟩ hl.1 (Nat.le_of_ble_eq_true rfl) rfl dX2_readLevel_64) (fun H locs hP hS => ?_)
                refine lv_istore (lv' := [(4, .int r25), (0, .ref (ad 2)), (1, .ref (ad a1)), (2, .int a2), (3, .int a3), (5, .int w13), (6, .int w14)]) hx hb dX2_readLevel_67 hl (by decide) rfl (fun ls hl => ?_)
                refine lv_aload_n hx hb dX2_readLevel_69 rfl (lv_at hl 2 rfl) ?_
                refine lv_iload hx hb dX2_readLevel_70 (lv_at hl 5 rfl) ?_
                obtain ⟨σ29, hc27, hf⟩ := fxBV_e hf
                refine fx_cv hC hS (fx_runV (i := a1) (As := [.int w13]) (rest := []) hC hP hS (ctX1_put l hc27 D cy ad ec _) h_a1 (by decide) rfl kMV_X2_32 kC_X1_put hd_X1_put rfl ⟨(show 0 + 1 ≤ d + 1 + 7 from by omega), (show 8 + (2 + 11) + 64 * (0) ≤ 64 * (d + 1 + 7) from by omega)⟩ ⟨Nat.le_refl 0, Nat.le_refl 0⟩ hl.1 (Nat.le_of_ble_eq_true rfl) rfl dX2_readLevel_72) (fun H locs hP hS => ?_)
                refine lv_iload_n hx hb dX2_readLevel_75 rfl (lv_at hl 3 rfl) ?_
                refine lv_iconst hx hb dX2_readLevel_76 ki_1 ?_
                refine lv_icmp_ne (tgt := 84) hx hb dX2_readLevel_77 (by decide) (fun c30 => ?_) (fun c30 => ?_)
                · replace hf := fx_ie c30 hf
                  refine lv_aload_n hx hb dX2_readLevel_84 rfl (lv_at hl 1 rfl) ?_
                  refine lv_iload_n hx hb dX2_readLevel_85 rfl (lv_at hl 3 rfl) ?_
                  obtain ⟨r32, hc31, hf⟩ := fxBP_e hf
                  refine fx_ci hC hS (fx_runV (i := 2) (As := [.int a2]) (rest := []) hC hP hS (ctX2_stepHere l hc31 D cy ad ec _) kX_2 (by decide) rfl kMV_X2_23 kC_X2_stepHere hd_X2_stepHere rfl ⟨(show 1 + 1 ≤ d + 1 + 7 from by omega), (show 8 + (2 + 11) + 64 * (1) ≤ 64 * (d + 1 + 7) from by omega)⟩ ⟨Nat.le_refl 0, Nat.le_refl 0⟩ hl.1 (Nat.le_of_ble_eq_true rfl) rfl dX2_readLevel_86) (fun H locs hP hS => ?_)
                  refine lv_istore (lv' := [(5, .int r32), (4, .int r25), (0, .ref (ad 2)), (1, .ref (ad a1)), (2, .int a2), (3, .int a3), (6, .int w14)]) hx hb dX2_readLevel_89 hl (by decide) rfl (fun ls hl => ?_)
                  refine lv_iinc (v := (w14 + 1)) (lv' := [(6, .int (w14 + 1)), (5, .int r32), (4, .int r25), (0, .ref (ad 2)), (1, .ref (ad a1)), (2, .int a2), (3, .int a3)]) hx hb dX2_readLevel_91 hl (k := 6) rfl (congrArg (fun z => w14 + z) ki_1) (by decide) rfl (fun ls hl => ?_)
                  refine lv_goto (tgt := 33) hx hb dX2_readLevel_94 (by decide) ?_
                  exact ih16 r25 r32 (w14 + 1) σ29 _ _ _ hP hS (lv_sub hl [3, 4, 5, 6, 2, 1, 0] rfl) hf
                · replace hf := fx_it c30 hf
                  refine lv_iconst hx hb dX2_readLevel_80 ki_0 ?_
                  refine lv_goto (tgt := 89) hx hb dX2_readLevel_81 (by decide) ?_
                  refine lv_istore (lv' := [(5, .int 0), (4, .int r25), (0, .ref (ad 2)), (1, .ref (ad a1)), (2, .int a2), (3, .int a3), (6, .int w14)]) hx hb dX2_readLevel_89 hl (by decide) rfl (fun ls hl => ?_)
                  refine lv_iinc (v := (w14 + 1)) (lv' := [(6, .int (w14 + 1)), (5, .int 0), (4, .int r25), (0, .ref (ad 2)), (1, .ref (ad a1)), (2, .int a2), (3, .int a3)]) hx hb dX2_readLevel_91 hl (k := 6) rfl (congrArg (fun z => w14 + z) ki_1) (by decide) rfl (fun ls hl => ?_)
                  refine lv_goto (tgt := 33) hx hb dX2_readLevel_94 (by decide) ?_
                  exact ih16 r25 0 (w14 + 1) σ29 _ _ _ hP hS (lv_sub hl [3, 4, 5, 6, 2, 1, 0] rfl) hf
      exact L34 FU r3 r6 0 σ4 _ _ _ hP hS (lv_sub hl [3, 4, 5, 6, 2, 1, 0] rfl) hf
    · replace hf := fx_ie c1 hf
      refine lv_aload_n hx hb dX2_readLevel_5 rfl (lv_at hl 0 rfl) ?_
      refine lv_aload_n hx hb dX2_readLevel_6 rfl (lv_at hl 1 rfl) ?_
      refine lv_iload_n hx hb dX2_readLevel_7 rfl (lv_at hl 3 rfl) ?_
      obtain ⟨r36, σ37, hc35, hf⟩ := fxBI_e hf
      refine fx_ci hC hS (fx_runV (i := 2) (As := [.ref (ad a1), .int a3]) (rest := []) hC hP hS (hrc_readPart hc35 D cy ad ec _) kX_2 (by decide) rfl kMV_X2_15 kC_X2_readPart hd_X2_readPart rfl ⟨(show d + 7 + 1 ≤ d + 1 + 7 from by omega), (show 8 + (7 + 11) + 64 * (d + 7) ≤ 64 * (d + 1 + 7) from by omega)⟩ ⟨Nat.le_refl 0, Nat.le_refl 0⟩ hl.1 (Nat.le_of_ble_eq_true rfl) rfl dX2_readLevel_8) (fun H locs hP hS => ?_)
      obtain ⟨h38, hf⟩ := fxG_e hf
      exact fx_zretf (fx_bon h38) hf hC hr hk hP hS dX2_readLevel_11
  exact main _ _ _ hP hS hl
set_option maxHeartbeats 4000000 in
set_option maxRecDepth 100000 in
theorem cbX2_readPart (l : Launch) (rc_readLevel : Nat → Int32 → Int32 → FH → Option (Int32 × FH)) (rc_readPart : Nat → Int32 → FH → Option (Int32 × FH)) (d : Nat) (hrc_readLevel : ∀ {b0 : Nat} {b1 : Int32} {b2 : Int32} {s0 : FH} {s1 : FH} {u : Int32}, rc_readLevel b0 b1 b2 s0 = some (u, s1) → fx_Mi l yX2_readLevel cX2_readLevel 7 (some .boolean) (d + 7) LX (fun ad ec => [.ref (ad 2), .ref (ad b0), .int b1, .int b2]) s0 u s1) (hrc_readPart : ∀ {b0 : Nat} {b1 : Int32} {s0 : FH} {s1 : FH} {u : Int32}, rc_readPart b0 b1 s0 = some (u, s1) → fx_Mi l yX2_readPart cX2_readPart 7 (some .boolean) (d + 7) LX (fun ad ec => [.ref (ad 2), .ref (ad b0), .int b1]) s0 u s1) {a1 : Nat} {a2 : Int32} {σ σ' : FH} {v : Int32} (hf : bX2_readPart rc_readLevel rc_readPart a1 a2 σ = some (v, σ')) : fx_Mi l yX2_readPart cX2_readPart 7 (some .boolean) (d + 1 + 7) LX (fun ad ec => [.ref (ad 2), .ref (ad a1), .int a2]) σ v σ' := by
  unfold bX2_readPart at hf
  obtain ⟨h_a1, hf⟩ := fxG_e hf
  refine fx_mi' (own := RX2) rfl (by decide +kernel) ?_
  intro p e s m args below meth c D cy ad ec A hC hr hk hP hS
  have hx := hC.1
  have hb := hC.2.1
  have hl := lv_entry ([.ref (ad 2), .ref (ad a1), .int a2]) (n := 7) (Nat.le_of_ble_eq_true rfl)
  show W _ _ _ _ _ _ _ _ _ _ _ _ _ _ _ (entryFrame m ([.ref (ad 2), .ref (ad a1), .int a2] : List Value).toArray 7)
  rw [lg_entry_eq]
  generalize (lg_sl ([.ref (ad 2), .ref (ad a1), .int a2]) ++ List.replicate (7 - (lg_sl ([.ref (ad 2), .ref (ad a1), .int a2])).length) Slot.unset).toArray = ls at hl ⊢
  have hl : lv_has ls 7 [(0, .ref (ad 2)), (1, .ref (ad a1)), (2, .int a2)] := hl
  have main : ∀ (H : Heap) (locs : List Loc) (ls : Array Slot), fx_P D cy LX ad σ H → va_S A s.heap H locs → lv_has ls 7 [(0, .ref (ad 2)), (1, .ref (ad a1)), (2, .int a2)] → W p l e (fx_R (d + 1 + 7)) s m args below meth c H locs 0 0 (fx_Qi D cy LX ad A below args s v σ') (F0 m 0 ls []) := by
    intro H locs ls hP hS hl
    refine lv_aload_n hx hb dX2_readPart_0 rfl (lv_at hl 0 rfl) ?_
    obtain ⟨r2, hc1, hf⟩ := fxBP_e hf
    refine fx_ci hC hS (fx_runV (i := 2) (As := []) (rest := []) hC hP hS (ctX2_factHere l hc1 D cy ad ec _) kX_2 (by decide) rfl kMV_X2_38 kC_X2_factHere hd_X2_factHere rfl ⟨(show 1 + 1 ≤ d + 1 + 7 from by omega), (show 8 + (1 + 11) + 64 * (1) ≤ 64 * (d + 1 + 7) from by omega)⟩ ⟨Nat.le_refl 0, Nat.le_refl 0⟩ hl.1 (Nat.le_of_ble_eq_true rfl) rfl dX2_readPart_1) (fun H locs hP hS => ?_)
    refine lv_istore_n (lv' := [(3, .int r2), (0, .ref (ad 2)), (1, .ref (ad a1)), (2, .int a2)]) hx hb dX2_readPart_4 rfl hl (by decide) rfl (fun ls hl => ?_)
    refine lv_aload_n hx hb dX2_readPart_5 rfl (lv_at hl 1 rfl) ?_
    refine gf_X2_9 (v := .ref (ad 3)) hC hP kX_2 rfl dX2_readPart_6 ?_
    refine fx_gete hC hS 17 (by decide) rfl kFw_X2_42 dX2_readPart_9 ?_
    obtain ⟨r5, hc4, hf⟩ := fxBP_e hf
    refine fx_ci hC hS (fx_runV (i := 3) (As := [.ref (ec 17)]) (rest := []) hC hP hS (ctX9_isWord l hc4 D cy ad ec _) kX_3 (by decide) rfl kMV_X2_48 kC_X9_isWord hd_X9_isWord rfl ⟨(show 0 + 1 ≤ d + 1 + 7 from by omega), (show 8 + (2 + 11) + 64 * (0) ≤ 64 * (d + 1 + 7) from by omega)⟩ ⟨Nat.le_refl 0, Nat.le_refl 0⟩ hl.1 (Nat.le_of_ble_eq_true rfl) rfl dX2_readPart_12) (fun H locs hP hS => ?_)
    refine lv_istore (lv' := [(4, .int r5), (3, .int r2), (0, .ref (ad 2)), (1, .ref (ad a1)), (2, .int a2)]) hx hb dX2_readPart_15 hl (by decide) rfl (fun ls hl => ?_)
    refine lv_aload_n hx hb dX2_readPart_17 rfl (lv_at hl 2 rfl) ?_
    refine gf_X2_9 (v := .ref (ad 3)) hC hP kX_2 rfl dX2_readPart_18 ?_
    refine lv_bipush hx hb dX2_readPart_21 kb_40 ?_
    obtain ⟨r8, hc7, hf⟩ := fxBP_e hf
    refine fx_ci hC hS (fx_runV (i := 3) (As := [.int 40]) (rest := []) hC hP hS (ctX9_isSign l hc7 D cy ad ec _) kX_3 (by decide) rfl kMV_X2_52 kC_X9_isSign hd_X9_isSign rfl ⟨(show 0 + 1 ≤ d + 1 + 7 from by omega), (show 8 + (2 + 11) + 64 * (0) ≤ 64 * (d + 1 + 7) from by omega)⟩ ⟨Nat.le_refl 0, Nat.le_refl 0⟩ hl.1 (Nat.le_of_ble_eq_true rfl) rfl dX2_readPart_23) (fun H locs hP hS => ?_)
    refine lv_istore (lv' := [(5, .int r8), (4, .int r5), (3, .int r2), (0, .ref (ad 2)), (1, .ref (ad a1)), (2, .int a2)]) hx hb dX2_readPart_26 hl (by decide) rfl (fun ls hl => ?_)
    refine lv_iload_n hx hb dX2_readPart_28 rfl (lv_at hl 2 rfl) ?_
    obtain ⟨J10, hJ10, hf⟩ := fxL_e hf
    have j_J10 : ∀  (H : Heap) (locs : List Loc) (ls : Array Slot), fx_P D cy LX ad σ H → va_S A s.heap H locs → lv_has ls 7 [(0, .ref (ad 2)), (1, .ref (ad a1)), (2, .int a2), (3, .int r2), (4, .int r5), (5, .int r8)] → J10 = some (v, σ') → W p l e (fx_R (d + 1 + 7)) s m args below meth c H locs 0 0 (fx_Qi D cy LX ad A below args s v σ') (F0 m 61 ls []) := by
      intro  H locs ls hP hS hl hf
      replace hf := hJ10.symm.trans hf
      refine lv_iload_n hx hb dX2_readPart_61 rfl (lv_at hl 2 rfl) ?_
      refine lv_iconst hx hb dX2_readPart_62 ki_5 ?_
      refine lv_icmp_lt (tgt := 75) hx hb dX2_readPart_63 (by decide) (fun c11 => ?_) (fun c11 => ?_)
      · replace hf := fx_it c11 hf
        refine lv_iload hx hb dX2_readPart_75 (lv_at hl 4 rfl) ?_
        refine lv_if_eq (tgt := 106) hx hb dX2_readPart_77 (by decide) (fun c12 => ?_) (fun c12 => ?_)
        · replace hf := fx_it c12 hf
          refine lv_iload hx hb dX2_readPart_106 (lv_at hl 5 rfl) ?_
          obtain ⟨J13, hJ13, hf⟩ := fxL_e hf
          have j_J13 : ∀ (σ14 : FH) (H : Heap) (locs : List Loc) (ls : Array Slot), fx_P D cy LX ad σ14 H → va_S A s.heap H locs → lv_has ls 7 [(0, .ref (ad 2))] → J13 σ14 = some (v, σ') → W p l e (fx_R (d + 1 + 7)) s m args below meth c H locs 0 0 (fx_Qi D cy LX ad A below args s v σ') (F0 m 172 ls []) := by
            intro σ14 H locs ls hP hS hl hf
            replace hf := fxk1 hJ13 hf
            refine lv_aload_n hx hb dX2_readPart_172 rfl (lv_at hl 0 rfl) ?_
            refine gf_X2_9 (v := .ref (ad 3)) hC hP kX_2 rfl dX2_readPart_173 ?_
            obtain ⟨σ17, hc15, hf⟩ := fxBV_e hf
            refine fx_cv hC hS (fx_runV (i := 3) (As := []) (rest := []) hC hP hS (ctX9_advance l hc15 D cy ad ec _) kX_3 (by decide) rfl kMV_X2_27 kC_X9_advance hd_X9_advance rfl ⟨(show 5 + 1 ≤ d + 1 + 7 from by omega), (show 8 + (1 + 11) + 64 * (5) ≤ 64 * (d + 1 + 7) from by omega)⟩ ⟨Nat.le_refl 0, Nat.le_refl 0⟩ hl.1 (Nat.le_of_ble_eq_true rfl) rfl dX2_readPart_176) (fun H locs hP hS => ?_)
            refine lv_iconst hx hb dX2_readPart_179 ki_1 ?_
            exact fx_zretf rfl hf hC hr hk hP hS dX2_readPart_180
          refine lv_if_eq (tgt := 153) hx hb dX2_readPart_108 (by decide) (fun c18 => ?_) (fun c18 => ?_)
          · replace hf := fx_it c18 hf
            refine lv_aload_n hx hb dX2_readPart_153 rfl (lv_at hl 1 rfl) ?_
            refine lv_iload_n hx hb dX2_readPart_154 rfl (lv_at hl 3 rfl) ?_
            obtain ⟨v19, ev19, hf⟩ := fxL_e hf
            have j_v19 : ∀ (z20 : Int32), z20 = ((if r2 = 0 then (σ.1 3 5) else r2) : Int32) → ∀ (ls : Array Slot), lv_has ls 7 [(0, .ref (ad 2))] → W p l e (fx_R (d + 1 + 7)) s m args below meth c H locs 0 0 (fx_Qi D cy LX ad A below args s v σ') (F0 m 169 ls [.int z20, .ref (ad a1)]) := by
              intro z20 hz20 ls hl
              obtain rfl : v19 = z20 := ev19.trans hz20.symm
              obtain ⟨σ24, hc22, hf⟩ := fxBV_e hf
              refine fx_cv hC hS (fx_runV (i := a1) (As := [.int v19]) (rest := []) hC hP hS (ctX1_put l hc22 D cy ad ec _) h_a1 (by decide) rfl kMV_X2_32 kC_X1_put hd_X1_put rfl ⟨(show 0 + 1 ≤ d + 1 + 7 from by omega), (show 8 + (2 + 11) + 64 * (0) ≤ 64 * (d + 1 + 7) from by omega)⟩ ⟨Nat.le_refl 0, Nat.le_refl 0⟩ hl.1 (Nat.le_of_ble_eq_true rfl) rfl dX2_readPart_169) (fun H locs hP hS => ?_)
              exact j_J13 σ24 _ _ _ hP hS (lv_sub hl [0] rfl) hf
            refine lv_if_ne (tgt := 168) hx hb dX2_readPart_155 (by decide) (fun c21 => ?_) (fun c21 => ?_)
            · refine lv_iload_n hx hb dX2_readPart_168 rfl (lv_at hl 3 rfl) ?_
              exact j_v19 r2 (if_neg c21).symm ls (lv_sub hl [0] rfl)
            · refine lv_aload_n hx hb dX2_readPart_158 rfl (lv_at hl 0 rfl) ?_
              refine gf_X2_9 (v := .ref (ad 3)) hC hP kX_2 rfl dX2_readPart_159 ?_
              refine gf_X2_64 (v := .int (σ.1 3 5)) hC hP kX_3 rfl dX2_readPart_162 ?_
              refine lv_goto (tgt := 169) hx hb dX2_readPart_165 (by decide) ?_
              exact j_v19 (σ.1 3 5) (if_pos c21).symm ls (lv_sub hl [0] rfl)
          · replace hf := fx_ie c18 hf
            refine lv_aload_n hx hb dX2_readPart_111 rfl (lv_at hl 0 rfl) ?_
            refine gf_X2_9 (v := .ref (ad 3)) hC hP kX_2 rfl dX2_readPart_112 ?_
            obtain ⟨σ27, hc25, hf⟩ := fxBV_e hf
            refine fx_cv hC hS (fx_runV (i := 3) (As := []) (rest := []) hC hP hS (ctX9_advance l hc25 D cy ad ec _) kX_3 (by decide) rfl kMV_X2_27 kC_X9_advance hd_X9_advance rfl ⟨(show 5 + 1 ≤ d + 1 + 7 from by omega), (show 8 + (1 + 11) + 64 * (5) ≤ 64 * (d + 1 + 7) from by omega)⟩ ⟨Nat.le_refl 0, Nat.le_refl 0⟩ hl.1 (Nat.le_of_ble_eq_true rfl) rfl dX2_readPart_115) (fun H locs hP hS => ?_)
            refine lv_aload_n hx hb dX2_readPart_118 rfl (lv_at hl 0 rfl) ?_
            refine lv_aload_n hx hb dX2_readPart_119 rfl (lv_at hl 1 rfl) ?_
            refine lv_iconst hx hb dX2_readPart_120 ki_0 ?_
            refine lv_iload_n hx hb dX2_readPart_121 rfl (lv_at hl 2 rfl) ?_
            refine lv_iconst hx hb dX2_readPart_122 ki_1 ?_
            refine lv_iadd hx hb dX2_readPart_123 ?_
            obtain ⟨r29, σ30, hc28, hf⟩ := fxBI_e hf
            refine fx_ci hC hS (fx_runV (i := 2) (As := [.ref (ad a1), .int 0, .int (a2 + 1)]) (rest := []) hC hP hS (hrc_readLevel hc28 D cy ad ec _) kX_2 (by decide) rfl kMV_X2_19 kC_X2_readLevel hd_X2_readLevel rfl ⟨(show d + 7 + 1 ≤ d + 1 + 7 from by omega), (show 8 + (7 + 11) + 64 * (d + 7) ≤ 64 * (d + 1 + 7) from by omega)⟩ ⟨Nat.le_refl 0, Nat.le_refl 0⟩ hl.1 (Nat.le_of_ble_eq_true rfl) rfl dX2_readPart_124) (fun H locs hP hS => ?_)
            refine lv_if_ne (tgt := 132) hx hb dX2_readPart_127 (by decide) (fun c31 => ?_) (fun c31 => ?_)
            · replace hf := fx_ie c31 hf
              refine lv_aload_n hx hb dX2_readPart_132 rfl (lv_at hl 0 rfl) ?_
              refine gf_X2_9 (v := .ref (ad 3)) hC hP kX_2 rfl dX2_readPart_133 ?_
              refine lv_bipush hx hb dX2_readPart_136 kb_41 ?_
              obtain ⟨r33, hc32, hf⟩ := fxBP_e hf
              refine fx_ci hC hS (fx_runV (i := 3) (As := [.int 41]) (rest := []) hC hP hS (ctX9_isSign l hc32 D cy ad ec _) kX_3 (by decide) rfl kMV_X2_52 kC_X9_isSign hd_X9_isSign rfl ⟨(show 0 + 1 ≤ d + 1 + 7 from by omega), (show 8 + (2 + 11) + 64 * (0) ≤ 64 * (d + 1 + 7) from by omega)⟩ ⟨Nat.le_refl 0, Nat.le_refl 0⟩ hl.1 (Nat.le_of_ble_eq_true rfl) rfl dX2_readPart_138) (fun H locs hP hS => ?_)
              refine lv_if_ne (tgt := 172) hx hb dX2_readPart_141 (by decide) (fun c35 => ?_) (fun c35 => ?_)
              · replace hf := fx_ie c35 hf
                exact j_J13 σ30 _ _ _ hP hS (lv_sub hl [0] rfl) hf
              · replace hf := fx_it c35 hf
                refine lv_aload_n hx hb dX2_readPart_144 rfl (lv_at hl 0 rfl) ?_
                refine gf_X2_9 (v := .ref (ad 3)) hC hP kX_2 rfl dX2_readPart_145 ?_
                refine lv_iconst hx hb dX2_readPart_148 ki_1 ?_
                obtain ⟨r37, σ38, hc36, hf⟩ := fxBI_e hf
                refine fx_ci hC hS (fx_runV (i := 3) (As := [.int 1]) (rest := []) hC hP hS (ctX9_wrong l hc36 D cy ad ec _) kX_3 (by decide) rfl kMV_X2_60 kC_X9_wrong hd_X9_wrong rfl ⟨(show 0 + 1 ≤ d + 1 + 7 from by omega), (show 8 + (2 + 11) + 64 * (0) ≤ 64 * (d + 1 + 7) from by omega)⟩ ⟨Nat.le_refl 0, Nat.le_refl 0⟩ hl.1 (Nat.le_of_ble_eq_true rfl) rfl dX2_readPart_149) (fun H locs hP hS => ?_)
                obtain ⟨h39, hf⟩ := fxG_e hf
                exact fx_zretf (fx_bon h39) hf hC hr hk hP hS dX2_readPart_152
            · replace hf := fx_it c31 hf
              refine lv_iconst hx hb dX2_readPart_130 ki_0 ?_
              exact fx_zretf rfl hf hC hr hk hP hS dX2_readPart_131
        · replace hf := fx_ie c12 hf
          refine lv_aload_n hx hb dX2_readPart_80 rfl (lv_at hl 0 rfl) ?_
          refine gf_X2_9 (v := .ref (ad 3)) hC hP kX_2 rfl dX2_readPart_81 ?_
          obtain ⟨σ42, hc40, hf⟩ := fxBV_e hf
          refine fx_cv hC hS (fx_runV (i := 3) (As := []) (rest := []) hC hP hS (ctX9_advance l hc40 D cy ad ec _) kX_3 (by decide) rfl kMV_X2_27 kC_X9_advance hd_X9_advance rfl ⟨(show 5 + 1 ≤ d + 1 + 7 from by omega), (show 8 + (1 + 11) + 64 * (5) ≤ 64 * (d + 1 + 7) from by omega)⟩ ⟨Nat.le_refl 0, Nat.le_refl 0⟩ hl.1 (Nat.le_of_ble_eq_true rfl) rfl dX2_readPart_84) (fun H locs hP hS => ?_)
          refine lv_aload_n hx hb dX2_readPart_87 rfl (lv_at hl 0 rfl) ?_
          refine lv_aload_n hx hb dX2_readPart_88 rfl (lv_at hl 1 rfl) ?_
          refine lv_iload_n hx hb dX2_readPart_89 rfl (lv_at hl 2 rfl) ?_
          refine lv_iconst hx hb dX2_readPart_90 ki_1 ?_
          refine lv_iadd hx hb dX2_readPart_91 ?_
          obtain ⟨r44, σ45, hc43, hf⟩ := fxBI_e hf
          refine fx_ci hC hS (fx_runV (i := 2) (As := [.ref (ad a1), .int (a2 + 1)]) (rest := []) hC hP hS (hrc_readPart hc43 D cy ad ec _) kX_2 (by decide) rfl kMV_X2_15 kC_X2_readPart hd_X2_readPart rfl ⟨(show d + 7 + 1 ≤ d + 1 + 7 from by omega), (show 8 + (7 + 11) + 64 * (d + 7) ≤ 64 * (d + 1 + 7) from by omega)⟩ ⟨Nat.le_refl 0, Nat.le_refl 0⟩ hl.1 (Nat.le_of_ble_eq_true rfl) rfl dX2_readPart_92) (fun H locs hP hS => ?_)
          refine lv_istore (lv' := [(6, .int r44), (0, .ref (ad 2)), (1, .ref (ad a1)), (2, .int a2), (3, .int r2), (4, .int r5), (5, .int r8)]) hx hb dX2_readPart_95 hl (by decide) rfl (fun ls hl => ?_)
          refine lv_aload_n hx hb dX2_readPart_97 rfl (lv_at hl 2 rfl) ?_
          refine lv_bipush hx hb dX2_readPart_98 kb_m5 ?_
          obtain ⟨σ48, hc46, hf⟩ := fxBV_e hf
          refine fx_cv hC hS (fx_runV (i := a1) (As := [.int (-5)]) (rest := []) hC hP hS (ctX1_put l hc46 D cy ad ec _) h_a1 (by decide) rfl kMV_X2_32 kC_X1_put hd_X1_put rfl ⟨(show 0 + 1 ≤ d + 1 + 7 from by omega), (show 8 + (2 + 11) + 64 * (0) ≤ 64 * (d + 1 + 7) from by omega)⟩ ⟨Nat.le_refl 0, Nat.le_refl 0⟩ hl.1 (Nat.le_of_ble_eq_true rfl) rfl dX2_readPart_100) (fun H locs hP hS => ?_)
          refine lv_iload hx hb dX2_readPart_103 (lv_at hl 0 rfl) ?_
          obtain ⟨h49, hf⟩ := fxG_e hf
          exact fx_zretf (fx_bon h49) hf hC hr hk hP hS dX2_readPart_105
      · replace hf := fx_ie c11 hf
        refine lv_aload_n hx hb dX2_readPart_66 rfl (lv_at hl 0 rfl) ?_
        refine gf_X2_9 (v := .ref (ad 3)) hC hP kX_2 rfl dX2_readPart_67 ?_
        refine lv_iconst hx hb dX2_readPart_70 ki_5 ?_
        obtain ⟨r51, σ52, hc50, hf⟩ := fxBI_e hf
        refine fx_ci hC hS (fx_runV (i := 3) (As := [.int 5]) (rest := []) hC hP hS (ctX9_wrong l hc50 D cy ad ec _) kX_3 (by decide) rfl kMV_X2_60 kC_X9_wrong hd_X9_wrong rfl ⟨(show 0 + 1 ≤ d + 1 + 7 from by omega), (show 8 + (2 + 11) + 64 * (0) ≤ 64 * (d + 1 + 7) from by omega)⟩ ⟨Nat.le_refl 0, Nat.le_refl 0⟩ hl.1 (Nat.le_of_ble_eq_true rfl) rfl dX2_readPart_71) (fun H locs hP hS => ?_)
        obtain ⟨h53, hf⟩ := fxG_e hf
        exact fx_zretf (fx_bon h53) hf hC hr hk hP hS dX2_readPart_74
    refine lv_if_ne (tgt := 61) hx hb dX2_readPart_29 (by decide) (fun c54 => ?_) (fun c54 => ?_)
    · replace hf := fx_ie c54 hf
      exact j_J10  _ _ _ hP hS (lv_sub hl [3, 4, 5, 2, 1, 0] rfl) hf
    · replace hf := fx_it c54 hf
      refine lv_iload hx hb dX2_readPart_32 (lv_at hl 1 rfl) ?_
      refine lv_if_ne (tgt := 61) hx hb dX2_readPart_34 (by decide) (fun c55 => ?_) (fun c55 => ?_)
      · replace hf := fx_ie c55 hf
        exact j_J10  _ _ _ hP hS (lv_sub hl [3, 4, 5, 2, 1, 0] rfl) hf
      · replace hf := fx_it c55 hf
        refine lv_iload hx hb dX2_readPart_37 (lv_at hl 0 rfl) ?_
        refine lv_if_ne (tgt := 61) hx hb dX2_readPart_39 (by decide) (fun c56 => ?_) (fun c56 => ?_)
        · replace hf := fx_ie c56 hf
          exact j_J10  _ _ _ hP hS (lv_sub hl [3, 4, 5, 2, 1, 0] rfl) hf
        · replace hf := fx_it c56 hf
          refine lv_aload_n hx hb dX2_readPart_42 rfl (lv_at hl 3 rfl) ?_
          refine gf_X2_9 (v := .ref (ad 3)) hC hP kX_2 rfl dX2_readPart_43 ?_
          obtain ⟨r58, hc57, hf⟩ := fxBP_e hf
          refine fx_ci hC hS (fx_runV (i := 3) (As := []) (rest := []) hC hP hS (ctX9_isNumber l hc57 D cy ad ec _) kX_3 (by decide) rfl kMV_X2_56 kC_X9_isNumber hd_X9_isNumber rfl ⟨(show 0 + 1 ≤ d + 1 + 7 from by omega), (show 8 + (1 + 11) + 64 * (0) ≤ 64 * (d + 1 + 7) from by omega)⟩ ⟨Nat.le_refl 0, Nat.le_refl 0⟩ hl.1 (Nat.le_of_ble_eq_true rfl) rfl dX2_readPart_46) (fun H locs hP hS => ?_)
          refine lv_if_ne (tgt := 61) hx hb dX2_readPart_49 (by decide) (fun c60 => ?_) (fun c60 => ?_)
          · replace hf := fx_ie c60 hf
            exact j_J10  _ _ _ hP hS (lv_sub hl [3, 4, 5, 2, 1, 0] rfl) hf
          · replace hf := fx_it c60 hf
            refine lv_aload_n hx hb dX2_readPart_52 rfl (lv_at hl 3 rfl) ?_
            refine gf_X2_9 (v := .ref (ad 3)) hC hP kX_2 rfl dX2_readPart_53 ?_
            refine lv_iconst hx hb dX2_readPart_56 ki_1 ?_
            obtain ⟨r62, σ63, hc61, hf⟩ := fxBI_e hf
            refine fx_ci hC hS (fx_runV (i := 3) (As := [.int 1]) (rest := []) hC hP hS (ctX9_wrong l hc61 D cy ad ec _) kX_3 (by decide) rfl kMV_X2_60 kC_X9_wrong hd_X9_wrong rfl ⟨(show 0 + 1 ≤ d + 1 + 7 from by omega), (show 8 + (2 + 11) + 64 * (0) ≤ 64 * (d + 1 + 7) from by omega)⟩ ⟨Nat.le_refl 0, Nat.le_refl 0⟩ hl.1 (Nat.le_of_ble_eq_true rfl) rfl dX2_readPart_57) (fun H locs hP hS => ?_)
            obtain ⟨h64, hf⟩ := fxG_e hf
            exact fx_zretf (fx_bon h64) hf hC hr hk hP hS dX2_readPart_60
  exact main _ _ _ hP hS hl
theorem gX2_rec_ok (l : Launch) : ∀ d : Nat, (∀ {b0 : Nat} {b1 : Int32} {b2 : Int32} {s0 : FH} {s1 : FH} {u : Int32}, (gX2_rec d).1 b0 b1 b2 s0 = some (u, s1) → fx_Mi l yX2_readLevel cX2_readLevel 7 (some .boolean) (d + 7) LX (fun ad ec => [.ref (ad 2), .ref (ad b0), .int b1, .int b2]) s0 u s1) ∧ (∀ {b0 : Nat} {b1 : Int32} {s0 : FH} {s1 : FH} {u : Int32}, (gX2_rec d).2 b0 b1 s0 = some (u, s1) → fx_Mi l yX2_readPart cX2_readPart 7 (some .boolean) (d + 7) LX (fun ad ec => [.ref (ad 2), .ref (ad b0), .int b1]) s0 u s1) := by
  intro d
  induction d with
  | zero =>
    exact ⟨(by intros; rename_i hf; rw [gX2_rec] at hf; cases hf), (by intros; rename_i hf; rw [gX2_rec] at hf; cases hf)⟩
  | succ d ih =>
    exact ⟨(by intros; rename_i hf; rw [gX2_rec] at hf; exact cbX2_readLevel l (gX2_rec d).1 (gX2_rec d).2 d ih.1 ih.2 hf), (by intros; rename_i hf; rw [gX2_rec] at hf; exact cbX2_readPart l (gX2_rec d).1 (gX2_rec d).2 d ih.1 ih.2 hf)⟩
theorem ctX2_readLevel (l : Launch) (d : Nat) {b0 : Nat} {b1 : Int32} {b2 : Int32} {s0 : FH} {s1 : FH} {u : Int32} (hf : fX2_readLevel d b0 b1 b2 s0 = some (u, s1)) : fx_Mi l yX2_readLevel cX2_readLevel 7 (some .boolean) (d + 7) LX (fun ad ec => [.ref (ad 2), .ref (ad b0), .int b1, .int b2]) s0 u s1 := (gX2_rec_ok l d).1 hf
theorem ctX2_readPart (l : Launch) (d : Nat) {b0 : Nat} {b1 : Int32} {s0 : FH} {s1 : FH} {u : Int32} (hf : fX2_readPart d b0 b1 s0 = some (u, s1)) : fx_Mi l yX2_readPart cX2_readPart 7 (some .boolean) (d + 7) LX (fun ad ec => [.ref (ad 2), .ref (ad b0), .int b1]) s0 u s1 := (gX2_rec_ok l d).2 hf

set_option maxHeartbeats 4000000 in
set_option maxRecDepth 100000 in
theorem ctX4_takeNewName (l : Launch) {a1 : Nat} {σ σ' : FH} {v : Int32} (hf : fX4_takeNewName a1 σ = some (v, σ')) : fx_Mi l yX4_takeNewName cX4_takeNewName 2 (some .boolean) (6) LX (fun ad ec => [.ref (ad 1), .ref (ad a1)]) σ v σ' := by
  unfold fX4_takeNewName at hf
  obtain ⟨h_a1, hf⟩ := fxG_e hf
  refine fx_mi' (own := RX4) rfl (by decide +kernel) ?_
  intro p e s m args below meth c D cy ad ec A hC hr hk hP hS
  have hx := hC.1
  have hb := hC.2.1
  have hl := lv_entry ([.ref (ad 1), .ref (ad a1)]) (n := 2) (Nat.le_of_ble_eq_true rfl)
  show W _ _ _ _ _ _ _ _ _ _ _ _ _ _ _ (entryFrame m ([.ref (ad 1), .ref (ad a1)] : List Value).toArray 2)
  rw [lg_entry_eq]
  generalize (lg_sl ([.ref (ad 1), .ref (ad a1)]) ++ List.replicate (2 - (lg_sl ([.ref (ad 1), .ref (ad a1)])).length) Slot.unset).toArray = ls at hl ⊢
  have hl : lv_has ls 2 [(0, .ref (ad 1)), (1, .ref (ad a1))] := hl
  have main : ∀ (H : Heap) (locs : List Loc) (ls : Array Slot), fx_P D cy LX ad σ H → va_S A s.heap H locs → lv_has ls 2 [(0, .ref (ad 1)), (1, .ref (ad a1))] → W p l e (fx_R (6)) s m args below meth c H locs 0 0 (fx_Qi D cy LX ad A below args s v σ') (F0 m 0 ls []) := by
    intro H locs ls hP hS hl
    refine lv_aload_n hx hb dX4_takeNewName_0 rfl (lv_at hl 0 rfl) ?_
    refine gf_X4_9 (v := .ref (ad 3)) hC hP kX_1 rfl dX4_takeNewName_1 ?_
    obtain ⟨r2, hc1, hf⟩ := fxBP_e hf
    refine fx_ci hC hS (fx_runV (i := 3) (As := []) (rest := []) hC hP hS (ctX9_isName l hc1 D cy ad ec _) kX_3 (by decide) rfl kMV_X4_232 kC_X9_isName hd_X9_isName rfl ⟨(Nat.le_of_ble_eq_true rfl), (Nat.le_of_ble_eq_true rfl)⟩ ⟨Nat.le_refl 0, Nat.le_refl 0⟩ hl.1 (Nat.le_of_ble_eq_true rfl) rfl dX4_takeNewName_4) (fun H locs hP hS => ?_)
    refine lv_if_ne (tgt := 19) hx hb dX4_takeNewName_7 (by decide) (fun c4 => ?_) (fun c4 => ?_)
    · replace hf := fx_ie c4 hf
      refine lv_aload_n hx hb dX4_takeNewName_19 rfl (lv_at hl 1 rfl) ?_
      refine lv_aload_n hx hb dX4_takeNewName_20 rfl (lv_at hl 0 rfl) ?_
      refine gf_X4_9 (v := .ref (ad 3)) hC hP kX_1 rfl dX4_takeNewName_21 ?_
      refine gf_X4_107 (v := .long (σ.2.1 3 7)) hC hP kX_3 rfl dX4_takeNewName_24 ?_
      obtain ⟨r6, hc5, hf⟩ := fxBP_e hf
      refine fx_ci hC hS (fx_runV (i := a1) (As := [.long (σ.2.1 3 7)]) (rest := []) hC hP hS (ctX5_wareNamed l hc5 D cy ad ec _) h_a1 (by decide) rfl kMV_X4_235 kC_X5_wareNamed hd_X5_wareNamed rfl ⟨(Nat.le_of_ble_eq_true rfl), (Nat.le_of_ble_eq_true rfl)⟩ ⟨Nat.le_refl 0, Nat.le_refl 0⟩ hl.1 (Nat.le_of_ble_eq_true rfl) rfl dX4_takeNewName_27) (fun H locs hP hS => ?_)
      refine lv_iconst hx hb dX4_takeNewName_30 ki_m1 ?_
      obtain ⟨J8, hJ8, hf⟩ := fxL_e hf
      have j_J8 : ∀  (H : Heap) (locs : List Loc) (ls : Array Slot), fx_P D cy LX ad σ H → va_S A s.heap H locs → lv_has ls 2 [(0, .ref (ad 1))] → J8 = some (v, σ') → W p l e (fx_R (6)) s m args below meth c H locs 0 0 (fx_Qi D cy LX ad A below args s v σ') (F0 m 49 ls []) := by
        intro  H locs ls hP hS hl hf
        replace hf := hJ8.symm.trans hf
        refine lv_aload_n hx hb dX4_takeNewName_49 rfl (lv_at hl 0 rfl) ?_
        refine gf_X4_9 (v := .ref (ad 3)) hC hP kX_1 rfl dX4_takeNewName_50 ?_
        refine lv_iconst hx hb dX4_takeNewName_53 ki_3 ?_
        obtain ⟨r10, σ11, hc9, hf⟩ := fxBI_e hf
        refine fx_ci hC hS (fx_runV (i := 3) (As := [.int 3]) (rest := []) hC hP hS (ctX9_wrong l hc9 D cy ad ec _) kX_3 (by decide) rfl kMV_X4_97 kC_X9_wrong hd_X9_wrong rfl ⟨(Nat.le_of_ble_eq_true rfl), (Nat.le_of_ble_eq_true rfl)⟩ ⟨Nat.le_refl 0, Nat.le_refl 0⟩ hl.1 (Nat.le_of_ble_eq_true rfl) rfl dX4_takeNewName_54) (fun H locs hP hS => ?_)
        obtain ⟨h12, hf⟩ := fxG_e hf
        exact fx_zretf (fx_bon h12) hf hC hr hk hP hS dX4_takeNewName_57
      refine lv_icmp_ne (tgt := 49) hx hb dX4_takeNewName_31 (by decide) (fun c13 => ?_) (fun c13 => ?_)
      · replace hf := fx_ie c13 hf
        exact j_J8  _ _ _ hP hS (lv_sub hl [0] rfl) hf
      · replace hf := fx_it c13 hf
        refine lv_aload_n hx hb dX4_takeNewName_34 rfl (lv_at hl 1 rfl) ?_
        refine lv_aload_n hx hb dX4_takeNewName_35 rfl (lv_at hl 0 rfl) ?_
        refine gf_X4_9 (v := .ref (ad 3)) hC hP kX_1 rfl dX4_takeNewName_36 ?_
        refine gf_X4_107 (v := .long (σ.2.1 3 7)) hC hP kX_3 rfl dX4_takeNewName_39 ?_
        obtain ⟨r15, hc14, hf⟩ := fxBP_e hf
        refine fx_ci hC hS (fx_runV (i := a1) (As := [.long (σ.2.1 3 7)]) (rest := []) hC hP hS (ctX5_partyNamed l hc14 D cy ad ec _) h_a1 (by decide) rfl kMV_X4_239 kC_X5_partyNamed hd_X5_partyNamed rfl ⟨(Nat.le_of_ble_eq_true rfl), (Nat.le_of_ble_eq_true rfl)⟩ ⟨Nat.le_refl 0, Nat.le_refl 0⟩ hl.1 (Nat.le_of_ble_eq_true rfl) rfl dX4_takeNewName_42) (fun H locs hP hS => ?_)
        refine lv_iconst hx hb dX4_takeNewName_45 ki_m1 ?_
        refine lv_icmp_eq (tgt := 58) hx hb dX4_takeNewName_46 (by decide) (fun c17 => ?_) (fun c17 => ?_)
        · replace hf := fx_it c17 hf
          refine lv_aload_n hx hb dX4_takeNewName_58 rfl (lv_at hl 0 rfl) ?_
          refine gf_X4_9 (v := .ref (ad 3)) hC hP kX_1 rfl dX4_takeNewName_59 ?_
          obtain ⟨σ20, hc18, hf⟩ := fxBV_e hf
          refine fx_cv hC hS (fx_runV (i := 3) (As := []) (rest := []) hC hP hS (ctX9_advance l hc18 D cy ad ec _) kX_3 (by decide) rfl kMV_X4_104 kC_X9_advance hd_X9_advance rfl ⟨(Nat.le_of_ble_eq_true rfl), (Nat.le_of_ble_eq_true rfl)⟩ ⟨Nat.le_refl 0, Nat.le_refl 0⟩ hl.1 (Nat.le_of_ble_eq_true rfl) rfl dX4_takeNewName_62) (fun H locs hP hS => ?_)
          refine lv_iconst hx hb dX4_takeNewName_65 ki_1 ?_
          exact fx_zretf rfl hf hC hr hk hP hS dX4_takeNewName_66
        · replace hf := fx_ie c17 hf
          exact j_J8  _ _ _ hP hS (lv_sub hl [0] rfl) hf
    · replace hf := fx_it c4 hf
      refine lv_aload_n hx hb dX4_takeNewName_10 rfl (lv_at hl 0 rfl) ?_
      refine gf_X4_9 (v := .ref (ad 3)) hC hP kX_1 rfl dX4_takeNewName_11 ?_
      refine lv_iconst hx hb dX4_takeNewName_14 ki_1 ?_
      obtain ⟨r22, σ23, hc21, hf⟩ := fxBI_e hf
      refine fx_ci hC hS (fx_runV (i := 3) (As := [.int 1]) (rest := []) hC hP hS (ctX9_wrong l hc21 D cy ad ec _) kX_3 (by decide) rfl kMV_X4_97 kC_X9_wrong hd_X9_wrong rfl ⟨(Nat.le_of_ble_eq_true rfl), (Nat.le_of_ble_eq_true rfl)⟩ ⟨Nat.le_refl 0, Nat.le_refl 0⟩ hl.1 (Nat.le_of_ble_eq_true rfl) rfl dX4_takeNewName_15) (fun H locs hP hS => ?_)
      obtain ⟨h24, hf⟩ := fxG_e hf
      exact fx_zretf (fx_bon h24) hf hC hr hk hP hS dX4_takeNewName_18
  exact main _ _ _ hP hS hl

set_option maxHeartbeats 4000000 in
set_option maxRecDepth 100000 in
theorem ctX4_takeKind (l : Launch) {a1 : Nat} {a2 : Int32} {σ σ' : FH} {v : Int32} (hf : fX4_takeKind a1 a2 σ = some (v, σ')) : fx_Mi l yX4_takeKind cX4_takeKind 4 (some .boolean) (6) LX (fun ad ec => [.ref (ad 1), .ref (ad a1), .int a2]) σ v σ' := by
  unfold fX4_takeKind at hf
  obtain ⟨h_a1, hf⟩ := fxG_e hf
  refine fx_mi' (own := RX4) rfl (by decide +kernel) ?_
  intro p e s m args below meth c D cy ad ec A hC hr hk hP hS
  have hx := hC.1
  have hb := hC.2.1
  have hl := lv_entry ([.ref (ad 1), .ref (ad a1), .int a2]) (n := 4) (Nat.le_of_ble_eq_true rfl)
  show W _ _ _ _ _ _ _ _ _ _ _ _ _ _ _ (entryFrame m ([.ref (ad 1), .ref (ad a1), .int a2] : List Value).toArray 4)
  rw [lg_entry_eq]
  generalize (lg_sl ([.ref (ad 1), .ref (ad a1), .int a2]) ++ List.replicate (4 - (lg_sl ([.ref (ad 1), .ref (ad a1), .int a2])).length) Slot.unset).toArray = ls at hl ⊢
  have hl : lv_has ls 4 [(0, .ref (ad 1)), (1, .ref (ad a1)), (2, .int a2)] := hl
  have main : ∀ (H : Heap) (locs : List Loc) (ls : Array Slot), fx_P D cy LX ad σ H → va_S A s.heap H locs → lv_has ls 4 [(0, .ref (ad 1)), (1, .ref (ad a1)), (2, .int a2)] → W p l e (fx_R (6)) s m args below meth c H locs 0 0 (fx_Qi D cy LX ad A below args s v σ') (F0 m 0 ls []) := by
    intro H locs ls hP hS hl
    refine lv_aload_n hx hb dX4_takeKind_0 rfl (lv_at hl 0 rfl) ?_
    refine gf_X4_9 (v := .ref (ad 3)) hC hP kX_1 rfl dX4_takeKind_1 ?_
    refine fx_gete hC hS 13 (by decide) rfl kFw_X4_147 dX4_takeKind_4 ?_
    obtain ⟨r2, hc1, hf⟩ := fxBP_e hf
    refine fx_ci hC hS (fx_runV (i := 3) (As := [.ref (ec 13)]) (rest := []) hC hP hS (ctX9_isWord l hc1 D cy ad ec _) kX_3 (by decide) rfl kMV_X4_66 kC_X9_isWord hd_X9_isWord rfl ⟨(Nat.le_of_ble_eq_true rfl), (Nat.le_of_ble_eq_true rfl)⟩ ⟨Nat.le_refl 0, Nat.le_refl 0⟩ hl.1 (Nat.le_of_ble_eq_true rfl) rfl dX4_takeKind_7) (fun H locs hP hS => ?_)
    obtain ⟨J4, hJ4, hf⟩ := fxL_e hf
    have j_J4 : ∀ (y5 : Int32) (H : Heap) (locs : List Loc) (ls : Array Slot), fx_P D cy LX ad σ H → va_S A s.heap H locs → lv_has ls 4 [(0, .ref (ad 1)), (1, .ref (ad a1)), (2, .int a2)] → J4 y5 = some (v, σ') → W p l e (fx_R (6)) s m args below meth c H locs 0 0 (fx_Qi D cy LX ad A below args s v σ') (F0 m 69 ls [.int y5]) := by
      intro y5 H locs ls hP hS hl hf
      replace hf := fxk1 hJ4 hf
      refine lv_istore_n (lv' := [(3, .int y5), (0, .ref (ad 1)), (1, .ref (ad a1)), (2, .int a2)]) hx hb dX4_takeKind_69 rfl hl (by decide) rfl (fun ls hl => ?_)
      refine lv_iload_n hx hb dX4_takeKind_70 rfl (lv_at hl 0 rfl) ?_
      refine lv_iconst hx hb dX4_takeKind_71 ki_m1 ?_
      refine lv_icmp_ne (tgt := 84) hx hb dX4_takeKind_72 (by decide) (fun c6 => ?_) (fun c6 => ?_)
      · replace hf := fx_ie c6 hf
        refine lv_aload_n hx hb dX4_takeKind_84 rfl (lv_at hl 2 rfl) ?_
        refine gf_X4_159 (v := .ref (ad (a1 + 2))) hC hP h_a1 rfl dX4_takeKind_85 ?_
        refine lv_iload_n hx hb dX4_takeKind_88 rfl (lv_at hl 3 rfl) ?_
        refine lv_iload_n hx hb dX4_takeKind_89 rfl (lv_at hl 0 rfl) ?_
        obtain ⟨h7, hf⟩ := fxG_e hf
        obtain ⟨σ8, eσ8, hf⟩ := fxL_e hf
        refine fx_iast hC hP hS (lyX_5_2 h_a1) (fx_inp h7) dX4_takeKind_90 (fun H locs hP hS => ?_)
        replace hP := fx_Pe eσ8 hP
        refine lv_aload_n hx hb dX4_takeKind_91 rfl (lv_at hl 1 rfl) ?_
        refine gf_X4_9 (v := .ref (ad 3)) hC hP kX_1 rfl dX4_takeKind_92 ?_
        obtain ⟨σ11, hc9, hf⟩ := fxBV_e hf
        refine fx_cv hC hS (fx_runV (i := 3) (As := []) (rest := []) hC hP hS (ctX9_advance l hc9 D cy ad ec _) kX_3 (by decide) rfl kMV_X4_104 kC_X9_advance hd_X9_advance rfl ⟨(Nat.le_of_ble_eq_true rfl), (Nat.le_of_ble_eq_true rfl)⟩ ⟨Nat.le_refl 0, Nat.le_refl 0⟩ hl.1 (Nat.le_of_ble_eq_true rfl) rfl dX4_takeKind_95) (fun H locs hP hS => ?_)
        refine lv_iconst hx hb dX4_takeKind_98 ki_1 ?_
        exact fx_zretf rfl hf hC hr hk hP hS dX4_takeKind_99
      · replace hf := fx_it c6 hf
        refine lv_aload_n hx hb dX4_takeKind_75 rfl (lv_at hl 1 rfl) ?_
        refine gf_X4_9 (v := .ref (ad 3)) hC hP kX_1 rfl dX4_takeKind_76 ?_
        refine lv_iconst hx hb dX4_takeKind_79 ki_1 ?_
        obtain ⟨r13, σ14, hc12, hf⟩ := fxBI_e hf
        refine fx_ci hC hS (fx_runV (i := 3) (As := [.int 1]) (rest := []) hC hP hS (ctX9_wrong l hc12 D cy ad ec _) kX_3 (by decide) rfl kMV_X4_97 kC_X9_wrong hd_X9_wrong rfl ⟨(Nat.le_of_ble_eq_true rfl), (Nat.le_of_ble_eq_true rfl)⟩ ⟨Nat.le_refl 0, Nat.le_refl 0⟩ hl.1 (Nat.le_of_ble_eq_true rfl) rfl dX4_takeKind_80) (fun H locs hP hS => ?_)
        obtain ⟨h15, hf⟩ := fxG_e hf
        exact fx_zretf (fx_bon h15) hf hC hr hk hP hS dX4_takeKind_83
    refine lv_if_eq (tgt := 17) hx hb dX4_takeKind_10 (by decide) (fun c16 => ?_) (fun c16 => ?_)
    · replace hf := fx_it c16 hf
      refine lv_aload_n hx hb dX4_takeKind_17 rfl (lv_at hl 0 rfl) ?_
      refine gf_X4_9 (v := .ref (ad 3)) hC hP kX_1 rfl dX4_takeKind_18 ?_
      refine fx_gete hC hS 14 (by decide) rfl kFw_X4_150 dX4_takeKind_21 ?_
      obtain ⟨r18, hc17, hf⟩ := fxBP_e hf
      refine fx_ci hC hS (fx_runV (i := 3) (As := [.ref (ec 14)]) (rest := []) hC hP hS (ctX9_isWord l hc17 D cy ad ec _) kX_3 (by decide) rfl kMV_X4_66 kC_X9_isWord hd_X9_isWord rfl ⟨(Nat.le_of_ble_eq_true rfl), (Nat.le_of_ble_eq_true rfl)⟩ ⟨Nat.le_refl 0, Nat.le_refl 0⟩ hl.1 (Nat.le_of_ble_eq_true rfl) rfl dX4_takeKind_24) (fun H locs hP hS => ?_)
      refine lv_if_eq (tgt := 34) hx hb dX4_takeKind_27 (by decide) (fun c20 => ?_) (fun c20 => ?_)
      · replace hf := fx_it c20 hf
        refine lv_aload_n hx hb dX4_takeKind_34 rfl (lv_at hl 0 rfl) ?_
        refine gf_X4_9 (v := .ref (ad 3)) hC hP kX_1 rfl dX4_takeKind_35 ?_
        refine fx_gete hC hS 15 (by decide) rfl kFw_X4_153 dX4_takeKind_38 ?_
        obtain ⟨r22, hc21, hf⟩ := fxBP_e hf
        refine fx_ci hC hS (fx_runV (i := 3) (As := [.ref (ec 15)]) (rest := []) hC hP hS (ctX9_isWord l hc21 D cy ad ec _) kX_3 (by decide) rfl kMV_X4_66 kC_X9_isWord hd_X9_isWord rfl ⟨(Nat.le_of_ble_eq_true rfl), (Nat.le_of_ble_eq_true rfl)⟩ ⟨Nat.le_refl 0, Nat.le_refl 0⟩ hl.1 (Nat.le_of_ble_eq_true rfl) rfl dX4_takeKind_41) (fun H locs hP hS => ?_)
        refine lv_if_eq (tgt := 51) hx hb dX4_takeKind_44 (by decide) (fun c24 => ?_) (fun c24 => ?_)
        · replace hf := fx_it c24 hf
          refine lv_aload_n hx hb dX4_takeKind_51 rfl (lv_at hl 0 rfl) ?_
          refine gf_X4_9 (v := .ref (ad 3)) hC hP kX_1 rfl dX4_takeKind_52 ?_
          refine fx_gete hC hS 16 (by decide) rfl kFw_X4_156 dX4_takeKind_55 ?_
          obtain ⟨r26, hc25, hf⟩ := fxBP_e hf
          refine fx_ci hC hS (fx_runV (i := 3) (As := [.ref (ec 16)]) (rest := []) hC hP hS (ctX9_isWord l hc25 D cy ad ec _) kX_3 (by decide) rfl kMV_X4_66 kC_X9_isWord hd_X9_isWord rfl ⟨(Nat.le_of_ble_eq_true rfl), (Nat.le_of_ble_eq_true rfl)⟩ ⟨Nat.le_refl 0, Nat.le_refl 0⟩ hl.1 (Nat.le_of_ble_eq_true rfl) rfl dX4_takeKind_58) (fun H locs hP hS => ?_)
          refine lv_if_eq (tgt := 68) hx hb dX4_takeKind_61 (by decide) (fun c28 => ?_) (fun c28 => ?_)
          · replace hf := fx_it c28 hf
            refine lv_iconst hx hb dX4_takeKind_68 ki_m1 ?_
            exact j_J4 (-1) _ _ _ hP hS (lv_sub hl [0, 1, 2] rfl) hf
          · replace hf := fx_ie c28 hf
            refine lv_iconst hx hb dX4_takeKind_64 ki_3 ?_
            refine lv_goto (tgt := 69) hx hb dX4_takeKind_65 (by decide) ?_
            exact j_J4 3 _ _ _ hP hS (lv_sub hl [0, 1, 2] rfl) hf
        · replace hf := fx_ie c24 hf
          refine lv_iconst hx hb dX4_takeKind_47 ki_2 ?_
          refine lv_goto (tgt := 69) hx hb dX4_takeKind_48 (by decide) ?_
          exact j_J4 2 _ _ _ hP hS (lv_sub hl [0, 1, 2] rfl) hf
      · replace hf := fx_ie c20 hf
        refine lv_iconst hx hb dX4_takeKind_30 ki_1 ?_
        refine lv_goto (tgt := 69) hx hb dX4_takeKind_31 (by decide) ?_
        exact j_J4 1 _ _ _ hP hS (lv_sub hl [0, 1, 2] rfl) hf
    · replace hf := fx_ie c16 hf
      refine lv_iconst hx hb dX4_takeKind_13 ki_0 ?_
      refine lv_goto (tgt := 69) hx hb dX4_takeKind_14 (by decide) ?_
      exact j_J4 0 _ _ _ hP hS (lv_sub hl [0, 1, 2] rfl) hf
  exact main _ _ _ hP hS hl

set_option maxHeartbeats 4000000 in
set_option maxRecDepth 100000 in
theorem ctX4_readWare (l : Launch) {a1 : Nat} {σ σ' : FH} {v : Int32} (hf : fX4_readWare a1 σ = some (v, σ')) : fx_Mi l yX4_readWare cX4_readWare 7 (some .boolean) (7) LX (fun ad ec => [.ref (ad 1), .ref (ad a1)]) σ v σ' := by
  unfold fX4_readWare at hf
  obtain ⟨h_a1, hf⟩ := fxG_e hf
  refine fx_mi' (own := RX4) rfl (by decide +kernel) ?_
  intro p e s m args below meth c D cy ad ec A hC hr hk hP hS
  have hx := hC.1
  have hb := hC.2.1
  have hl := lv_entry ([.ref (ad 1), .ref (ad a1)]) (n := 7) (Nat.le_of_ble_eq_true rfl)
  show W _ _ _ _ _ _ _ _ _ _ _ _ _ _ _ (entryFrame m ([.ref (ad 1), .ref (ad a1)] : List Value).toArray 7)
  rw [lg_entry_eq]
  generalize (lg_sl ([.ref (ad 1), .ref (ad a1)]) ++ List.replicate (7 - (lg_sl ([.ref (ad 1), .ref (ad a1)])).length) Slot.unset).toArray = ls at hl ⊢
  have hl : lv_has ls 7 [(0, .ref (ad 1)), (1, .ref (ad a1))] := hl
  have main : ∀ (H : Heap) (locs : List Loc) (ls : Array Slot), fx_P D cy LX ad σ H → va_S A s.heap H locs → lv_has ls 7 [(0, .ref (ad 1)), (1, .ref (ad a1))] → W p l e (fx_R (7)) s m args below meth c H locs 0 0 (fx_Qi D cy LX ad A below args s v σ') (F0 m 0 ls []) := by
    intro H locs ls hP hS hl
    refine lv_aload_n hx hb dX4_readWare_0 rfl (lv_at hl 1 rfl) ?_
    refine gf_X4_101 (v := .int (σ.1 a1 0)) hC hP h_a1 rfl dX4_readWare_1 ?_
    obtain ⟨v1, ev1, hf⟩ := fxL_e hf
    refine fx_ti ev1 ?_
    refine lv_istore_n (lv' := [(2, .int v1), (0, .ref (ad 1)), (1, .ref (ad a1))]) hx hb dX4_readWare_4 rfl hl (by decide) rfl (fun ls hl => ?_)
    refine lv_iload_n hx hb dX4_readWare_5 rfl (lv_at hl 0 rfl) ?_
    refine lv_bipush hx hb dX4_readWare_6 kb_6 ?_
    refine lv_icmp_lt (tgt := 20) hx hb dX4_readWare_8 (by decide) (fun c2 => ?_) (fun c2 => ?_)
    · replace hf := fx_it c2 hf
      refine lv_aload_n hx hb dX4_readWare_20 rfl (lv_at hl 1 rfl) ?_
      refine gf_X4_9 (v := .ref (ad 3)) hC hP kX_1 rfl dX4_readWare_21 ?_
      obtain ⟨σ5, hc3, hf⟩ := fxBV_e hf
      refine fx_cv hC hS (fx_runV (i := 3) (As := []) (rest := []) hC hP hS (ctX9_advance l hc3 D cy ad ec _) kX_3 (by decide) rfl kMV_X4_104 kC_X9_advance hd_X9_advance rfl ⟨(Nat.le_of_ble_eq_true rfl), (Nat.le_of_ble_eq_true rfl)⟩ ⟨Nat.le_refl 0, Nat.le_refl 0⟩ hl.1 (Nat.le_of_ble_eq_true rfl) rfl dX4_readWare_24) (fun H locs hP hS => ?_)
      refine lv_aload_n hx hb dX4_readWare_27 rfl (lv_at hl 1 rfl) ?_
      refine gf_X4_9 (v := .ref (ad 3)) hC hP kX_1 rfl dX4_readWare_28 ?_
      refine gf_X4_107 (v := .long (σ5.2.1 3 7)) hC hP kX_3 rfl dX4_readWare_31 ?_
      obtain ⟨v6, ev6, hf⟩ := fxL_e hf
      refine fx_tl ev6 ?_
      refine lv_lstore_n (lv' := [(3, .long v6), (2, .int v1), (0, .ref (ad 1)), (1, .ref (ad a1))]) hx hb dX4_readWare_34 rfl hl (by decide) rfl (fun ls hl => ?_)
      refine lv_aload_n hx hb dX4_readWare_35 rfl (lv_at hl 2 rfl) ?_
      refine lv_aload_n hx hb dX4_readWare_36 rfl (lv_at hl 3 rfl) ?_
      obtain ⟨r8, σ9, hc7, hf⟩ := fxBI_e hf
      refine fx_ci hC hS (fx_runV (i := 1) (As := [.ref (ad a1)]) (rest := []) hC hP hS (ctX4_takeNewName l hc7 D cy ad ec _) kX_1 (by decide) rfl kMV_X4_111 kC_X4_takeNewName hd_X4_takeNewName rfl ⟨(Nat.le_of_ble_eq_true rfl), (Nat.le_of_ble_eq_true rfl)⟩ ⟨Nat.le_refl 0, Nat.le_refl 0⟩ hl.1 (Nat.le_of_ble_eq_true rfl) rfl dX4_readWare_37) (fun H locs hP hS => ?_)
      refine lv_if_eq (tgt := 65) hx hb dX4_readWare_40 (by decide) (fun c10 => ?_) (fun c10 => ?_)
      · replace hf := fx_it c10 hf
        refine lv_iconst hx hb dX4_readWare_65 ki_0 ?_
        exact fx_zretf rfl hf hC hr hk hP hS dX4_readWare_66
      · replace hf := fx_ie c10 hf
        refine lv_aload_n hx hb dX4_readWare_43 rfl (lv_at hl 2 rfl) ?_
        refine lv_aload_n hx hb dX4_readWare_44 rfl (lv_at hl 3 rfl) ?_
        refine lv_iload_n hx hb dX4_readWare_45 rfl (lv_at hl 1 rfl) ?_
        obtain ⟨r12, σ13, hc11, hf⟩ := fxBI_e hf
        refine fx_ci hC hS (fx_runV (i := 1) (As := [.ref (ad a1), .int v1]) (rest := []) hC hP hS (ctX4_takeKind l hc11 D cy ad ec _) kX_1 (by decide) rfl kMV_X4_114 kC_X4_takeKind hd_X4_takeKind rfl ⟨(Nat.le_of_ble_eq_true rfl), (Nat.le_of_ble_eq_true rfl)⟩ ⟨Nat.le_refl 0, Nat.le_refl 0⟩ hl.1 (Nat.le_of_ble_eq_true rfl) rfl dX4_readWare_46) (fun H locs hP hS => ?_)
        refine lv_if_eq (tgt := 65) hx hb dX4_readWare_49 (by decide) (fun c14 => ?_) (fun c14 => ?_)
        · replace hf := fx_it c14 hf
          refine lv_iconst hx hb dX4_readWare_65 ki_0 ?_
          exact fx_zretf rfl hf hC hr hk hP hS dX4_readWare_66
        · replace hf := fx_ie c14 hf
          refine lv_aload_n hx hb dX4_readWare_52 rfl (lv_at hl 2 rfl) ?_
          refine gf_X4_9 (v := .ref (ad 3)) hC hP kX_1 rfl dX4_readWare_53 ?_
          refine fx_gete hC hS 1 (by decide) rfl kFw_X4_118 dX4_readWare_56 ?_
          obtain ⟨r16, σ17, hc15, hf⟩ := fxBI_e hf
          refine fx_ci hC hS (fx_runV (i := 3) (As := [.ref (ec 1)]) (rest := []) hC hP hS (ctX9_takeWord l hc15 D cy ad ec _) kX_3 (by decide) rfl kMV_X4_121 kC_X9_takeWord hd_X9_takeWord rfl ⟨(Nat.le_of_ble_eq_true rfl), (Nat.le_of_ble_eq_true rfl)⟩ ⟨Nat.le_refl 0, Nat.le_refl 0⟩ hl.1 (Nat.le_of_ble_eq_true rfl) rfl dX4_readWare_59) (fun H locs hP hS => ?_)
          refine lv_if_ne (tgt := 67) hx hb dX4_readWare_62 (by decide) (fun c18 => ?_) (fun c18 => ?_)
          · replace hf := fx_ie c18 hf
            refine lv_aload_n hx hb dX4_readWare_67 rfl (lv_at hl 2 rfl) ?_
            refine gf_X4_9 (v := .ref (ad 3)) hC hP kX_1 rfl dX4_readWare_68 ?_
            refine lv_iconst hx hb dX4_readWare_71 ki_2 ?_
            refine lv_bipush hx hb dX4_readWare_72 kb_60 ?_
            obtain ⟨r20, σ21, hc19, hf⟩ := fxBI_e hf
            refine fx_ci hC hS (fx_runV (i := 3) (As := [.int 2, .int 60]) (rest := []) hC hP hS (ctX9_takeNumber l hc19 D cy ad ec _) kX_3 (by decide) rfl kMV_X4_124 kC_X9_takeNumber hd_X9_takeNumber rfl ⟨(Nat.le_of_ble_eq_true rfl), (Nat.le_of_ble_eq_true rfl)⟩ ⟨Nat.le_refl 0, Nat.le_refl 0⟩ hl.1 (Nat.le_of_ble_eq_true rfl) rfl dX4_readWare_74) (fun H locs hP hS => ?_)
            refine lv_istore (lv' := [(5, .int r20), (3, .long v6), (2, .int v1), (0, .ref (ad 1)), (1, .ref (ad a1))]) hx hb dX4_readWare_77 hl (by decide) rfl (fun ls hl => ?_)
            refine lv_iload hx hb dX4_readWare_79 (lv_at hl 0 rfl) ?_
            refine lv_iconst hx hb dX4_readWare_81 ki_m1 ?_
            refine lv_icmp_eq (tgt := 98) hx hb dX4_readWare_82 (by decide) (fun c22 => ?_) (fun c22 => ?_)
            · replace hf := fx_it c22 hf
              refine lv_iconst hx hb dX4_readWare_98 ki_0 ?_
              exact fx_zretf rfl hf hC hr hk hP hS dX4_readWare_99
            · replace hf := fx_ie c22 hf
              refine lv_aload_n hx hb dX4_readWare_85 rfl (lv_at hl 3 rfl) ?_
              refine gf_X4_9 (v := .ref (ad 3)) hC hP kX_1 rfl dX4_readWare_86 ?_
              refine fx_gete hC hS 2 (by decide) rfl kFw_X4_128 dX4_readWare_89 ?_
              obtain ⟨r24, σ25, hc23, hf⟩ := fxBI_e hf
              refine fx_ci hC hS (fx_runV (i := 3) (As := [.ref (ec 2)]) (rest := []) hC hP hS (ctX9_takeWord l hc23 D cy ad ec _) kX_3 (by decide) rfl kMV_X4_121 kC_X9_takeWord hd_X9_takeWord rfl ⟨(Nat.le_of_ble_eq_true rfl), (Nat.le_of_ble_eq_true rfl)⟩ ⟨Nat.le_refl 0, Nat.le_refl 0⟩ hl.1 (Nat.le_of_ble_eq_true rfl) rfl dX4_readWare_92) (fun H locs hP hS => ?_)
              refine lv_if_ne (tgt := 100) hx hb dX4_readWare_95 (by decide) (fun c26 => ?_) (fun c26 => ?_)
              · replace hf := fx_ie c26 hf
                refine lv_aload_n hx hb dX4_readWare_100 rfl (lv_at hl 3 rfl) ?_
                refine gf_X4_9 (v := .ref (ad 3)) hC hP kX_1 rfl dX4_readWare_101 ?_
                refine lv_iconst hx hb dX4_readWare_104 ki_0 ?_
                refine lv_bipush hx hb dX4_readWare_105 kb_30 ?_
                obtain ⟨r28, σ29, hc27, hf⟩ := fxBI_e hf
                refine fx_ci hC hS (fx_runV (i := 3) (As := [.int 0, .int 30]) (rest := []) hC hP hS (ctX9_takeNumber l hc27 D cy ad ec _) kX_3 (by decide) rfl kMV_X4_124 kC_X9_takeNumber hd_X9_takeNumber rfl ⟨(Nat.le_of_ble_eq_true rfl), (Nat.le_of_ble_eq_true rfl)⟩ ⟨Nat.le_refl 0, Nat.le_refl 0⟩ hl.1 (Nat.le_of_ble_eq_true rfl) rfl dX4_readWare_107) (fun H locs hP hS => ?_)
                refine lv_istore (lv' := [(6, .int r28), (5, .int r20), (3, .long v6), (2, .int v1), (0, .ref (ad 1)), (1, .ref (ad a1))]) hx hb dX4_readWare_110 hl (by decide) rfl (fun ls hl => ?_)
                refine lv_iload hx hb dX4_readWare_112 (lv_at hl 0 rfl) ?_
                refine lv_iconst hx hb dX4_readWare_114 ki_m1 ?_
                refine lv_icmp_ne (tgt := 120) hx hb dX4_readWare_115 (by decide) (fun c30 => ?_) (fun c30 => ?_)
                · replace hf := fx_ie c30 hf
                  refine lv_aload_n hx hb dX4_readWare_120 rfl (lv_at hl 5 rfl) ?_
                  refine gf_X4_131 (v := .ref (ad (a1 + 1))) hC hP h_a1 rfl dX4_readWare_121 ?_
                  refine lv_iload_n hx hb dX4_readWare_124 rfl (lv_at hl 3 rfl) ?_
                  refine lv_lload_n hx hb dX4_readWare_125 rfl (lv_at hl 2 rfl) ?_
                  obtain ⟨h31, hf⟩ := fxG_e hf
                  obtain ⟨σ32, eσ32, hf⟩ := fxL_e hf
                  refine fx_last hC hP hS (lyX_5_1 h_a1) (fx_inp h31) dX4_readWare_126 (fun H locs hP hS => ?_)
                  replace hP := fx_Pe eσ32 hP
                  refine lv_aload_n hx hb dX4_readWare_127 rfl (lv_at hl 5 rfl) ?_
                  refine gf_X4_135 (v := .ref (ad (a1 + 3))) hC hP h_a1 rfl dX4_readWare_128 ?_
                  refine lv_iload_n hx hb dX4_readWare_131 rfl (lv_at hl 3 rfl) ?_
                  refine lv_iload hx hb dX4_readWare_132 (lv_at hl 1 rfl) ?_
                  obtain ⟨h33, hf⟩ := fxG_e hf
                  obtain ⟨σ34, eσ34, hf⟩ := fxL_e hf
                  refine fx_iast hC hP hS (lyX_5_3 h_a1) (fx_inp h33) dX4_readWare_134 (fun H locs hP hS => ?_)
                  replace hP := fx_Pe eσ34 hP
                  refine lv_aload_n hx hb dX4_readWare_135 rfl (lv_at hl 5 rfl) ?_
                  refine gf_X4_139 (v := .ref (ad (a1 + 4))) hC hP h_a1 rfl dX4_readWare_136 ?_
                  refine lv_iload_n hx hb dX4_readWare_139 rfl (lv_at hl 3 rfl) ?_
                  refine lv_iload hx hb dX4_readWare_140 (lv_at hl 0 rfl) ?_
                  refine lv_iload hx hb dX4_readWare_142 (lv_at hl 1 rfl) ?_
                  refine lv_iconst hx hb dX4_readWare_144 ki_2 ?_
                  refine lv_idiv hx hb dX4_readWare_145 (by decide) ?_
                  refine fx_min hC hl.1 kL_X4_142 kMt_min kMi kMc_min (Nat.le_of_ble_eq_true rfl) (Nat.le_of_ble_eq_true rfl) ⟨Nat.le_refl 0, Nat.le_refl 0⟩ dX4_readWare_146 ?_
                  obtain ⟨h35, hf⟩ := fxG_e hf
                  obtain ⟨σ36, eσ36, hf⟩ := fxL_e hf
                  refine fx_iast hC hP hS (lyX_5_4 h_a1) (fx_inp h35) dX4_readWare_149 (fun H locs hP hS => ?_)
                  replace hP := fx_Pe eσ36 hP
                  refine lv_aload_n hx hb dX4_readWare_150 rfl (lv_at hl 5 rfl) ?_
                  refine lv_iload_n hx hb dX4_readWare_151 rfl (lv_at hl 3 rfl) ?_
                  refine lv_iconst hx hb dX4_readWare_152 ki_1 ?_
                  refine lv_iadd hx hb dX4_readWare_153 ?_
                  obtain ⟨σ37, eσ37, hf⟩ := fxL_e hf
                  refine pf_X4_101 hC hP hS h_a1 dX4_readWare_154 (fun H locs hP hS => ?_)
                  replace hP := fx_Pe eσ37 hP
                  refine lv_iconst hx hb dX4_readWare_157 ki_1 ?_
                  exact fx_zretf rfl hf hC hr hk hP hS dX4_readWare_158
                · replace hf := fx_it c30 hf
                  refine lv_iconst hx hb dX4_readWare_118 ki_0 ?_
                  exact fx_zretf rfl hf hC hr hk hP hS dX4_readWare_119
              · replace hf := fx_it c26 hf
                refine lv_iconst hx hb dX4_readWare_98 ki_0 ?_
                exact fx_zretf rfl hf hC hr hk hP hS dX4_readWare_99
          · replace hf := fx_it c18 hf
            refine lv_iconst hx hb dX4_readWare_65 ki_0 ?_
            exact fx_zretf rfl hf hC hr hk hP hS dX4_readWare_66
    · replace hf := fx_ie c2 hf
      refine lv_aload_n hx hb dX4_readWare_11 rfl (lv_at hl 1 rfl) ?_
      refine gf_X4_9 (v := .ref (ad 3)) hC hP kX_1 rfl dX4_readWare_12 ?_
      refine lv_iconst hx hb dX4_readWare_15 ki_5 ?_
      obtain ⟨r39, σ40, hc38, hf⟩ := fxBI_e hf
      refine fx_ci hC hS (fx_runV (i := 3) (As := [.int 5]) (rest := []) hC hP hS (ctX9_wrong l hc38 D cy ad ec _) kX_3 (by decide) rfl kMV_X4_97 kC_X9_wrong hd_X9_wrong rfl ⟨(Nat.le_of_ble_eq_true rfl), (Nat.le_of_ble_eq_true rfl)⟩ ⟨Nat.le_refl 0, Nat.le_refl 0⟩ hl.1 (Nat.le_of_ble_eq_true rfl) rfl dX4_readWare_16) (fun H locs hP hS => ?_)
      obtain ⟨h41, hf⟩ := fxG_e hf
      exact fx_zretf (fx_bon h41) hf hC hr hk hP hS dX4_readWare_19
  exact main _ _ _ hP hS hl

set_option maxHeartbeats 4000000 in
set_option maxRecDepth 100000 in
theorem ctX4_readParty (l : Launch) {a1 : Nat} {σ σ' : FH} {v : Int32} (hf : fX4_readParty a1 σ = some (v, σ')) : fx_Mi l yX4_readParty cX4_readParty 6 (some .boolean) (7) LX (fun ad ec => [.ref (ad 1), .ref (ad a1)]) σ v σ' := by
  unfold fX4_readParty at hf
  obtain ⟨h_a1, hf⟩ := fxG_e hf
  refine fx_mi' (own := RX4) rfl (by decide +kernel) ?_
  intro p e s m args below meth c D cy ad ec A hC hr hk hP hS
  have hx := hC.1
  have hb := hC.2.1
  have hl := lv_entry ([.ref (ad 1), .ref (ad a1)]) (n := 6) (Nat.le_of_ble_eq_true rfl)
  show W _ _ _ _ _ _ _ _ _ _ _ _ _ _ _ (entryFrame m ([.ref (ad 1), .ref (ad a1)] : List Value).toArray 6)
  rw [lg_entry_eq]
  generalize (lg_sl ([.ref (ad 1), .ref (ad a1)]) ++ List.replicate (6 - (lg_sl ([.ref (ad 1), .ref (ad a1)])).length) Slot.unset).toArray = ls at hl ⊢
  have hl : lv_has ls 6 [(0, .ref (ad 1)), (1, .ref (ad a1))] := hl
  have main : ∀ (H : Heap) (locs : List Loc) (ls : Array Slot), fx_P D cy LX ad σ H → va_S A s.heap H locs → lv_has ls 6 [(0, .ref (ad 1)), (1, .ref (ad a1))] → W p l e (fx_R (7)) s m args below meth c H locs 0 0 (fx_Qi D cy LX ad A below args s v σ') (F0 m 0 ls []) := by
    intro H locs ls hP hS hl
    refine lv_aload_n hx hb dX4_readParty_0 rfl (lv_at hl 1 rfl) ?_
    refine gf_X4_162 (v := .int (σ.1 a1 5)) hC hP h_a1 rfl dX4_readParty_1 ?_
    obtain ⟨v1, ev1, hf⟩ := fxL_e hf
    refine fx_ti ev1 ?_
    refine lv_istore_n (lv' := [(2, .int v1), (0, .ref (ad 1)), (1, .ref (ad a1))]) hx hb dX4_readParty_4 rfl hl (by decide) rfl (fun ls hl => ?_)
    refine lv_iload_n hx hb dX4_readParty_5 rfl (lv_at hl 0 rfl) ?_
    refine lv_iconst hx hb dX4_readParty_6 ki_5 ?_
    refine lv_icmp_lt (tgt := 19) hx hb dX4_readParty_7 (by decide) (fun c2 => ?_) (fun c2 => ?_)
    · replace hf := fx_it c2 hf
      refine lv_aload_n hx hb dX4_readParty_19 rfl (lv_at hl 1 rfl) ?_
      refine gf_X4_9 (v := .ref (ad 3)) hC hP kX_1 rfl dX4_readParty_20 ?_
      obtain ⟨σ5, hc3, hf⟩ := fxBV_e hf
      refine fx_cv hC hS (fx_runV (i := 3) (As := []) (rest := []) hC hP hS (ctX9_advance l hc3 D cy ad ec _) kX_3 (by decide) rfl kMV_X4_104 kC_X9_advance hd_X9_advance rfl ⟨(Nat.le_of_ble_eq_true rfl), (Nat.le_of_ble_eq_true rfl)⟩ ⟨Nat.le_refl 0, Nat.le_refl 0⟩ hl.1 (Nat.le_of_ble_eq_true rfl) rfl dX4_readParty_23) (fun H locs hP hS => ?_)
      refine lv_aload_n hx hb dX4_readParty_26 rfl (lv_at hl 1 rfl) ?_
      refine gf_X4_9 (v := .ref (ad 3)) hC hP kX_1 rfl dX4_readParty_27 ?_
      refine gf_X4_107 (v := .long (σ5.2.1 3 7)) hC hP kX_3 rfl dX4_readParty_30 ?_
      obtain ⟨v6, ev6, hf⟩ := fxL_e hf
      refine fx_tl ev6 ?_
      refine lv_lstore_n (lv' := [(3, .long v6), (2, .int v1), (0, .ref (ad 1)), (1, .ref (ad a1))]) hx hb dX4_readParty_33 rfl hl (by decide) rfl (fun ls hl => ?_)
      refine lv_aload_n hx hb dX4_readParty_34 rfl (lv_at hl 2 rfl) ?_
      refine lv_aload_n hx hb dX4_readParty_35 rfl (lv_at hl 3 rfl) ?_
      obtain ⟨r8, σ9, hc7, hf⟩ := fxBI_e hf
      refine fx_ci hC hS (fx_runV (i := 1) (As := [.ref (ad a1)]) (rest := []) hC hP hS (ctX4_takeNewName l hc7 D cy ad ec _) kX_1 (by decide) rfl kMV_X4_111 kC_X4_takeNewName hd_X4_takeNewName rfl ⟨(Nat.le_of_ble_eq_true rfl), (Nat.le_of_ble_eq_true rfl)⟩ ⟨Nat.le_refl 0, Nat.le_refl 0⟩ hl.1 (Nat.le_of_ble_eq_true rfl) rfl dX4_readParty_36) (fun H locs hP hS => ?_)
      refine lv_if_eq (tgt := 55) hx hb dX4_readParty_39 (by decide) (fun c10 => ?_) (fun c10 => ?_)
      · replace hf := fx_it c10 hf
        refine lv_iconst hx hb dX4_readParty_55 ki_0 ?_
        exact fx_zretf rfl hf hC hr hk hP hS dX4_readParty_56
      · replace hf := fx_ie c10 hf
        refine lv_aload_n hx hb dX4_readParty_42 rfl (lv_at hl 2 rfl) ?_
        refine gf_X4_9 (v := .ref (ad 3)) hC hP kX_1 rfl dX4_readParty_43 ?_
        refine fx_gete hC hS 4 (by decide) rfl kFw_X4_165 dX4_readParty_46 ?_
        obtain ⟨r12, σ13, hc11, hf⟩ := fxBI_e hf
        refine fx_ci hC hS (fx_runV (i := 3) (As := [.ref (ec 4)]) (rest := []) hC hP hS (ctX9_takeWord l hc11 D cy ad ec _) kX_3 (by decide) rfl kMV_X4_121 kC_X9_takeWord hd_X9_takeWord rfl ⟨(Nat.le_of_ble_eq_true rfl), (Nat.le_of_ble_eq_true rfl)⟩ ⟨Nat.le_refl 0, Nat.le_refl 0⟩ hl.1 (Nat.le_of_ble_eq_true rfl) rfl dX4_readParty_49) (fun H locs hP hS => ?_)
        refine lv_if_ne (tgt := 57) hx hb dX4_readParty_52 (by decide) (fun c14 => ?_) (fun c14 => ?_)
        · replace hf := fx_ie c14 hf
          refine lv_aload_n hx hb dX4_readParty_57 rfl (lv_at hl 2 rfl) ?_
          refine gf_X4_9 (v := .ref (ad 3)) hC hP kX_1 rfl dX4_readParty_58 ?_
          refine lv_iconst hx hb dX4_readParty_61 ki_0 ?_
          refine lv_bipush hx hb dX4_readParty_62 kb_40 ?_
          obtain ⟨r16, σ17, hc15, hf⟩ := fxBI_e hf
          refine fx_ci hC hS (fx_runV (i := 3) (As := [.int 0, .int 40]) (rest := []) hC hP hS (ctX9_takeNumber l hc15 D cy ad ec _) kX_3 (by decide) rfl kMV_X4_124 kC_X9_takeNumber hd_X9_takeNumber rfl ⟨(Nat.le_of_ble_eq_true rfl), (Nat.le_of_ble_eq_true rfl)⟩ ⟨Nat.le_refl 0, Nat.le_refl 0⟩ hl.1 (Nat.le_of_ble_eq_true rfl) rfl dX4_readParty_64) (fun H locs hP hS => ?_)
          refine lv_istore (lv' := [(5, .int r16), (3, .long v6), (2, .int v1), (0, .ref (ad 1)), (1, .ref (ad a1))]) hx hb dX4_readParty_67 hl (by decide) rfl (fun ls hl => ?_)
          refine lv_iload hx hb dX4_readParty_69 (lv_at hl 0 rfl) ?_
          refine lv_iconst hx hb dX4_readParty_71 ki_m1 ?_
          refine lv_icmp_ne (tgt := 77) hx hb dX4_readParty_72 (by decide) (fun c18 => ?_) (fun c18 => ?_)
          · replace hf := fx_ie c18 hf
            refine lv_aload_n hx hb dX4_readParty_77 rfl (lv_at hl 4 rfl) ?_
            refine gf_X4_168 (v := .ref (ad (a1 + 5))) hC hP h_a1 rfl dX4_readParty_78 ?_
            refine lv_iload_n hx hb dX4_readParty_81 rfl (lv_at hl 2 rfl) ?_
            refine lv_lload_n hx hb dX4_readParty_82 rfl (lv_at hl 1 rfl) ?_
            obtain ⟨h19, hf⟩ := fxG_e hf
            obtain ⟨σ20, eσ20, hf⟩ := fxL_e hf
            refine fx_last hC hP hS (lyX_5_6 h_a1) (fx_inp h19) dX4_readParty_83 (fun H locs hP hS => ?_)
            replace hP := fx_Pe eσ20 hP
            refine lv_aload_n hx hb dX4_readParty_84 rfl (lv_at hl 4 rfl) ?_
            refine gf_X4_171 (v := .ref (ad (a1 + 6))) hC hP h_a1 rfl dX4_readParty_85 ?_
            refine lv_iload_n hx hb dX4_readParty_88 rfl (lv_at hl 2 rfl) ?_
            refine lv_iload hx hb dX4_readParty_89 (lv_at hl 0 rfl) ?_
            obtain ⟨h21, hf⟩ := fxG_e hf
            obtain ⟨σ22, eσ22, hf⟩ := fxL_e hf
            refine fx_iast hC hP hS (lyX_5_7 h_a1) (fx_inp h21) dX4_readParty_91 (fun H locs hP hS => ?_)
            replace hP := fx_Pe eσ22 hP
            refine lv_aload_n hx hb dX4_readParty_92 rfl (lv_at hl 4 rfl) ?_
            refine gf_X4_174 (v := .ref (ad (a1 + 7))) hC hP h_a1 rfl dX4_readParty_93 ?_
            refine lv_iload_n hx hb dX4_readParty_96 rfl (lv_at hl 2 rfl) ?_
            refine lv_iconst hx hb dX4_readParty_97 ki_0 ?_
            obtain ⟨h23, hf⟩ := fxG_e hf
            obtain ⟨σ24, eσ24, hf⟩ := fxL_e hf
            refine fx_iast hC hP hS (lyX_5_8 h_a1) (fx_inp h23) dX4_readParty_98 (fun H locs hP hS => ?_)
            replace hP := fx_Pe eσ24 hP
            refine lv_aload_n hx hb dX4_readParty_99 rfl (lv_at hl 4 rfl) ?_
            refine lv_iload_n hx hb dX4_readParty_100 rfl (lv_at hl 2 rfl) ?_
            refine lv_iconst hx hb dX4_readParty_101 ki_1 ?_
            refine lv_iadd hx hb dX4_readParty_102 ?_
            obtain ⟨σ25, eσ25, hf⟩ := fxL_e hf
            refine pf_X4_162 hC hP hS h_a1 dX4_readParty_103 (fun H locs hP hS => ?_)
            replace hP := fx_Pe eσ25 hP
            refine lv_iconst hx hb dX4_readParty_106 ki_1 ?_
            exact fx_zretf rfl hf hC hr hk hP hS dX4_readParty_107
          · replace hf := fx_it c18 hf
            refine lv_iconst hx hb dX4_readParty_75 ki_0 ?_
            exact fx_zretf rfl hf hC hr hk hP hS dX4_readParty_76
        · replace hf := fx_it c14 hf
          refine lv_iconst hx hb dX4_readParty_55 ki_0 ?_
          exact fx_zretf rfl hf hC hr hk hP hS dX4_readParty_56
    · replace hf := fx_ie c2 hf
      refine lv_aload_n hx hb dX4_readParty_10 rfl (lv_at hl 1 rfl) ?_
      refine gf_X4_9 (v := .ref (ad 3)) hC hP kX_1 rfl dX4_readParty_11 ?_
      refine lv_iconst hx hb dX4_readParty_14 ki_5 ?_
      obtain ⟨r27, σ28, hc26, hf⟩ := fxBI_e hf
      refine fx_ci hC hS (fx_runV (i := 3) (As := [.int 5]) (rest := []) hC hP hS (ctX9_wrong l hc26 D cy ad ec _) kX_3 (by decide) rfl kMV_X4_97 kC_X9_wrong hd_X9_wrong rfl ⟨(Nat.le_of_ble_eq_true rfl), (Nat.le_of_ble_eq_true rfl)⟩ ⟨Nat.le_refl 0, Nat.le_refl 0⟩ hl.1 (Nat.le_of_ble_eq_true rfl) rfl dX4_readParty_15) (fun H locs hP hS => ?_)
      obtain ⟨h29, hf⟩ := fxG_e hf
      exact fx_zretf (fx_bon h29) hf hC hr hk hP hS dX4_readParty_18
  exact main _ _ _ hP hS hl

set_option maxHeartbeats 4000000 in
set_option maxRecDepth 100000 in
theorem ctX4_partyHere (l : Launch) {a1 : Nat} {σ : FH} {v : Int32} (hf : fX4_partyHere a1 σ = some v) : fx_Mi l yX4_partyHere cX4_partyHere 2 (some .int) (2) LX (fun ad ec => [.ref (ad 1), .ref (ad a1)]) σ v σ := by
  unfold fX4_partyHere at hf
  obtain ⟨h_a1, hf⟩ := fxG_e hf
  refine fx_mi' (own := RX4) rfl (by decide +kernel) ?_
  intro p e s m args below meth c D cy ad ec A hC hr hk hP hS
  have hx := hC.1
  have hb := hC.2.1
  have hl := lv_entry ([.ref (ad 1), .ref (ad a1)]) (n := 2) (Nat.le_of_ble_eq_true rfl)
  show W _ _ _ _ _ _ _ _ _ _ _ _ _ _ _ (entryFrame m ([.ref (ad 1), .ref (ad a1)] : List Value).toArray 2)
  rw [lg_entry_eq]
  generalize (lg_sl ([.ref (ad 1), .ref (ad a1)]) ++ List.replicate (2 - (lg_sl ([.ref (ad 1), .ref (ad a1)])).length) Slot.unset).toArray = ls at hl ⊢
  have hl : lv_has ls 2 [(0, .ref (ad 1)), (1, .ref (ad a1))] := hl
  have main : ∀ (H : Heap) (locs : List Loc) (ls : Array Slot), fx_P D cy LX ad σ H → va_S A s.heap H locs → lv_has ls 2 [(0, .ref (ad 1)), (1, .ref (ad a1))] → W p l e (fx_R (2)) s m args below meth c H locs 0 0 (fx_Qi D cy LX ad A below args s v σ) (F0 m 0 ls []) := by
    intro H locs ls hP hS hl
    refine lv_aload_n hx hb dX4_partyHere_0 rfl (lv_at hl 0 rfl) ?_
    refine gf_X4_9 (v := .ref (ad 3)) hC hP kX_1 rfl dX4_partyHere_1 ?_
    obtain ⟨r2, hc1, hf⟩ := fxBP_e hf
    refine fx_ci hC hS (fx_runV (i := 3) (As := []) (rest := []) hC hP hS (ctX9_isName l hc1 D cy ad ec _) kX_3 (by decide) rfl kMV_X4_232 kC_X9_isName hd_X9_isName rfl ⟨(Nat.le_of_ble_eq_true rfl), (Nat.le_of_ble_eq_true rfl)⟩ ⟨Nat.le_refl 0, Nat.le_refl 0⟩ hl.1 (Nat.le_of_ble_eq_true rfl) rfl dX4_partyHere_4) (fun H locs hP hS => ?_)
    refine lv_if_eq (tgt := 24) hx hb dX4_partyHere_7 (by decide) (fun c4 => ?_) (fun c4 => ?_)
    · replace hf := fx_it c4 hf
      refine lv_iconst hx hb dX4_partyHere_24 ki_m1 ?_
      exact fx_iretp hf hC hr hk hP hS dX4_partyHere_25
    · replace hf := fx_ie c4 hf
      refine lv_aload_n hx hb dX4_partyHere_10 rfl (lv_at hl 1 rfl) ?_
      refine lv_aload_n hx hb dX4_partyHere_11 rfl (lv_at hl 0 rfl) ?_
      refine gf_X4_9 (v := .ref (ad 3)) hC hP kX_1 rfl dX4_partyHere_12 ?_
      refine gf_X4_107 (v := .long (σ.2.1 3 7)) hC hP kX_3 rfl dX4_partyHere_15 ?_
      obtain ⟨r6, hc5, hf⟩ := fxBP_e hf
      refine fx_ci hC hS (fx_runV (i := a1) (As := [.long (σ.2.1 3 7)]) (rest := []) hC hP hS (ctX5_partyNamed l hc5 D cy ad ec _) h_a1 (by decide) rfl kMV_X4_239 kC_X5_partyNamed hd_X5_partyNamed rfl ⟨(Nat.le_of_ble_eq_true rfl), (Nat.le_of_ble_eq_true rfl)⟩ ⟨Nat.le_refl 0, Nat.le_refl 0⟩ hl.1 (Nat.le_of_ble_eq_true rfl) rfl dX4_partyHere_18) (fun H locs hP hS => ?_)
      refine lv_goto (tgt := 25) hx hb dX4_partyHere_21 (by decide) ?_
      exact fx_iretp hf hC hr hk hP hS dX4_partyHere_25
  exact main _ _ _ hP hS hl

set_option maxHeartbeats 4000000 in
set_option maxRecDepth 100000 in
theorem ctX4_takeNamed (l : Launch) {a1 : Int32} {a2 : Int32} {σ σ' : FH} {v : Int32} (hf : fX4_takeNamed a1 a2 σ = some (v, σ')) : fx_Mi l yX4_takeNamed cX4_takeNamed 3 (some .int) (6) LX (fun ad ec => [.ref (ad 1), .int a1, .int a2]) σ v σ' := by
  unfold fX4_takeNamed at hf
  refine fx_mi' (own := RX4) rfl (by decide +kernel) ?_
  intro p e s m args below meth c D cy ad ec A hC hr hk hP hS
  have hx := hC.1
  have hb := hC.2.1
  have hl := lv_entry ([.ref (ad 1), .int a1, .int a2]) (n := 3) (Nat.le_of_ble_eq_true rfl)
  show W _ _ _ _ _ _ _ _ _ _ _ _ _ _ _ (entryFrame m ([.ref (ad 1), .int a1, .int a2] : List Value).toArray 3)
  rw [lg_entry_eq]
  generalize (lg_sl ([.ref (ad 1), .int a1, .int a2]) ++ List.replicate (3 - (lg_sl ([.ref (ad 1), .int a1, .int a2])).length) Slot.unset).toArray = ls at hl ⊢
  have hl : lv_has ls 3 [(0, .ref (ad 1)), (1, .int a1), (2, .int a2)] := hl
  have main : ∀ (H : Heap) (locs : List Loc) (ls : Array Slot), fx_P D cy LX ad σ H → va_S A s.heap H locs → lv_has ls 3 [(0, .ref (ad 1)), (1, .int a1), (2, .int a2)] → W p l e (fx_R (6)) s m args below meth c H locs 0 0 (fx_Qi D cy LX ad A below args s v σ') (F0 m 0 ls []) := by
    intro H locs ls hP hS hl
    refine lv_aload_n hx hb dX4_takeNamed_0 rfl (lv_at hl 0 rfl) ?_
    refine gf_X4_9 (v := .ref (ad 3)) hC hP kX_1 rfl dX4_takeNamed_1 ?_
    obtain ⟨r2, hc1, hf⟩ := fxBP_e hf
    refine fx_ci hC hS (fx_runV (i := 3) (As := []) (rest := []) hC hP hS (ctX9_isName l hc1 D cy ad ec _) kX_3 (by decide) rfl kMV_X4_232 kC_X9_isName hd_X9_isName rfl ⟨(Nat.le_of_ble_eq_true rfl), (Nat.le_of_ble_eq_true rfl)⟩ ⟨Nat.le_refl 0, Nat.le_refl 0⟩ hl.1 (Nat.le_of_ble_eq_true rfl) rfl dX4_takeNamed_4) (fun H locs hP hS => ?_)
    refine lv_if_ne (tgt := 21) hx hb dX4_takeNamed_7 (by decide) (fun c4 => ?_) (fun c4 => ?_)
    · replace hf := fx_ie c4 hf
      refine lv_iload_n hx hb dX4_takeNamed_21 rfl (lv_at hl 1 rfl) ?_
      refine lv_iconst hx hb dX4_takeNamed_22 ki_m1 ?_
      refine lv_icmp_ne (tgt := 37) hx hb dX4_takeNamed_23 (by decide) (fun c5 => ?_) (fun c5 => ?_)
      · replace hf := fx_ie c5 hf
        refine lv_iload_n hx hb dX4_takeNamed_37 rfl (lv_at hl 1 rfl) ?_
        refine lv_iload_n hx hb dX4_takeNamed_38 rfl (lv_at hl 2 rfl) ?_
        refine lv_icmp_ne (tgt := 53) hx hb dX4_takeNamed_39 (by decide) (fun c6 => ?_) (fun c6 => ?_)
        · replace hf := fx_ie c6 hf
          refine lv_aload_n hx hb dX4_takeNamed_53 rfl (lv_at hl 0 rfl) ?_
          refine gf_X4_9 (v := .ref (ad 3)) hC hP kX_1 rfl dX4_takeNamed_54 ?_
          obtain ⟨σ9, hc7, hf⟩ := fxBV_e hf
          refine fx_cv hC hS (fx_runV (i := 3) (As := []) (rest := []) hC hP hS (ctX9_advance l hc7 D cy ad ec _) kX_3 (by decide) rfl kMV_X4_104 kC_X9_advance hd_X9_advance rfl ⟨(Nat.le_of_ble_eq_true rfl), (Nat.le_of_ble_eq_true rfl)⟩ ⟨Nat.le_refl 0, Nat.le_refl 0⟩ hl.1 (Nat.le_of_ble_eq_true rfl) rfl dX4_takeNamed_57) (fun H locs hP hS => ?_)
          refine lv_iload_n hx hb dX4_takeNamed_60 rfl (lv_at hl 1 rfl) ?_
          exact fx_iretf hf hC hr hk hP hS dX4_takeNamed_61
        · replace hf := fx_it c6 hf
          refine lv_aload_n hx hb dX4_takeNamed_42 rfl (lv_at hl 0 rfl) ?_
          refine gf_X4_9 (v := .ref (ad 3)) hC hP kX_1 rfl dX4_takeNamed_43 ?_
          refine lv_iconst hx hb dX4_takeNamed_46 ki_3 ?_
          obtain ⟨r11, σ12, hc10, hf⟩ := fxBI_e hf
          refine fx_ci hC hS (fx_runV (i := 3) (As := [.int 3]) (rest := []) hC hP hS (ctX9_wrong l hc10 D cy ad ec _) kX_3 (by decide) rfl kMV_X4_97 kC_X9_wrong hd_X9_wrong rfl ⟨(Nat.le_of_ble_eq_true rfl), (Nat.le_of_ble_eq_true rfl)⟩ ⟨Nat.le_refl 0, Nat.le_refl 0⟩ hl.1 (Nat.le_of_ble_eq_true rfl) rfl dX4_takeNamed_47) (fun H locs hP hS => ?_)
          refine lv_pop hx hb dX4_takeNamed_50 rfl ?_
          refine lv_iconst hx hb dX4_takeNamed_51 ki_m1 ?_
          exact fx_iretf hf hC hr hk hP hS dX4_takeNamed_52
      · replace hf := fx_it c5 hf
        refine lv_aload_n hx hb dX4_takeNamed_26 rfl (lv_at hl 0 rfl) ?_
        refine gf_X4_9 (v := .ref (ad 3)) hC hP kX_1 rfl dX4_takeNamed_27 ?_
        refine lv_iconst hx hb dX4_takeNamed_30 ki_2 ?_
        obtain ⟨r14, σ15, hc13, hf⟩ := fxBI_e hf
        refine fx_ci hC hS (fx_runV (i := 3) (As := [.int 2]) (rest := []) hC hP hS (ctX9_wrong l hc13 D cy ad ec _) kX_3 (by decide) rfl kMV_X4_97 kC_X9_wrong hd_X9_wrong rfl ⟨(Nat.le_of_ble_eq_true rfl), (Nat.le_of_ble_eq_true rfl)⟩ ⟨Nat.le_refl 0, Nat.le_refl 0⟩ hl.1 (Nat.le_of_ble_eq_true rfl) rfl dX4_takeNamed_31) (fun H locs hP hS => ?_)
        refine lv_pop hx hb dX4_takeNamed_34 rfl ?_
        refine lv_iconst hx hb dX4_takeNamed_35 ki_m1 ?_
        exact fx_iretf hf hC hr hk hP hS dX4_takeNamed_36
    · replace hf := fx_it c4 hf
      refine lv_aload_n hx hb dX4_takeNamed_10 rfl (lv_at hl 0 rfl) ?_
      refine gf_X4_9 (v := .ref (ad 3)) hC hP kX_1 rfl dX4_takeNamed_11 ?_
      refine lv_iconst hx hb dX4_takeNamed_14 ki_1 ?_
      obtain ⟨r17, σ18, hc16, hf⟩ := fxBI_e hf
      refine fx_ci hC hS (fx_runV (i := 3) (As := [.int 1]) (rest := []) hC hP hS (ctX9_wrong l hc16 D cy ad ec _) kX_3 (by decide) rfl kMV_X4_97 kC_X9_wrong hd_X9_wrong rfl ⟨(Nat.le_of_ble_eq_true rfl), (Nat.le_of_ble_eq_true rfl)⟩ ⟨Nat.le_refl 0, Nat.le_refl 0⟩ hl.1 (Nat.le_of_ble_eq_true rfl) rfl dX4_takeNamed_15) (fun H locs hP hS => ?_)
      refine lv_pop hx hb dX4_takeNamed_18 rfl ?_
      refine lv_iconst hx hb dX4_takeNamed_19 ki_m1 ?_
      exact fx_iretf hf hC hr hk hP hS dX4_takeNamed_20
  exact main _ _ _ hP hS hl

set_option maxHeartbeats 4000000 in
set_option maxRecDepth 100000 in
theorem ctX4_wareHere (l : Launch) {a1 : Nat} {σ : FH} {v : Int32} (hf : fX4_wareHere a1 σ = some v) : fx_Mi l yX4_wareHere cX4_wareHere 2 (some .int) (2) LX (fun ad ec => [.ref (ad 1), .ref (ad a1)]) σ v σ := by
  unfold fX4_wareHere at hf
  obtain ⟨h_a1, hf⟩ := fxG_e hf
  refine fx_mi' (own := RX4) rfl (by decide +kernel) ?_
  intro p e s m args below meth c D cy ad ec A hC hr hk hP hS
  have hx := hC.1
  have hb := hC.2.1
  have hl := lv_entry ([.ref (ad 1), .ref (ad a1)]) (n := 2) (Nat.le_of_ble_eq_true rfl)
  show W _ _ _ _ _ _ _ _ _ _ _ _ _ _ _ (entryFrame m ([.ref (ad 1), .ref (ad a1)] : List Value).toArray 2)
  rw [lg_entry_eq]
  generalize (lg_sl ([.ref (ad 1), .ref (ad a1)]) ++ List.replicate (2 - (lg_sl ([.ref (ad 1), .ref (ad a1)])).length) Slot.unset).toArray = ls at hl ⊢
  have hl : lv_has ls 2 [(0, .ref (ad 1)), (1, .ref (ad a1))] := hl
  have main : ∀ (H : Heap) (locs : List Loc) (ls : Array Slot), fx_P D cy LX ad σ H → va_S A s.heap H locs → lv_has ls 2 [(0, .ref (ad 1)), (1, .ref (ad a1))] → W p l e (fx_R (2)) s m args below meth c H locs 0 0 (fx_Qi D cy LX ad A below args s v σ) (F0 m 0 ls []) := by
    intro H locs ls hP hS hl
    refine lv_aload_n hx hb dX4_wareHere_0 rfl (lv_at hl 0 rfl) ?_
    refine gf_X4_9 (v := .ref (ad 3)) hC hP kX_1 rfl dX4_wareHere_1 ?_
    obtain ⟨r2, hc1, hf⟩ := fxBP_e hf
    refine fx_ci hC hS (fx_runV (i := 3) (As := []) (rest := []) hC hP hS (ctX9_isName l hc1 D cy ad ec _) kX_3 (by decide) rfl kMV_X4_232 kC_X9_isName hd_X9_isName rfl ⟨(Nat.le_of_ble_eq_true rfl), (Nat.le_of_ble_eq_true rfl)⟩ ⟨Nat.le_refl 0, Nat.le_refl 0⟩ hl.1 (Nat.le_of_ble_eq_true rfl) rfl dX4_wareHere_4) (fun H locs hP hS => ?_)
    refine lv_if_eq (tgt := 24) hx hb dX4_wareHere_7 (by decide) (fun c4 => ?_) (fun c4 => ?_)
    · replace hf := fx_it c4 hf
      refine lv_iconst hx hb dX4_wareHere_24 ki_m1 ?_
      exact fx_iretp hf hC hr hk hP hS dX4_wareHere_25
    · replace hf := fx_ie c4 hf
      refine lv_aload_n hx hb dX4_wareHere_10 rfl (lv_at hl 1 rfl) ?_
      refine lv_aload_n hx hb dX4_wareHere_11 rfl (lv_at hl 0 rfl) ?_
      refine gf_X4_9 (v := .ref (ad 3)) hC hP kX_1 rfl dX4_wareHere_12 ?_
      refine gf_X4_107 (v := .long (σ.2.1 3 7)) hC hP kX_3 rfl dX4_wareHere_15 ?_
      obtain ⟨r6, hc5, hf⟩ := fxBP_e hf
      refine fx_ci hC hS (fx_runV (i := a1) (As := [.long (σ.2.1 3 7)]) (rest := []) hC hP hS (ctX5_wareNamed l hc5 D cy ad ec _) h_a1 (by decide) rfl kMV_X4_235 kC_X5_wareNamed hd_X5_wareNamed rfl ⟨(Nat.le_of_ble_eq_true rfl), (Nat.le_of_ble_eq_true rfl)⟩ ⟨Nat.le_refl 0, Nat.le_refl 0⟩ hl.1 (Nat.le_of_ble_eq_true rfl) rfl dX4_wareHere_18) (fun H locs hP hS => ?_)
      refine lv_goto (tgt := 25) hx hb dX4_wareHere_21 (by decide) ?_
      exact fx_iretp hf hC hr hk hP hS dX4_wareHere_25
  exact main _ _ _ hP hS hl

set_option maxHeartbeats 4000000 in
set_option maxRecDepth 100000 in
theorem ctX4_readCause (l : Launch) {a1 : Nat} {σ σ' : FH} {v : Int32} (hf : fX4_readCause a1 σ = some (v, σ')) : fx_Mi l yX4_readCause cX4_readCause 5 (some .boolean) (7) LX (fun ad ec => [.ref (ad 1), .ref (ad a1)]) σ v σ' := by
  unfold fX4_readCause at hf
  obtain ⟨h_a1, hf⟩ := fxG_e hf
  refine fx_mi' (own := RX4) rfl (by decide +kernel) ?_
  intro p e s m args below meth c D cy ad ec A hC hr hk hP hS
  have hx := hC.1
  have hb := hC.2.1
  have hl := lv_entry ([.ref (ad 1), .ref (ad a1)]) (n := 5) (Nat.le_of_ble_eq_true rfl)
  show W _ _ _ _ _ _ _ _ _ _ _ _ _ _ _ (entryFrame m ([.ref (ad 1), .ref (ad a1)] : List Value).toArray 5)
  rw [lg_entry_eq]
  generalize (lg_sl ([.ref (ad 1), .ref (ad a1)]) ++ List.replicate (5 - (lg_sl ([.ref (ad 1), .ref (ad a1)])).length) Slot.unset).toArray = ls at hl ⊢
  have hl : lv_has ls 5 [(0, .ref (ad 1)), (1, .ref (ad a1))] := hl
  have main : ∀ (H : Heap) (locs : List Loc) (ls : Array Slot), fx_P D cy LX ad σ H → va_S A s.heap H locs → lv_has ls 5 [(0, .ref (ad 1)), (1, .ref (ad a1))] → W p l e (fx_R (7)) s m args below meth c H locs 0 0 (fx_Qi D cy LX ad A below args s v σ') (F0 m 0 ls []) := by
    intro H locs ls hP hS hl
    refine lv_aload_n hx hb dX4_readCause_0 rfl (lv_at hl 0 rfl) ?_
    refine gf_X4_9 (v := .ref (ad 3)) hC hP kX_1 rfl dX4_readCause_1 ?_
    obtain ⟨σ3, hc1, hf⟩ := fxBV_e hf
    refine fx_cv hC hS (fx_runV (i := 3) (As := []) (rest := []) hC hP hS (ctX9_advance l hc1 D cy ad ec _) kX_3 (by decide) rfl kMV_X4_104 kC_X9_advance hd_X9_advance rfl ⟨(Nat.le_of_ble_eq_true rfl), (Nat.le_of_ble_eq_true rfl)⟩ ⟨Nat.le_refl 0, Nat.le_refl 0⟩ hl.1 (Nat.le_of_ble_eq_true rfl) rfl dX4_readCause_4) (fun H locs hP hS => ?_)
    refine lv_aload_n hx hb dX4_readCause_7 rfl (lv_at hl 0 rfl) ?_
    refine lv_aload_n hx hb dX4_readCause_8 rfl (lv_at hl 0 rfl) ?_
    refine lv_aload_n hx hb dX4_readCause_9 rfl (lv_at hl 1 rfl) ?_
    obtain ⟨r5, hc4, hf⟩ := fxBP_e hf
    refine fx_ci hC hS (fx_runV (i := 1) (As := [.ref (ad a1)]) (rest := [.ref (ad 1)]) hC hP hS (ctX4_partyHere l hc4 D cy ad ec _) kX_1 (by decide) rfl kMV_X4_177 kC_X4_partyHere hd_X4_partyHere rfl ⟨(Nat.le_of_ble_eq_true rfl), (Nat.le_of_ble_eq_true rfl)⟩ ⟨Nat.le_refl 0, Nat.le_refl 0⟩ hl.1 (Nat.le_of_ble_eq_true rfl) rfl dX4_readCause_10) (fun H locs hP hS => ?_)
    refine lv_iconst hx hb dX4_readCause_13 ki_m1 ?_
    obtain ⟨r8, σ9, hc7, hf⟩ := fxBI_e hf
    refine fx_ci hC hS (fx_runV (i := 1) (As := [.int r5, .int (-1)]) (rest := []) hC hP hS (ctX4_takeNamed l hc7 D cy ad ec _) kX_1 (by decide) rfl kMV_X4_181 kC_X4_takeNamed hd_X4_takeNamed rfl ⟨(Nat.le_of_ble_eq_true rfl), (Nat.le_of_ble_eq_true rfl)⟩ ⟨Nat.le_refl 0, Nat.le_refl 0⟩ hl.1 (Nat.le_of_ble_eq_true rfl) rfl dX4_readCause_14) (fun H locs hP hS => ?_)
    refine lv_istore_n (lv' := [(2, .int r8), (0, .ref (ad 1)), (1, .ref (ad a1))]) hx hb dX4_readCause_17 rfl hl (by decide) rfl (fun ls hl => ?_)
    refine lv_iload_n hx hb dX4_readCause_18 rfl (lv_at hl 0 rfl) ?_
    refine lv_iconst hx hb dX4_readCause_19 ki_m1 ?_
    refine lv_icmp_ne (tgt := 25) hx hb dX4_readCause_20 (by decide) (fun c10 => ?_) (fun c10 => ?_)
    · replace hf := fx_ie c10 hf
      refine lv_aload_n hx hb dX4_readCause_25 rfl (lv_at hl 1 rfl) ?_
      refine lv_aload_n hx hb dX4_readCause_26 rfl (lv_at hl 2 rfl) ?_
      obtain ⟨r12, hc11, hf⟩ := fxBP_e hf
      refine fx_ci hC hS (fx_runV (i := 1) (As := [.ref (ad a1)]) (rest := []) hC hP hS (ctX4_wareHere l hc11 D cy ad ec _) kX_1 (by decide) rfl kMV_X4_184 kC_X4_wareHere hd_X4_wareHere rfl ⟨(Nat.le_of_ble_eq_true rfl), (Nat.le_of_ble_eq_true rfl)⟩ ⟨Nat.le_refl 0, Nat.le_refl 0⟩ hl.1 (Nat.le_of_ble_eq_true rfl) rfl dX4_readCause_27) (fun H locs hP hS => ?_)
      refine lv_istore_n (lv' := [(3, .int r12), (2, .int r8), (0, .ref (ad 1)), (1, .ref (ad a1))]) hx hb dX4_readCause_30 rfl hl (by decide) rfl (fun ls hl => ?_)
      refine lv_iload_n hx hb dX4_readCause_31 rfl (lv_at hl 0 rfl) ?_
      refine lv_iconst hx hb dX4_readCause_32 ki_m1 ?_
      obtain ⟨J14, hJ14, hf⟩ := fxL_e hf
      have j_J14 : ∀ (y15 : Int32) (H : Heap) (locs : List Loc) (ls : Array Slot), fx_P D cy LX ad σ9 H → va_S A s.heap H locs → lv_has ls 5 [(0, .ref (ad 1)), (1, .ref (ad a1)), (2, .int r8), (3, .int r12)] → J14 y15 = some (v, σ') → W p l e (fx_R (7)) s m args below meth c H locs 0 0 (fx_Qi D cy LX ad A below args s v σ') (F0 m 50 ls [.int y15]) := by
        intro y15 H locs ls hP hS hl hf
        replace hf := fxk1 hJ14 hf
        refine lv_istore (lv' := [(4, .int y15), (0, .ref (ad 1)), (1, .ref (ad a1)), (2, .int r8), (3, .int r12)]) hx hb dX4_readCause_50 hl (by decide) rfl (fun ls hl => ?_)
        refine lv_aload_n hx hb dX4_readCause_52 rfl (lv_at hl 1 rfl) ?_
        refine lv_iload_n hx hb dX4_readCause_53 rfl (lv_at hl 4 rfl) ?_
        refine lv_iload hx hb dX4_readCause_54 (lv_at hl 0 rfl) ?_
        obtain ⟨r17, σ18, hc16, hf⟩ := fxBI_e hf
        refine fx_ci hC hS (fx_runV (i := 1) (As := [.int r12, .int y15]) (rest := []) hC hP hS (ctX4_takeNamed l hc16 D cy ad ec _) kX_1 (by decide) rfl kMV_X4_181 kC_X4_takeNamed hd_X4_takeNamed rfl ⟨(Nat.le_of_ble_eq_true rfl), (Nat.le_of_ble_eq_true rfl)⟩ ⟨Nat.le_refl 0, Nat.le_refl 0⟩ hl.1 (Nat.le_of_ble_eq_true rfl) rfl dX4_readCause_56) (fun H locs hP hS => ?_)
        refine lv_iconst hx hb dX4_readCause_59 ki_m1 ?_
        refine lv_icmp_ne (tgt := 65) hx hb dX4_readCause_60 (by decide) (fun c19 => ?_) (fun c19 => ?_)
        · replace hf := fx_ie c19 hf
          refine lv_aload_n hx hb dX4_readCause_65 rfl (lv_at hl 2 rfl) ?_
          refine gf_X4_174 (v := .ref (ad (a1 + 7))) hC hP h_a1 rfl dX4_readCause_66 ?_
          refine lv_iload_n hx hb dX4_readCause_69 rfl (lv_at hl 3 rfl) ?_
          refine lv_dup2_11 hx hb dX4_readCause_70 rfl rfl ?_
          obtain ⟨h20, hf⟩ := fxG_e hf
          refine fx_iald hC hP (lyX_5_8 h_a1) (fx_inp h20) dX4_readCause_71 ?_
          refine lv_iconst hx hb dX4_readCause_72 ki_1 ?_
          refine lv_iload_n hx hb dX4_readCause_73 rfl (lv_at hl 4 rfl) ?_
          refine lv_ishl hx hb dX4_readCause_74 ?_
          refine lv_ior hx hb dX4_readCause_75 ?_
          obtain ⟨h21, hf⟩ := fxG_e hf
          obtain ⟨σ22, eσ22, hf⟩ := fxL_e hf
          refine fx_iast hC hP hS (lyX_5_8 h_a1) (fx_inp h21) dX4_readCause_76 (fun H locs hP hS => ?_)
          replace hP := fx_Pe eσ22 hP
          refine lv_iconst hx hb dX4_readCause_77 ki_1 ?_
          exact fx_zretf rfl hf hC hr hk hP hS dX4_readCause_78
        · replace hf := fx_it c19 hf
          refine lv_iconst hx hb dX4_readCause_63 ki_0 ?_
          exact fx_zretf rfl hf hC hr hk hP hS dX4_readCause_64
      obtain ⟨J23, hJ23, hf⟩ := fxL_e hf
      have j_J23 : ∀  (H : Heap) (locs : List Loc) (ls : Array Slot), fx_P D cy LX ad σ9 H → va_S A s.heap H locs → lv_has ls 5 [(0, .ref (ad 1)), (1, .ref (ad a1)), (2, .int r8), (3, .int r12)] → J23 = some (v, σ') → W p l e (fx_R (7)) s m args below meth c H locs 0 0 (fx_Qi D cy LX ad A below args s v σ') (F0 m 49 ls []) := by
        intro  H locs ls hP hS hl hf
        replace hf := hJ23.symm.trans hf
        refine lv_iconst hx hb dX4_readCause_49 ki_m1 ?_
        exact j_J14 (-1) _ _ _ hP hS (lv_sub hl [0, 1, 2, 3] rfl) hf
      refine lv_icmp_eq (tgt := 49) hx hb dX4_readCause_33 (by decide) (fun c24 => ?_) (fun c24 => ?_)
      · replace hf := fx_it c24 hf
        exact j_J23  _ _ _ hP hS (lv_sub hl [2, 3, 1, 0] rfl) hf
      · replace hf := fx_ie c24 hf
        refine lv_aload_n hx hb dX4_readCause_36 rfl (lv_at hl 3 rfl) ?_
        refine lv_iload_n hx hb dX4_readCause_37 rfl (lv_at hl 1 rfl) ?_
        refine lv_iload_n hx hb dX4_readCause_38 rfl (lv_at hl 0 rfl) ?_
        obtain ⟨r26, hc25, hf⟩ := fxBP_e hf
        refine fx_ci hC hS (fx_runV (i := a1) (As := [.int r8, .int r12]) (rest := []) hC hP hS (ctX5_isFor l hc25 D cy ad ec _) h_a1 (by decide) rfl kMV_X4_187 kC_X5_isFor hd_X5_isFor rfl ⟨(Nat.le_of_ble_eq_true rfl), (Nat.le_of_ble_eq_true rfl)⟩ ⟨Nat.le_refl 0, Nat.le_refl 0⟩ hl.1 (Nat.le_of_ble_eq_true rfl) rfl dX4_readCause_39) (fun H locs hP hS => ?_)
        refine lv_if_eq (tgt := 49) hx hb dX4_readCause_42 (by decide) (fun c28 => ?_) (fun c28 => ?_)
        · replace hf := fx_it c28 hf
          exact j_J23  _ _ _ hP hS (lv_sub hl [2, 3, 1, 0] rfl) hf
        · replace hf := fx_ie c28 hf
          refine lv_iload_n hx hb dX4_readCause_45 rfl (lv_at hl 0 rfl) ?_
          refine lv_goto (tgt := 50) hx hb dX4_readCause_46 (by decide) ?_
          exact j_J14 r12 _ _ _ hP hS (lv_sub hl [2, 3, 1, 0] rfl) hf
    · replace hf := fx_it c10 hf
      refine lv_iconst hx hb dX4_readCause_23 ki_0 ?_
      exact fx_zretf rfl hf hC hr hk hP hS dX4_readCause_24
  exact main _ _ _ hP hS hl

set_option maxHeartbeats 4000000 in
set_option maxRecDepth 100000 in
theorem ctX4_readFine (l : Launch) {a1 : Nat} {σ σ' : FH} {v : Int32} (hf : fX4_readFine a1 σ = some (v, σ')) : fx_Mi l yX4_readFine cX4_readFine 3 (some .boolean) (7) LX (fun ad ec => [.ref (ad 1), .ref (ad a1)]) σ v σ' := by
  unfold fX4_readFine at hf
  obtain ⟨h_a1, hf⟩ := fxG_e hf
  refine fx_mi' (own := RX4) rfl (by decide +kernel) ?_
  intro p e s m args below meth c D cy ad ec A hC hr hk hP hS
  have hx := hC.1
  have hb := hC.2.1
  have hl := lv_entry ([.ref (ad 1), .ref (ad a1)]) (n := 3) (Nat.le_of_ble_eq_true rfl)
  show W _ _ _ _ _ _ _ _ _ _ _ _ _ _ _ (entryFrame m ([.ref (ad 1), .ref (ad a1)] : List Value).toArray 3)
  rw [lg_entry_eq]
  generalize (lg_sl ([.ref (ad 1), .ref (ad a1)]) ++ List.replicate (3 - (lg_sl ([.ref (ad 1), .ref (ad a1)])).length) Slot.unset).toArray = ls at hl ⊢
  have hl : lv_has ls 3 [(0, .ref (ad 1)), (1, .ref (ad a1))] := hl
  have main : ∀ (H : Heap) (locs : List Loc) (ls : Array Slot), fx_P D cy LX ad σ H → va_S A s.heap H locs → lv_has ls 3 [(0, .ref (ad 1)), (1, .ref (ad a1))] → W p l e (fx_R (7)) s m args below meth c H locs 0 0 (fx_Qi D cy LX ad A below args s v σ') (F0 m 0 ls []) := by
    intro H locs ls hP hS hl
    refine lv_aload_n hx hb dX4_readFine_0 rfl (lv_at hl 1 rfl) ?_
    refine gf_X4_191 (v := .int (σ.1 a1 10)) hC hP h_a1 rfl dX4_readFine_1 ?_
    refine lv_if_eq (tgt := 16) hx hb dX4_readFine_4 (by decide) (fun c1 => ?_) (fun c1 => ?_)
    · replace hf := fx_it c1 hf
      refine lv_aload_n hx hb dX4_readFine_16 rfl (lv_at hl 0 rfl) ?_
      refine gf_X4_9 (v := .ref (ad 3)) hC hP kX_1 rfl dX4_readFine_17 ?_
      obtain ⟨σ4, hc2, hf⟩ := fxBV_e hf
      refine fx_cv hC hS (fx_runV (i := 3) (As := []) (rest := []) hC hP hS (ctX9_advance l hc2 D cy ad ec _) kX_3 (by decide) rfl kMV_X4_104 kC_X9_advance hd_X9_advance rfl ⟨(Nat.le_of_ble_eq_true rfl), (Nat.le_of_ble_eq_true rfl)⟩ ⟨Nat.le_refl 0, Nat.le_refl 0⟩ hl.1 (Nat.le_of_ble_eq_true rfl) rfl dX4_readFine_20) (fun H locs hP hS => ?_)
      refine lv_aload_n hx hb dX4_readFine_23 rfl (lv_at hl 0 rfl) ?_
      refine gf_X4_9 (v := .ref (ad 3)) hC hP kX_1 rfl dX4_readFine_24 ?_
      refine lv_iconst hx hb dX4_readFine_27 ki_1 ?_
      refine lv_bipush hx hb dX4_readFine_28 kb_9 ?_
      obtain ⟨r6, σ7, hc5, hf⟩ := fxBI_e hf
      refine fx_ci hC hS (fx_runV (i := 3) (As := [.int 1, .int 9]) (rest := []) hC hP hS (ctX9_takeNumber l hc5 D cy ad ec _) kX_3 (by decide) rfl kMV_X4_124 kC_X9_takeNumber hd_X9_takeNumber rfl ⟨(Nat.le_of_ble_eq_true rfl), (Nat.le_of_ble_eq_true rfl)⟩ ⟨Nat.le_refl 0, Nat.le_refl 0⟩ hl.1 (Nat.le_of_ble_eq_true rfl) rfl dX4_readFine_30) (fun H locs hP hS => ?_)
      refine lv_istore_n (lv' := [(2, .int r6), (0, .ref (ad 1)), (1, .ref (ad a1))]) hx hb dX4_readFine_33 rfl hl (by decide) rfl (fun ls hl => ?_)
      refine lv_iload_n hx hb dX4_readFine_34 rfl (lv_at hl 0 rfl) ?_
      refine lv_iconst hx hb dX4_readFine_35 ki_m1 ?_
      refine lv_icmp_ne (tgt := 41) hx hb dX4_readFine_36 (by decide) (fun c8 => ?_) (fun c8 => ?_)
      · replace hf := fx_ie c8 hf
        refine lv_aload_n hx hb dX4_readFine_41 rfl (lv_at hl 2 rfl) ?_
        refine lv_iload_n hx hb dX4_readFine_42 rfl (lv_at hl 0 rfl) ?_
        obtain ⟨σ9, eσ9, hf⟩ := fxL_e hf
        refine pf_X4_195 hC hP hS h_a1 dX4_readFine_43 (fun H locs hP hS => ?_)
        replace hP := fx_Pe eσ9 hP
        refine lv_aload_n hx hb dX4_readFine_46 rfl (lv_at hl 2 rfl) ?_
        refine lv_iconst hx hb dX4_readFine_47 ki_1 ?_
        obtain ⟨σ10, eσ10, hf⟩ := fxL_e hf
        refine pf_X4_191 hC hP hS h_a1 rfl rfl dX4_readFine_48 (fun H locs hP hS => ?_)
        replace hP := fx_Pe eσ10 hP
        refine lv_iconst hx hb dX4_readFine_51 ki_1 ?_
        exact fx_zretf rfl hf hC hr hk hP hS dX4_readFine_52
      · replace hf := fx_it c8 hf
        refine lv_iconst hx hb dX4_readFine_39 ki_0 ?_
        exact fx_zretf rfl hf hC hr hk hP hS dX4_readFine_40
    · replace hf := fx_ie c1 hf
      refine lv_aload_n hx hb dX4_readFine_7 rfl (lv_at hl 0 rfl) ?_
      refine gf_X4_9 (v := .ref (ad 3)) hC hP kX_1 rfl dX4_readFine_8 ?_
      refine lv_iconst hx hb dX4_readFine_11 ki_3 ?_
      obtain ⟨r12, σ13, hc11, hf⟩ := fxBI_e hf
      refine fx_ci hC hS (fx_runV (i := 3) (As := [.int 3]) (rest := []) hC hP hS (ctX9_wrong l hc11 D cy ad ec _) kX_3 (by decide) rfl kMV_X4_97 kC_X9_wrong hd_X9_wrong rfl ⟨(Nat.le_of_ble_eq_true rfl), (Nat.le_of_ble_eq_true rfl)⟩ ⟨Nat.le_refl 0, Nat.le_refl 0⟩ hl.1 (Nat.le_of_ble_eq_true rfl) rfl dX4_readFine_12) (fun H locs hP hS => ?_)
      obtain ⟨h14, hf⟩ := fxG_e hf
      exact fx_zretf (fx_bon h14) hf hC hr hk hP hS dX4_readFine_15
  exact main _ _ _ hP hS hl

set_option maxHeartbeats 4000000 in
set_option maxRecDepth 100000 in
theorem ctX4_readWorks (l : Launch) {a1 : Nat} {σ σ' : FH} {v : Int32} (hf : fX4_readWorks a1 σ = some (v, σ')) : fx_Mi l yX4_readWorks cX4_readWorks 2 (some .boolean) (48) LX (fun ad ec => [.ref (ad 1), .ref (ad a1)]) σ v σ' := by
  unfold fX4_readWorks at hf
  obtain ⟨h_a1, hf⟩ := fxG_e hf
  refine fx_mi' (own := RX4) rfl (by decide +kernel) ?_
  intro p e s m args below meth c D cy ad ec A hC hr hk hP hS
  have hx := hC.1
  have hb := hC.2.1
  have hl := lv_entry ([.ref (ad 1), .ref (ad a1)]) (n := 2) (Nat.le_of_ble_eq_true rfl)
  show W _ _ _ _ _ _ _ _ _ _ _ _ _ _ _ (entryFrame m ([.ref (ad 1), .ref (ad a1)] : List Value).toArray 2)
  rw [lg_entry_eq]
  generalize (lg_sl ([.ref (ad 1), .ref (ad a1)]) ++ List.replicate (2 - (lg_sl ([.ref (ad 1), .ref (ad a1)])).length) Slot.unset).toArray = ls at hl ⊢
  have hl : lv_has ls 2 [(0, .ref (ad 1)), (1, .ref (ad a1))] := hl
  have main : ∀ (H : Heap) (locs : List Loc) (ls : Array Slot), fx_P D cy LX ad σ H → va_S A s.heap H locs → lv_has ls 2 [(0, .ref (ad 1)), (1, .ref (ad a1))] → W p l e (fx_R (48)) s m args below meth c H locs 0 0 (fx_Qi D cy LX ad A below args s v σ') (F0 m 0 ls []) := by
    intro H locs ls hP hS hl
    refine lv_aload_n hx hb dX4_readWorks_0 rfl (lv_at hl 1 rfl) ?_
    refine gf_X4_198 (v := .int (σ.1 a1 11)) hC hP h_a1 rfl dX4_readWorks_1 ?_
    refine lv_if_eq (tgt := 16) hx hb dX4_readWorks_4 (by decide) (fun c1 => ?_) (fun c1 => ?_)
    · replace hf := fx_it c1 hf
      refine lv_aload_n hx hb dX4_readWorks_16 rfl (lv_at hl 1 rfl) ?_
      refine lv_iconst hx hb dX4_readWorks_17 ki_1 ?_
      obtain ⟨σ2, eσ2, hf⟩ := fxL_e hf
      refine pf_X4_198 hC hP hS h_a1 rfl rfl dX4_readWorks_18 (fun H locs hP hS => ?_)
      replace hP := fx_Pe eσ2 hP
      refine lv_aload_n hx hb dX4_readWorks_21 rfl (lv_at hl 0 rfl) ?_
      refine gf_X4_9 (v := .ref (ad 3)) hC hP kX_1 rfl dX4_readWorks_22 ?_
      obtain ⟨σ5, hc3, hf⟩ := fxBV_e hf
      refine fx_cv hC hS (fx_runV (i := 3) (As := []) (rest := []) hC hP hS (ctX9_advance l hc3 D cy ad ec _) kX_3 (by decide) rfl kMV_X4_104 kC_X9_advance hd_X9_advance rfl ⟨(Nat.le_of_ble_eq_true rfl), (Nat.le_of_ble_eq_true rfl)⟩ ⟨Nat.le_refl 0, Nat.le_refl 0⟩ hl.1 (Nat.le_of_ble_eq_true rfl) rfl dX4_readWorks_25) (fun H locs hP hS => ?_)
      refine lv_aload_n hx hb dX4_readWorks_28 rfl (lv_at hl 0 rfl) ?_
      refine gf_X4_20 (v := .ref (ad 2)) hC hP kX_1 rfl dX4_readWorks_29 ?_
      refine lv_aload_n hx hb dX4_readWorks_32 rfl (lv_at hl 1 rfl) ?_
      refine gf_X4_201 (v := .ref (ad (a1 + 8))) hC hP h_a1 rfl dX4_readWorks_33 ?_
      refine lv_iconst hx hb dX4_readWorks_36 ki_0 ?_
      refine lv_iconst hx hb dX4_readWorks_37 ki_0 ?_
      obtain ⟨r7, σ8, hc6, hf⟩ := fxBI_e hf
      refine fx_ci hC hS (fx_runVN (i := 2) (As := [.ref (ad (a1 + 8)), .int 0, .int 0]) (rest := []) (host := "HalfShop") hC hP hS (ctX2_readLevel l 40 hc6 D cy ad ec _) kX_2 (by decide) rfl (fx_nest2 hC) kVN_X2_readLevel kC_X2_readLevel hd_X2_readLevel.2 rfl ⟨(Nat.le_of_ble_eq_true rfl), (Nat.le_of_ble_eq_true rfl)⟩ ⟨Nat.le_refl 0, Nat.le_refl 0⟩ hl.1 (Nat.le_of_ble_eq_true rfl) rfl dX4_readWorks_38) (fun H locs hP hS => ?_)
      obtain ⟨h9, hf⟩ := fxG_e hf
      exact fx_zretf (fx_bon h9) hf hC hr hk hP hS dX4_readWorks_41
    · replace hf := fx_ie c1 hf
      refine lv_aload_n hx hb dX4_readWorks_7 rfl (lv_at hl 0 rfl) ?_
      refine gf_X4_9 (v := .ref (ad 3)) hC hP kX_1 rfl dX4_readWorks_8 ?_
      refine lv_iconst hx hb dX4_readWorks_11 ki_3 ?_
      obtain ⟨r11, σ12, hc10, hf⟩ := fxBI_e hf
      refine fx_ci hC hS (fx_runV (i := 3) (As := [.int 3]) (rest := []) hC hP hS (ctX9_wrong l hc10 D cy ad ec _) kX_3 (by decide) rfl kMV_X4_97 kC_X9_wrong hd_X9_wrong rfl ⟨(Nat.le_of_ble_eq_true rfl), (Nat.le_of_ble_eq_true rfl)⟩ ⟨Nat.le_refl 0, Nat.le_refl 0⟩ hl.1 (Nat.le_of_ble_eq_true rfl) rfl dX4_readWorks_12) (fun H locs hP hS => ?_)
      obtain ⟨h13, hf⟩ := fxG_e hf
      exact fx_zretf (fx_bon h13) hf hC hr hk hP hS dX4_readWorks_15
  exact main _ _ _ hP hS hl

set_option maxHeartbeats 4000000 in
set_option maxRecDepth 100000 in
theorem ctX4_readTelling (l : Launch) {a1 : Nat} {σ σ' : FH} {v : Int32} (hf : fX4_readTelling a1 σ = some (v, σ')) : fx_Mi l yX4_readTelling cX4_readTelling 2 (some .boolean) (49) LX (fun ad ec => [.ref (ad 1), .ref (ad a1)]) σ v σ' := by
  unfold fX4_readTelling at hf
  obtain ⟨h_a1, hf⟩ := fxG_e hf
  refine fx_mi' (own := RX4) rfl (by decide +kernel) ?_
  intro p e s m args below meth c D cy ad ec A hC hr hk hP hS
  have hx := hC.1
  have hb := hC.2.1
  have hl := lv_entry ([.ref (ad 1), .ref (ad a1)]) (n := 2) (Nat.le_of_ble_eq_true rfl)
  show W _ _ _ _ _ _ _ _ _ _ _ _ _ _ _ (entryFrame m ([.ref (ad 1), .ref (ad a1)] : List Value).toArray 2)
  rw [lg_entry_eq]
  generalize (lg_sl ([.ref (ad 1), .ref (ad a1)]) ++ List.replicate (2 - (lg_sl ([.ref (ad 1), .ref (ad a1)])).length) Slot.unset).toArray = ls at hl ⊢
  have hl : lv_has ls 2 [(0, .ref (ad 1)), (1, .ref (ad a1))] := hl
  have main : ∀ (H : Heap) (locs : List Loc) (ls : Array Slot), fx_P D cy LX ad σ H → va_S A s.heap H locs → lv_has ls 2 [(0, .ref (ad 1)), (1, .ref (ad a1))] → W p l e (fx_R (49)) s m args below meth c H locs 0 0 (fx_Qi D cy LX ad A below args s v σ') (F0 m 0 ls []) := by
    intro H locs ls hP hS hl
    refine lv_aload_n hx hb dX4_readTelling_0 rfl (lv_at hl 0 rfl) ?_
    refine gf_X4_9 (v := .ref (ad 3)) hC hP kX_1 rfl dX4_readTelling_1 ?_
    refine fx_gete hC hS 0 (by decide) rfl kFw_X4_60 dX4_readTelling_4 ?_
    obtain ⟨r2, hc1, hf⟩ := fxBP_e hf
    refine fx_ci hC hS (fx_runV (i := 3) (As := [.ref (ec 0)]) (rest := []) hC hP hS (ctX9_isWord l hc1 D cy ad ec _) kX_3 (by decide) rfl kMV_X4_66 kC_X9_isWord hd_X9_isWord rfl ⟨(Nat.le_of_ble_eq_true rfl), (Nat.le_of_ble_eq_true rfl)⟩ ⟨Nat.le_refl 0, Nat.le_refl 0⟩ hl.1 (Nat.le_of_ble_eq_true rfl) rfl dX4_readTelling_7) (fun H locs hP hS => ?_)
    refine lv_if_eq (tgt := 19) hx hb dX4_readTelling_10 (by decide) (fun c4 => ?_) (fun c4 => ?_)
    · replace hf := fx_it c4 hf
      refine lv_aload_n hx hb dX4_readTelling_19 rfl (lv_at hl 0 rfl) ?_
      refine gf_X4_9 (v := .ref (ad 3)) hC hP kX_1 rfl dX4_readTelling_20 ?_
      refine fx_gete hC hS 3 (by decide) rfl kFw_X4_73 dX4_readTelling_23 ?_
      obtain ⟨r6, hc5, hf⟩ := fxBP_e hf
      refine fx_ci hC hS (fx_runV (i := 3) (As := [.ref (ec 3)]) (rest := []) hC hP hS (ctX9_isWord l hc5 D cy ad ec _) kX_3 (by decide) rfl kMV_X4_66 kC_X9_isWord hd_X9_isWord rfl ⟨(Nat.le_of_ble_eq_true rfl), (Nat.le_of_ble_eq_true rfl)⟩ ⟨Nat.le_refl 0, Nat.le_refl 0⟩ hl.1 (Nat.le_of_ble_eq_true rfl) rfl dX4_readTelling_26) (fun H locs hP hS => ?_)
      refine lv_if_eq (tgt := 38) hx hb dX4_readTelling_29 (by decide) (fun c8 => ?_) (fun c8 => ?_)
      · replace hf := fx_it c8 hf
        refine lv_aload_n hx hb dX4_readTelling_38 rfl (lv_at hl 0 rfl) ?_
        refine gf_X4_9 (v := .ref (ad 3)) hC hP kX_1 rfl dX4_readTelling_39 ?_
        refine fx_gete hC hS 5 (by decide) rfl kFw_X4_79 dX4_readTelling_42 ?_
        obtain ⟨r10, hc9, hf⟩ := fxBP_e hf
        refine fx_ci hC hS (fx_runV (i := 3) (As := [.ref (ec 5)]) (rest := []) hC hP hS (ctX9_isWord l hc9 D cy ad ec _) kX_3 (by decide) rfl kMV_X4_66 kC_X9_isWord hd_X9_isWord rfl ⟨(Nat.le_of_ble_eq_true rfl), (Nat.le_of_ble_eq_true rfl)⟩ ⟨Nat.le_refl 0, Nat.le_refl 0⟩ hl.1 (Nat.le_of_ble_eq_true rfl) rfl dX4_readTelling_45) (fun H locs hP hS => ?_)
        refine lv_if_eq (tgt := 57) hx hb dX4_readTelling_48 (by decide) (fun c12 => ?_) (fun c12 => ?_)
        · replace hf := fx_it c12 hf
          refine lv_aload_n hx hb dX4_readTelling_57 rfl (lv_at hl 0 rfl) ?_
          refine gf_X4_9 (v := .ref (ad 3)) hC hP kX_1 rfl dX4_readTelling_58 ?_
          refine fx_gete hC hS 6 (by decide) rfl kFw_X4_85 dX4_readTelling_61 ?_
          obtain ⟨r14, hc13, hf⟩ := fxBP_e hf
          refine fx_ci hC hS (fx_runV (i := 3) (As := [.ref (ec 6)]) (rest := []) hC hP hS (ctX9_isWord l hc13 D cy ad ec _) kX_3 (by decide) rfl kMV_X4_66 kC_X9_isWord hd_X9_isWord rfl ⟨(Nat.le_of_ble_eq_true rfl), (Nat.le_of_ble_eq_true rfl)⟩ ⟨Nat.le_refl 0, Nat.le_refl 0⟩ hl.1 (Nat.le_of_ble_eq_true rfl) rfl dX4_readTelling_64) (fun H locs hP hS => ?_)
          refine lv_if_eq (tgt := 76) hx hb dX4_readTelling_67 (by decide) (fun c16 => ?_) (fun c16 => ?_)
          · replace hf := fx_it c16 hf
            refine lv_aload_n hx hb dX4_readTelling_76 rfl (lv_at hl 0 rfl) ?_
            refine gf_X4_9 (v := .ref (ad 3)) hC hP kX_1 rfl dX4_readTelling_77 ?_
            refine fx_gete hC hS 7 (by decide) rfl kFw_X4_91 dX4_readTelling_80 ?_
            obtain ⟨r18, hc17, hf⟩ := fxBP_e hf
            refine fx_ci hC hS (fx_runV (i := 3) (As := [.ref (ec 7)]) (rest := []) hC hP hS (ctX9_isWord l hc17 D cy ad ec _) kX_3 (by decide) rfl kMV_X4_66 kC_X9_isWord hd_X9_isWord rfl ⟨(Nat.le_of_ble_eq_true rfl), (Nat.le_of_ble_eq_true rfl)⟩ ⟨Nat.le_refl 0, Nat.le_refl 0⟩ hl.1 (Nat.le_of_ble_eq_true rfl) rfl dX4_readTelling_83) (fun H locs hP hS => ?_)
            refine lv_if_eq (tgt := 97) hx hb dX4_readTelling_86 (by decide) (fun c20 => ?_) (fun c20 => ?_)
            · replace hf := fx_it c20 hf
              refine lv_aload_n hx hb dX4_readTelling_97 rfl (lv_at hl 0 rfl) ?_
              refine gf_X4_9 (v := .ref (ad 3)) hC hP kX_1 rfl dX4_readTelling_98 ?_
              refine lv_iconst hx hb dX4_readTelling_101 ki_1 ?_
              obtain ⟨r22, σ23, hc21, hf⟩ := fxBI_e hf
              refine fx_ci hC hS (fx_runV (i := 3) (As := [.int 1]) (rest := []) hC hP hS (ctX9_wrong l hc21 D cy ad ec _) kX_3 (by decide) rfl kMV_X4_97 kC_X9_wrong hd_X9_wrong rfl ⟨(Nat.le_of_ble_eq_true rfl), (Nat.le_of_ble_eq_true rfl)⟩ ⟨Nat.le_refl 0, Nat.le_refl 0⟩ hl.1 (Nat.le_of_ble_eq_true rfl) rfl dX4_readTelling_102) (fun H locs hP hS => ?_)
              obtain ⟨h24, hf⟩ := fxG_e hf
              exact fx_zretf (fx_bon h24) hf hC hr hk hP hS dX4_readTelling_105
            · replace hf := fx_ie c20 hf
              refine lv_aload_n hx hb dX4_readTelling_89 rfl (lv_at hl 0 rfl) ?_
              refine lv_aload_n hx hb dX4_readTelling_90 rfl (lv_at hl 1 rfl) ?_
              obtain ⟨r26, σ27, hc25, hf⟩ := fxBI_e hf
              refine fx_ci hC hS (fx_runV (i := 1) (As := [.ref (ad a1)]) (rest := []) hC hP hS (ctX4_readWorks l hc25 D cy ad ec _) kX_1 (by decide) rfl kMV_X4_94 kC_X4_readWorks hd_X4_readWorks rfl ⟨(Nat.le_of_ble_eq_true rfl), (Nat.le_of_ble_eq_true rfl)⟩ ⟨Nat.le_refl 0, Nat.le_refl 0⟩ hl.1 (Nat.le_of_ble_eq_true rfl) rfl dX4_readTelling_91) (fun H locs hP hS => ?_)
              refine lv_goto (tgt := 105) hx hb dX4_readTelling_94 (by decide) ?_
              obtain ⟨h28, hf⟩ := fxG_e hf
              exact fx_zretf (fx_bon h28) hf hC hr hk hP hS dX4_readTelling_105
          · replace hf := fx_ie c16 hf
            refine lv_aload_n hx hb dX4_readTelling_70 rfl (lv_at hl 0 rfl) ?_
            refine lv_aload_n hx hb dX4_readTelling_71 rfl (lv_at hl 1 rfl) ?_
            obtain ⟨r30, σ31, hc29, hf⟩ := fxBI_e hf
            refine fx_ci hC hS (fx_runV (i := 1) (As := [.ref (ad a1)]) (rest := []) hC hP hS (ctX4_readFine l hc29 D cy ad ec _) kX_1 (by decide) rfl kMV_X4_88 kC_X4_readFine hd_X4_readFine rfl ⟨(Nat.le_of_ble_eq_true rfl), (Nat.le_of_ble_eq_true rfl)⟩ ⟨Nat.le_refl 0, Nat.le_refl 0⟩ hl.1 (Nat.le_of_ble_eq_true rfl) rfl dX4_readTelling_72) (fun H locs hP hS => ?_)
            obtain ⟨h32, hf⟩ := fxG_e hf
            exact fx_zretf (fx_bon h32) hf hC hr hk hP hS dX4_readTelling_75
        · replace hf := fx_ie c12 hf
          refine lv_aload_n hx hb dX4_readTelling_51 rfl (lv_at hl 0 rfl) ?_
          refine lv_aload_n hx hb dX4_readTelling_52 rfl (lv_at hl 1 rfl) ?_
          obtain ⟨r34, σ35, hc33, hf⟩ := fxBI_e hf
          refine fx_ci hC hS (fx_runV (i := 1) (As := [.ref (ad a1)]) (rest := []) hC hP hS (ctX4_readCause l hc33 D cy ad ec _) kX_1 (by decide) rfl kMV_X4_82 kC_X4_readCause hd_X4_readCause rfl ⟨(Nat.le_of_ble_eq_true rfl), (Nat.le_of_ble_eq_true rfl)⟩ ⟨Nat.le_refl 0, Nat.le_refl 0⟩ hl.1 (Nat.le_of_ble_eq_true rfl) rfl dX4_readTelling_53) (fun H locs hP hS => ?_)
          obtain ⟨h36, hf⟩ := fxG_e hf
          exact fx_zretf (fx_bon h36) hf hC hr hk hP hS dX4_readTelling_56
      · replace hf := fx_ie c8 hf
        refine lv_aload_n hx hb dX4_readTelling_32 rfl (lv_at hl 0 rfl) ?_
        refine lv_aload_n hx hb dX4_readTelling_33 rfl (lv_at hl 1 rfl) ?_
        obtain ⟨r38, σ39, hc37, hf⟩ := fxBI_e hf
        refine fx_ci hC hS (fx_runV (i := 1) (As := [.ref (ad a1)]) (rest := []) hC hP hS (ctX4_readParty l hc37 D cy ad ec _) kX_1 (by decide) rfl kMV_X4_76 kC_X4_readParty hd_X4_readParty rfl ⟨(Nat.le_of_ble_eq_true rfl), (Nat.le_of_ble_eq_true rfl)⟩ ⟨Nat.le_refl 0, Nat.le_refl 0⟩ hl.1 (Nat.le_of_ble_eq_true rfl) rfl dX4_readTelling_34) (fun H locs hP hS => ?_)
        obtain ⟨h40, hf⟩ := fxG_e hf
        exact fx_zretf (fx_bon h40) hf hC hr hk hP hS dX4_readTelling_37
    · replace hf := fx_ie c4 hf
      refine lv_aload_n hx hb dX4_readTelling_13 rfl (lv_at hl 0 rfl) ?_
      refine lv_aload_n hx hb dX4_readTelling_14 rfl (lv_at hl 1 rfl) ?_
      obtain ⟨r42, σ43, hc41, hf⟩ := fxBI_e hf
      refine fx_ci hC hS (fx_runV (i := 1) (As := [.ref (ad a1)]) (rest := []) hC hP hS (ctX4_readWare l hc41 D cy ad ec _) kX_1 (by decide) rfl kMV_X4_70 kC_X4_readWare hd_X4_readWare rfl ⟨(Nat.le_of_ble_eq_true rfl), (Nat.le_of_ble_eq_true rfl)⟩ ⟨Nat.le_refl 0, Nat.le_refl 0⟩ hl.1 (Nat.le_of_ble_eq_true rfl) rfl dX4_readTelling_15) (fun H locs hP hS => ?_)
      obtain ⟨h44, hf⟩ := fxG_e hf
      exact fx_zretf (fx_bon h44) hf hC hr hk hP hS dX4_readTelling_18
  exact main _ _ _ hP hS hl

set_option maxHeartbeats 4000000 in
set_option maxRecDepth 100000 in
theorem ctX4_readRepublic (l : Launch) {a1 : Nat} {σ σ' : FH} {v : Int32} (hf : fX4_readRepublic a1 σ = some (v, σ')) : fx_Mi l yX4_readRepublic cX4_readRepublic 4 (some .int) (50) LX (fun ad ec => [.ref (ad 1), .ref (ad a1)]) σ v σ' := by
  unfold fX4_readRepublic at hf
  obtain ⟨h_a1, hf⟩ := fxG_e hf
  refine fx_mi' (own := RX4) rfl (by decide +kernel) ?_
  intro p e s m args below meth c D cy ad ec A hC hr hk hP hS
  have hx := hC.1
  have hb := hC.2.1
  have hl := lv_entry ([.ref (ad 1), .ref (ad a1)]) (n := 4) (Nat.le_of_ble_eq_true rfl)
  show W _ _ _ _ _ _ _ _ _ _ _ _ _ _ _ (entryFrame m ([.ref (ad 1), .ref (ad a1)] : List Value).toArray 4)
  rw [lg_entry_eq]
  generalize (lg_sl ([.ref (ad 1), .ref (ad a1)]) ++ List.replicate (4 - (lg_sl ([.ref (ad 1), .ref (ad a1)])).length) Slot.unset).toArray = ls at hl ⊢
  have hl : lv_has ls 4 [(0, .ref (ad 1)), (1, .ref (ad a1))] := hl
  have main : ∀ (H : Heap) (locs : List Loc) (ls : Array Slot), fx_P D cy LX ad σ H → va_S A s.heap H locs → lv_has ls 4 [(0, .ref (ad 1)), (1, .ref (ad a1))] → W p l e (fx_R (50)) s m args below meth c H locs 0 0 (fx_Qi D cy LX ad A below args s v σ') (F0 m 0 ls []) := by
    intro H locs ls hP hS hl
    refine lv_aload_n hx hb dX4_readRepublic_0 rfl (lv_at hl 0 rfl) ?_
    refine gf_X4_9 (v := .ref (ad 3)) hC hP kX_1 rfl dX4_readRepublic_1 ?_
    obtain ⟨σ3, hc1, hf⟩ := fxBV_e hf
    refine fx_cv hC hS (fx_runV (i := 3) (As := []) (rest := []) hC hP hS (ctX9_begin l hc1 D cy ad ec _) kX_3 (by decide) rfl kMV_X4_24 kC_X9_begin hd_X9_begin rfl ⟨(Nat.le_of_ble_eq_true rfl), (Nat.le_of_ble_eq_true rfl)⟩ ⟨Nat.le_refl 0, Nat.le_refl 0⟩ hl.1 (Nat.le_of_ble_eq_true rfl) rfl dX4_readRepublic_4) (fun H locs hP hS => ?_)
    refine lv_aload_n hx hb dX4_readRepublic_7 rfl (lv_at hl 1 rfl) ?_
    obtain ⟨σ6, hc4, hf⟩ := fxBV_e hf
    refine fx_cv hC hS (fx_runV (i := a1) (As := []) (rest := []) hC hP hS (ctX5_clear l hc4 D cy ad ec _) h_a1 (by decide) rfl kMV_X4_29 kC_X5_clear hd_X5_clear rfl ⟨(Nat.le_of_ble_eq_true rfl), (Nat.le_of_ble_eq_true rfl)⟩ ⟨Nat.le_refl 0, Nat.le_refl 0⟩ hl.1 (Nat.le_of_ble_eq_true rfl) rfl dX4_readRepublic_8) (fun H locs hP hS => ?_)
    refine lv_iconst hx hb dX4_readRepublic_11 ki_1 ?_
    refine lv_istore_n (lv' := [(2, .int 1), (0, .ref (ad 1)), (1, .ref (ad a1))]) hx hb dX4_readRepublic_12 rfl hl (by decide) rfl (fun ls hl => ?_)
    refine lv_iconst hx hb dX4_readRepublic_13 ki_0 ?_
    refine lv_istore_n (lv' := [(3, .int 0), (2, .int 1), (0, .ref (ad 1)), (1, .ref (ad a1))]) hx hb dX4_readRepublic_14 rfl hl (by decide) rfl (fun ls hl => ?_)
    obtain ⟨K7, hK7, hf⟩ := fxL_e hf
    have k_K7 : ∀ (σ8 : FH) (H : Heap) (locs : List Loc) (ls : Array Slot), fx_P D cy LX ad σ8 H → va_S A s.heap H locs → lv_has ls 4 [(0, .ref (ad 1))] → K7 σ8 = some (v, σ') → W p l e (fx_R (50)) s m args below meth c H locs 0 0 (fx_Qi D cy LX ad A below args s v σ') (F0 m 68 ls []) := by
      intro σ8 H locs ls hP hS hl hf
      replace hf := fxk1 hK7 hf
      refine lv_aload_n hx hb dX4_readRepublic_68 rfl (lv_at hl 0 rfl) ?_
      refine gf_X4_9 (v := .ref (ad 3)) hC hP kX_1 rfl dX4_readRepublic_69 ?_
      obtain ⟨σ11, hc9, hf⟩ := fxBV_e hf
      refine fx_cv hC hS (fx_runV (i := 3) (As := []) (rest := []) hC hP hS (ctX9_clear l hc9 D cy ad ec _) kX_3 (by decide) rfl kMV_X4_46 kC_X9_clear hd_X9_clear rfl ⟨(Nat.le_of_ble_eq_true rfl), (Nat.le_of_ble_eq_true rfl)⟩ ⟨Nat.le_refl 0, Nat.le_refl 0⟩ hl.1 (Nat.le_of_ble_eq_true rfl) rfl dX4_readRepublic_72) (fun H locs hP hS => ?_)
      refine lv_aload_n hx hb dX4_readRepublic_75 rfl (lv_at hl 0 rfl) ?_
      refine gf_X4_9 (v := .ref (ad 3)) hC hP kX_1 rfl dX4_readRepublic_76 ?_
      refine gf_X4_47 (v := .int (σ11.1 3 8)) hC hP kX_3 rfl dX4_readRepublic_79 ?_
      exact fx_iretf hf hC hr hk hP hS dX4_readRepublic_82
    have L31 : ∀ (n16 : Nat) (w12 : Int32) (w13 : Int32) (σ14 : FH) (H : Heap) (locs : List Loc) (ls : Array Slot), fx_P D cy LX ad σ14 H → va_S A s.heap H locs → lv_has ls 4 [(0, .ref (ad 1)), (1, .ref (ad a1)), (2, .int w12), (3, .int w13)] → fX4_readRepublic_15 a1 K7 n16 w12 w13 σ14 = some (v, σ') → W p l e (fx_R (50)) s m args below meth c H locs 0 0 (fx_Qi D cy LX ad A below args s v σ') (F0 m 15 ls []) := by
      intro n16
      induction n16 with
      | zero =>
        intro w12 w13 σ14 H locs ls hP hS hl hf
        rw [fX4_readRepublic_15] at hf
        cases hf
      | succ n16 ih15 =>
        intro w12 w13 σ14 H locs ls hP hS hl hf
        rw [fX4_readRepublic_15] at hf
        refine lv_iload_n hx hb dX4_readRepublic_15 rfl (lv_at hl 3 rfl) ?_
        refine lv_sipush hx hb dX4_readRepublic_16 ks_1000 ?_
        refine lv_icmp_ge (tgt := 68) hx hb dX4_readRepublic_19 (by decide) (fun c17 => ?_) (fun c17 => ?_)
        · replace hf := fx_it c17 hf
          exact k_K7 σ14 _ _ _ hP hS (lv_sub hl [0] rfl) hf
        · replace hf := fx_ie c17 hf
          refine lv_iload_n hx hb dX4_readRepublic_22 rfl (lv_at hl 2 rfl) ?_
          refine lv_if_eq (tgt := 68) hx hb dX4_readRepublic_23 (by decide) (fun c18 => ?_) (fun c18 => ?_)
          · replace hf := fx_it c18 hf
            exact k_K7 σ14 _ _ _ hP hS (lv_sub hl [0] rfl) hf
          · replace hf := fx_ie c18 hf
            refine lv_aload_n hx hb dX4_readRepublic_26 rfl (lv_at hl 0 rfl) ?_
            refine gf_X4_9 (v := .ref (ad 3)) hC hP kX_1 rfl dX4_readRepublic_27 ?_
            obtain ⟨r20, hc19, hf⟩ := fxBP_e hf
            refine fx_ci hC hS (fx_runV (i := 3) (As := []) (rest := []) hC hP hS (ctX9_atEnd l hc19 D cy ad ec _) kX_3 (by decide) rfl kMV_X4_34 kC_X9_atEnd hd_X9_atEnd rfl ⟨(Nat.le_of_ble_eq_true rfl), (Nat.le_of_ble_eq_true rfl)⟩ ⟨Nat.le_refl 0, Nat.le_refl 0⟩ hl.1 (Nat.le_of_ble_eq_true rfl) rfl dX4_readRepublic_30) (fun H locs hP hS => ?_)
            refine lv_if_ne (tgt := 68) hx hb dX4_readRepublic_33 (by decide) (fun c22 => ?_) (fun c22 => ?_)
            · replace hf := fx_ie c22 hf
              exact k_K7 σ14 _ _ _ hP hS (lv_sub hl [0] rfl) hf
            · replace hf := fx_it c22 hf
              refine lv_aload_n hx hb dX4_readRepublic_36 rfl (lv_at hl 0 rfl) ?_
              refine lv_aload_n hx hb dX4_readRepublic_37 rfl (lv_at hl 1 rfl) ?_
              obtain ⟨r24, σ25, hc23, hf⟩ := fxBI_e hf
              refine fx_ci hC hS (fx_runV (i := 1) (As := [.ref (ad a1)]) (rest := []) hC hP hS (ctX4_readTelling l hc23 D cy ad ec _) kX_1 (by decide) rfl kMV_X4_38 kC_X4_readTelling hd_X4_readTelling rfl ⟨(Nat.le_of_ble_eq_true rfl), (Nat.le_of_ble_eq_true rfl)⟩ ⟨Nat.le_refl 0, Nat.le_refl 0⟩ hl.1 (Nat.le_of_ble_eq_true rfl) rfl dX4_readRepublic_38) (fun H locs hP hS => ?_)
              refine lv_if_eq (tgt := 60) hx hb dX4_readRepublic_41 (by decide) (fun c26 => ?_) (fun c26 => ?_)
              · replace hf := fx_it c26 hf
                refine lv_iconst hx hb dX4_readRepublic_60 ki_0 ?_
                refine lv_istore_n (lv' := [(2, .int 0), (0, .ref (ad 1)), (1, .ref (ad a1)), (3, .int w13)]) hx hb dX4_readRepublic_61 rfl hl (by decide) rfl (fun ls hl => ?_)
                refine lv_iinc (v := (w13 + 1)) (lv' := [(3, .int (w13 + 1)), (2, .int 0), (0, .ref (ad 1)), (1, .ref (ad a1))]) hx hb dX4_readRepublic_62 hl (k := 3) rfl (congrArg (fun z => w13 + z) ki_1) (by decide) rfl (fun ls hl => ?_)
                refine lv_goto (tgt := 15) hx hb dX4_readRepublic_65 (by decide) ?_
                exact ih15 0 (w13 + 1) σ25 _ _ _ hP hS (lv_sub hl [2, 3, 1, 0] rfl) hf
              · replace hf := fx_ie c26 hf
                refine lv_aload_n hx hb dX4_readRepublic_44 rfl (lv_at hl 0 rfl) ?_
                refine gf_X4_9 (v := .ref (ad 3)) hC hP kX_1 rfl dX4_readRepublic_45 ?_
                refine lv_bipush hx hb dX4_readRepublic_48 kb_59 ?_
                obtain ⟨r28, σ29, hc27, hf⟩ := fxBI_e hf
                refine fx_ci hC hS (fx_runV (i := 3) (As := [.int 59]) (rest := []) hC hP hS (ctX9_takeSign l hc27 D cy ad ec _) kX_3 (by decide) rfl kMV_X4_42 kC_X9_takeSign hd_X9_takeSign rfl ⟨(Nat.le_of_ble_eq_true rfl), (Nat.le_of_ble_eq_true rfl)⟩ ⟨Nat.le_refl 0, Nat.le_refl 0⟩ hl.1 (Nat.le_of_ble_eq_true rfl) rfl dX4_readRepublic_50) (fun H locs hP hS => ?_)
                refine lv_if_eq (tgt := 60) hx hb dX4_readRepublic_53 (by decide) (fun c30 => ?_) (fun c30 => ?_)
                · replace hf := fx_it c30 hf
                  refine lv_iconst hx hb dX4_readRepublic_60 ki_0 ?_
                  refine lv_istore_n (lv' := [(2, .int 0), (0, .ref (ad 1)), (1, .ref (ad a1)), (3, .int w13)]) hx hb dX4_readRepublic_61 rfl hl (by decide) rfl (fun ls hl => ?_)
                  refine lv_iinc (v := (w13 + 1)) (lv' := [(3, .int (w13 + 1)), (2, .int 0), (0, .ref (ad 1)), (1, .ref (ad a1))]) hx hb dX4_readRepublic_62 hl (k := 3) rfl (congrArg (fun z => w13 + z) ki_1) (by decide) rfl (fun ls hl => ?_)
                  refine lv_goto (tgt := 15) hx hb dX4_readRepublic_65 (by decide) ?_
                  exact ih15 0 (w13 + 1) σ29 _ _ _ hP hS (lv_sub hl [2, 3, 1, 0] rfl) hf
                · replace hf := fx_ie c30 hf
                  refine lv_iconst hx hb dX4_readRepublic_56 ki_1 ?_
                  refine lv_goto (tgt := 61) hx hb dX4_readRepublic_57 (by decide) ?_
                  refine lv_istore_n (lv' := [(2, .int 1), (0, .ref (ad 1)), (1, .ref (ad a1)), (3, .int w13)]) hx hb dX4_readRepublic_61 rfl hl (by decide) rfl (fun ls hl => ?_)
                  refine lv_iinc (v := (w13 + 1)) (lv' := [(3, .int (w13 + 1)), (2, .int 1), (0, .ref (ad 1)), (1, .ref (ad a1))]) hx hb dX4_readRepublic_62 hl (k := 3) rfl (congrArg (fun z => w13 + z) ki_1) (by decide) rfl (fun ls hl => ?_)
                  refine lv_goto (tgt := 15) hx hb dX4_readRepublic_65 (by decide) ?_
                  exact ih15 1 (w13 + 1) σ29 _ _ _ hP hS (lv_sub hl [2, 3, 1, 0] rfl) hf
    exact L31 FU 1 0 σ6 _ _ _ hP hS (lv_sub hl [2, 3, 1, 0] rfl) hf
  exact main _ _ _ hP hS hl

set_option maxHeartbeats 4000000 in
set_option maxRecDepth 100000 in
theorem ctX4_deedHere (l : Launch) {σ : FH} {v : Int32} (hf : fX4_deedHere σ = some v) : fx_Mi l yX4_deedHere cX4_deedHere 1 (some .int) (1) LX (fun ad ec => [.ref (ad 1)]) σ v σ := by
  unfold fX4_deedHere at hf
  refine fx_mi' (own := RX4) rfl (by decide +kernel) ?_
  intro p e s m args below meth c D cy ad ec A hC hr hk hP hS
  have hx := hC.1
  have hb := hC.2.1
  have hl := lv_entry ([.ref (ad 1)]) (n := 1) (Nat.le_of_ble_eq_true rfl)
  show W _ _ _ _ _ _ _ _ _ _ _ _ _ _ _ (entryFrame m ([.ref (ad 1)] : List Value).toArray 1)
  rw [lg_entry_eq]
  generalize (lg_sl ([.ref (ad 1)]) ++ List.replicate (1 - (lg_sl ([.ref (ad 1)])).length) Slot.unset).toArray = ls at hl ⊢
  have hl : lv_has ls 1 [(0, .ref (ad 1))] := hl
  have main : ∀ (H : Heap) (locs : List Loc) (ls : Array Slot), fx_P D cy LX ad σ H → va_S A s.heap H locs → lv_has ls 1 [(0, .ref (ad 1))] → W p l e (fx_R (1)) s m args below meth c H locs 0 0 (fx_Qi D cy LX ad A below args s v σ) (F0 m 0 ls []) := by
    intro H locs ls hP hS hl
    refine lv_aload_n hx hb dX4_deedHere_0 rfl (lv_at hl 0 rfl) ?_
    refine gf_X4_9 (v := .ref (ad 3)) hC hP kX_1 rfl dX4_deedHere_1 ?_
    refine fx_gete hC hS 8 (by decide) rfl kFw_X4_217 dX4_deedHere_4 ?_
    obtain ⟨r2, hc1, hf⟩ := fxBP_e hf
    refine fx_ci hC hS (fx_runV (i := 3) (As := [.ref (ec 8)]) (rest := []) hC hP hS (ctX9_isWord l hc1 D cy ad ec _) kX_3 (by decide) rfl kMV_X4_66 kC_X9_isWord hd_X9_isWord rfl ⟨(Nat.le_of_ble_eq_true rfl), (Nat.le_of_ble_eq_true rfl)⟩ ⟨Nat.le_refl 0, Nat.le_refl 0⟩ hl.1 (Nat.le_of_ble_eq_true rfl) rfl dX4_deedHere_7) (fun H locs hP hS => ?_)
    refine lv_if_eq (tgt := 17) hx hb dX4_deedHere_10 (by decide) (fun c4 => ?_) (fun c4 => ?_)
    · replace hf := fx_it c4 hf
      refine lv_aload_n hx hb dX4_deedHere_17 rfl (lv_at hl 0 rfl) ?_
      refine gf_X4_9 (v := .ref (ad 3)) hC hP kX_1 rfl dX4_deedHere_18 ?_
      refine fx_gete hC hS 9 (by decide) rfl kFw_X4_220 dX4_deedHere_21 ?_
      obtain ⟨r6, hc5, hf⟩ := fxBP_e hf
      refine fx_ci hC hS (fx_runV (i := 3) (As := [.ref (ec 9)]) (rest := []) hC hP hS (ctX9_isWord l hc5 D cy ad ec _) kX_3 (by decide) rfl kMV_X4_66 kC_X9_isWord hd_X9_isWord rfl ⟨(Nat.le_of_ble_eq_true rfl), (Nat.le_of_ble_eq_true rfl)⟩ ⟨Nat.le_refl 0, Nat.le_refl 0⟩ hl.1 (Nat.le_of_ble_eq_true rfl) rfl dX4_deedHere_24) (fun H locs hP hS => ?_)
      refine lv_if_eq (tgt := 34) hx hb dX4_deedHere_27 (by decide) (fun c8 => ?_) (fun c8 => ?_)
      · replace hf := fx_it c8 hf
        refine lv_aload_n hx hb dX4_deedHere_34 rfl (lv_at hl 0 rfl) ?_
        refine gf_X4_9 (v := .ref (ad 3)) hC hP kX_1 rfl dX4_deedHere_35 ?_
        refine fx_gete hC hS 10 (by decide) rfl kFw_X4_223 dX4_deedHere_38 ?_
        obtain ⟨r10, hc9, hf⟩ := fxBP_e hf
        refine fx_ci hC hS (fx_runV (i := 3) (As := [.ref (ec 10)]) (rest := []) hC hP hS (ctX9_isWord l hc9 D cy ad ec _) kX_3 (by decide) rfl kMV_X4_66 kC_X9_isWord hd_X9_isWord rfl ⟨(Nat.le_of_ble_eq_true rfl), (Nat.le_of_ble_eq_true rfl)⟩ ⟨Nat.le_refl 0, Nat.le_refl 0⟩ hl.1 (Nat.le_of_ble_eq_true rfl) rfl dX4_deedHere_41) (fun H locs hP hS => ?_)
        refine lv_if_eq (tgt := 51) hx hb dX4_deedHere_44 (by decide) (fun c12 => ?_) (fun c12 => ?_)
        · replace hf := fx_it c12 hf
          refine lv_aload_n hx hb dX4_deedHere_51 rfl (lv_at hl 0 rfl) ?_
          refine gf_X4_9 (v := .ref (ad 3)) hC hP kX_1 rfl dX4_deedHere_52 ?_
          refine fx_gete hC hS 11 (by decide) rfl kFw_X4_226 dX4_deedHere_55 ?_
          obtain ⟨r14, hc13, hf⟩ := fxBP_e hf
          refine fx_ci hC hS (fx_runV (i := 3) (As := [.ref (ec 11)]) (rest := []) hC hP hS (ctX9_isWord l hc13 D cy ad ec _) kX_3 (by decide) rfl kMV_X4_66 kC_X9_isWord hd_X9_isWord rfl ⟨(Nat.le_of_ble_eq_true rfl), (Nat.le_of_ble_eq_true rfl)⟩ ⟨Nat.le_refl 0, Nat.le_refl 0⟩ hl.1 (Nat.le_of_ble_eq_true rfl) rfl dX4_deedHere_58) (fun H locs hP hS => ?_)
          refine lv_if_eq (tgt := 68) hx hb dX4_deedHere_61 (by decide) (fun c16 => ?_) (fun c16 => ?_)
          · replace hf := fx_it c16 hf
            refine lv_aload_n hx hb dX4_deedHere_68 rfl (lv_at hl 0 rfl) ?_
            refine gf_X4_9 (v := .ref (ad 3)) hC hP kX_1 rfl dX4_deedHere_69 ?_
            refine fx_gete hC hS 12 (by decide) rfl kFw_X4_229 dX4_deedHere_72 ?_
            obtain ⟨r18, hc17, hf⟩ := fxBP_e hf
            refine fx_ci hC hS (fx_runV (i := 3) (As := [.ref (ec 12)]) (rest := []) hC hP hS (ctX9_isWord l hc17 D cy ad ec _) kX_3 (by decide) rfl kMV_X4_66 kC_X9_isWord hd_X9_isWord rfl ⟨(Nat.le_of_ble_eq_true rfl), (Nat.le_of_ble_eq_true rfl)⟩ ⟨Nat.le_refl 0, Nat.le_refl 0⟩ hl.1 (Nat.le_of_ble_eq_true rfl) rfl dX4_deedHere_75) (fun H locs hP hS => ?_)
            refine lv_if_eq (tgt := 85) hx hb dX4_deedHere_78 (by decide) (fun c20 => ?_) (fun c20 => ?_)
            · replace hf := fx_it c20 hf
              refine lv_iconst hx hb dX4_deedHere_85 ki_m1 ?_
              exact fx_iretp hf hC hr hk hP hS dX4_deedHere_86
            · replace hf := fx_ie c20 hf
              refine lv_iconst hx hb dX4_deedHere_81 ki_4 ?_
              refine lv_goto (tgt := 86) hx hb dX4_deedHere_82 (by decide) ?_
              exact fx_iretp hf hC hr hk hP hS dX4_deedHere_86
          · replace hf := fx_ie c16 hf
            refine lv_iconst hx hb dX4_deedHere_64 ki_3 ?_
            refine lv_goto (tgt := 86) hx hb dX4_deedHere_65 (by decide) ?_
            exact fx_iretp hf hC hr hk hP hS dX4_deedHere_86
        · replace hf := fx_ie c12 hf
          refine lv_iconst hx hb dX4_deedHere_47 ki_2 ?_
          refine lv_goto (tgt := 86) hx hb dX4_deedHere_48 (by decide) ?_
          exact fx_iretp hf hC hr hk hP hS dX4_deedHere_86
      · replace hf := fx_ie c8 hf
        refine lv_iconst hx hb dX4_deedHere_30 ki_1 ?_
        refine lv_goto (tgt := 86) hx hb dX4_deedHere_31 (by decide) ?_
        exact fx_iretp hf hC hr hk hP hS dX4_deedHere_86
    · replace hf := fx_ie c4 hf
      refine lv_iconst hx hb dX4_deedHere_13 ki_0 ?_
      refine lv_goto (tgt := 86) hx hb dX4_deedHere_14 (by decide) ?_
      exact fx_iretp hf hC hr hk hP hS dX4_deedHere_86
  exact main _ _ _ hP hS hl

set_option maxHeartbeats 4000000 in
set_option maxRecDepth 100000 in
theorem ctX4_readLine (l : Launch) {a1 : Nat} {a2 : Nat} {σ σ' : FH} {v : Int32} (hf : fX4_readLine a1 a2 σ = some (v, σ')) : fx_Mi l yX4_readLine cX4_readLine 8 (some .boolean) (7) LX (fun ad ec => [.ref (ad 1), .ref (ad a1), .ref (ad a2)]) σ v σ' := by
  unfold fX4_readLine at hf
  obtain ⟨h_a1, hf⟩ := fxG_e hf
  obtain ⟨h_a2, hf⟩ := fxG_e hf
  refine fx_mi' (own := RX4) rfl (by decide +kernel) ?_
  intro p e s m args below meth c D cy ad ec A hC hr hk hP hS
  have hx := hC.1
  have hb := hC.2.1
  have hl := lv_entry ([.ref (ad 1), .ref (ad a1), .ref (ad a2)]) (n := 8) (Nat.le_of_ble_eq_true rfl)
  show W _ _ _ _ _ _ _ _ _ _ _ _ _ _ _ (entryFrame m ([.ref (ad 1), .ref (ad a1), .ref (ad a2)] : List Value).toArray 8)
  rw [lg_entry_eq]
  generalize (lg_sl ([.ref (ad 1), .ref (ad a1), .ref (ad a2)]) ++ List.replicate (8 - (lg_sl ([.ref (ad 1), .ref (ad a1), .ref (ad a2)])).length) Slot.unset).toArray = ls at hl ⊢
  have hl : lv_has ls 8 [(0, .ref (ad 1)), (1, .ref (ad a1)), (2, .ref (ad a2))] := hl
  have main : ∀ (H : Heap) (locs : List Loc) (ls : Array Slot), fx_P D cy LX ad σ H → va_S A s.heap H locs → lv_has ls 8 [(0, .ref (ad 1)), (1, .ref (ad a1)), (2, .ref (ad a2))] → W p l e (fx_R (7)) s m args below meth c H locs 0 0 (fx_Qi D cy LX ad A below args s v σ') (F0 m 0 ls []) := by
    intro H locs ls hP hS hl
    refine lv_aload_n hx hb dX4_readLine_0 rfl (lv_at hl 0 rfl) ?_
    obtain ⟨r2, hc1, hf⟩ := fxBP_e hf
    refine fx_ci hC hS (fx_runV (i := 1) (As := []) (rest := []) hC hP hS (ctX4_deedHere l hc1 D cy ad ec _) kX_1 (by decide) rfl kMV_X4_209 kC_X4_deedHere hd_X4_deedHere rfl ⟨(Nat.le_of_ble_eq_true rfl), (Nat.le_of_ble_eq_true rfl)⟩ ⟨Nat.le_refl 0, Nat.le_refl 0⟩ hl.1 (Nat.le_of_ble_eq_true rfl) rfl dX4_readLine_1) (fun H locs hP hS => ?_)
    refine lv_istore_n (lv' := [(3, .int r2), (0, .ref (ad 1)), (1, .ref (ad a1)), (2, .ref (ad a2))]) hx hb dX4_readLine_4 rfl hl (by decide) rfl (fun ls hl => ?_)
    refine lv_iload_n hx hb dX4_readLine_5 rfl (lv_at hl 0 rfl) ?_
    refine lv_iconst hx hb dX4_readLine_6 ki_m1 ?_
    refine lv_icmp_ne (tgt := 19) hx hb dX4_readLine_7 (by decide) (fun c4 => ?_) (fun c4 => ?_)
    · replace hf := fx_ie c4 hf
      refine lv_aload_n hx hb dX4_readLine_19 rfl (lv_at hl 3 rfl) ?_
      refine gf_X4_51 (v := .int (σ.1 a2 0)) hC hP h_a2 rfl dX4_readLine_20 ?_
      refine lv_bipush hx hb dX4_readLine_23 kb_40 ?_
      refine lv_icmp_lt (tgt := 37) hx hb dX4_readLine_25 (by decide) (fun c5 => ?_) (fun c5 => ?_)
      · replace hf := fx_it c5 hf
        refine lv_aload_n hx hb dX4_readLine_37 rfl (lv_at hl 1 rfl) ?_
        refine gf_X4_9 (v := .ref (ad 3)) hC hP kX_1 rfl dX4_readLine_38 ?_
        obtain ⟨σ8, hc6, hf⟩ := fxBV_e hf
        refine fx_cv hC hS (fx_runV (i := 3) (As := []) (rest := []) hC hP hS (ctX9_advance l hc6 D cy ad ec _) kX_3 (by decide) rfl kMV_X4_104 kC_X9_advance hd_X9_advance rfl ⟨(Nat.le_of_ble_eq_true rfl), (Nat.le_of_ble_eq_true rfl)⟩ ⟨Nat.le_refl 0, Nat.le_refl 0⟩ hl.1 (Nat.le_of_ble_eq_true rfl) rfl dX4_readLine_41) (fun H locs hP hS => ?_)
        refine lv_iload_n hx hb dX4_readLine_44 rfl (lv_at hl 0 rfl) ?_
        refine lv_iconst hx hb dX4_readLine_45 ki_4 ?_
        refine lv_icmp_ne (tgt := 59) hx hb dX4_readLine_46 (by decide) (fun c9 => ?_) (fun c9 => ?_)
        · replace hf := fx_ie c9 hf
          refine lv_iload_n hx hb dX4_readLine_59 rfl (lv_at hl 0 rfl) ?_
          refine lv_iconst hx hb dX4_readLine_60 ki_3 ?_
          obtain ⟨v10, ev10, hf⟩ := fxL_e hf
          have j_v10 : ∀ (z11 : Int32), z11 = ((if r2 = 3 then 1 else 0) : Int32) → ∀ (ls : Array Slot), lv_has ls 8 [(0, .ref (ad 1)), (1, .ref (ad a1)), (2, .ref (ad a2)), (3, .int r2)] → W p l e (fx_R (7)) s m args below meth c H locs 0 0 (fx_Qi D cy LX ad A below args s v σ') (F0 m 69 ls [.int z11]) := by
            intro z11 hz11 ls hl
            obtain rfl : v10 = z11 := ev10.trans hz11.symm
            refine lv_istore (lv' := [(4, .int v10), (0, .ref (ad 1)), (1, .ref (ad a1)), (2, .ref (ad a2)), (3, .int r2)]) hx hb dX4_readLine_69 hl (by decide) rfl (fun ls hl => ?_)
            refine lv_aload_n hx hb dX4_readLine_71 rfl (lv_at hl 1 rfl) ?_
            refine lv_iload hx hb dX4_readLine_72 (lv_at hl 0 rfl) ?_
            obtain ⟨J13, hJ13, hf⟩ := fxL_e hf
            have j_J13 : ∀ (y14 : Int32) (H : Heap) (locs : List Loc) (ls : Array Slot), fx_P D cy LX ad σ8 H → va_S A s.heap H locs → lv_has ls 8 [(0, .ref (ad 1)), (1, .ref (ad a1)), (2, .ref (ad a2)), (3, .int r2), (4, .int v10)] → J13 y14 = some (v, σ') → W p l e (fx_R (7)) s m args below meth c H locs 0 0 (fx_Qi D cy LX ad A below args s v σ') (F0 m 90 ls [.int y14, .ref (ad 1)]) := by
              intro y14 H locs ls hP hS hl hf
              replace hf := fxk1 hJ13 hf
              refine lv_iconst hx hb dX4_readLine_90 ki_m1 ?_
              obtain ⟨r16, σ17, hc15, hf⟩ := fxBI_e hf
              refine fx_ci hC hS (fx_runV (i := 1) (As := [.int y14, .int (-1)]) (rest := []) hC hP hS (ctX4_takeNamed l hc15 D cy ad ec _) kX_1 (by decide) rfl kMV_X4_181 kC_X4_takeNamed hd_X4_takeNamed rfl ⟨(Nat.le_of_ble_eq_true rfl), (Nat.le_of_ble_eq_true rfl)⟩ ⟨Nat.le_refl 0, Nat.le_refl 0⟩ hl.1 (Nat.le_of_ble_eq_true rfl) rfl dX4_readLine_91) (fun H locs hP hS => ?_)
              refine lv_istore (lv' := [(5, .int r16), (0, .ref (ad 1)), (1, .ref (ad a1)), (2, .ref (ad a2)), (3, .int r2), (4, .int v10)]) hx hb dX4_readLine_94 hl (by decide) rfl (fun ls hl => ?_)
              refine lv_iconst hx hb dX4_readLine_96 ki_0 ?_
              refine lv_istore (lv' := [(6, .int 0), (5, .int r16), (0, .ref (ad 1)), (1, .ref (ad a1)), (2, .ref (ad a2)), (3, .int r2), (4, .int v10)]) hx hb dX4_readLine_97 hl (by decide) rfl (fun ls hl => ?_)
              refine lv_iload hx hb dX4_readLine_99 (lv_at hl 1 rfl) ?_
              refine lv_iconst hx hb dX4_readLine_101 ki_m1 ?_
              obtain ⟨J18, hJ18, hf⟩ := fxL_e hf
              have j_J18 : ∀ (x19 : Int32) (σ20 : FH) (H : Heap) (locs : List Loc) (ls : Array Slot), fx_P D cy LX ad σ20 H → va_S A s.heap H locs → lv_has ls 8 [(0, .ref (ad 1)), (2, .ref (ad a2)), (3, .int r2), (5, .int r16), (6, .int x19)] → J18 x19 σ20 = some (v, σ') → W p l e (fx_R (7)) s m args below meth c H locs 0 0 (fx_Qi D cy LX ad A below args s v σ') (F0 m 141 ls []) := by
                intro x19 σ20 H locs ls hP hS hl hf
                replace hf := fxk2 hJ18 hf
                refine lv_iload hx hb dX4_readLine_141 (lv_at hl 3 rfl) ?_
                refine lv_iconst hx hb dX4_readLine_143 ki_m1 ?_
                refine lv_icmp_eq (tgt := 153) hx hb dX4_readLine_144 (by decide) (fun c21 => ?_) (fun c21 => ?_)
                · replace hf := fx_it c21 hf
                  refine lv_iconst hx hb dX4_readLine_153 ki_0 ?_
                  exact fx_zretf rfl hf hC hr hk hP hS dX4_readLine_154
                · replace hf := fx_ie c21 hf
                  refine lv_iload hx hb dX4_readLine_147 (lv_at hl 4 rfl) ?_
                  refine lv_iconst hx hb dX4_readLine_149 ki_m1 ?_
                  refine lv_icmp_ne (tgt := 155) hx hb dX4_readLine_150 (by decide) (fun c22 => ?_) (fun c22 => ?_)
                  · replace hf := fx_ie c22 hf
                    refine lv_iload_n hx hb dX4_readLine_155 rfl (lv_at hl 2 rfl) ?_
                    refine lv_iconst hx hb dX4_readLine_156 ki_2 ?_
                    obtain ⟨J23, hJ23, hf⟩ := fxL_e hf
                    have j_J23 : ∀ (y24 : Int32) (σ25 : FH) (H : Heap) (locs : List Loc) (ls : Array Slot), fx_P D cy LX ad σ25 H → va_S A s.heap H locs → lv_has ls 8 [(2, .ref (ad a2)), (3, .int r2), (5, .int r16), (6, .int x19)] → J23 y24 σ25 = some (v, σ') → W p l e (fx_R (7)) s m args below meth c H locs 0 0 (fx_Qi D cy LX ad A below args s v σ') (F0 m 174 ls [.int y24]) := by
                      intro y24 σ25 H locs ls hP hS hl hf
                      replace hf := fxk2 hJ23 hf
                      refine lv_istore (lv' := [(7, .int y24), (2, .ref (ad a2)), (3, .int r2), (5, .int r16), (6, .int x19)]) hx hb dX4_readLine_174 hl (by decide) rfl (fun ls hl => ?_)
                      refine lv_aload_n hx hb dX4_readLine_176 rfl (lv_at hl 1 rfl) ?_
                      refine lv_iload_n hx hb dX4_readLine_177 rfl (lv_at hl 2 rfl) ?_
                      refine lv_iload hx hb dX4_readLine_178 (lv_at hl 3 rfl) ?_
                      refine lv_iload hx hb dX4_readLine_180 (lv_at hl 4 rfl) ?_
                      refine lv_iload hx hb dX4_readLine_182 (lv_at hl 0 rfl) ?_
                      obtain ⟨σ28, hc26, hf⟩ := fxBV_e hf
                      refine fx_cv hC hS (fx_runV (i := a2) (As := [.int r2, .int r16, .int x19, .int y24]) (rest := []) hC hP hS (ctX8_put l hc26 D cy ad ec _) h_a2 (by decide) rfl kMV_X4_213 kC_X8_put hd_X8_put rfl ⟨(Nat.le_of_ble_eq_true rfl), (Nat.le_of_ble_eq_true rfl)⟩ ⟨Nat.le_refl 0, Nat.le_refl 0⟩ hl.1 (Nat.le_of_ble_eq_true rfl) rfl dX4_readLine_184) (fun H locs hP hS => ?_)
                      refine lv_iload hx hb dX4_readLine_187 (lv_at hl 0 rfl) ?_
                      refine lv_iconst hx hb dX4_readLine_189 ki_m1 ?_
                      obtain ⟨v29, ev29, hf⟩ := fxL_e hf
                      have j_v29 : ∀ (z30 : Int32), z30 = ((if y24 = (-1) then 0 else 1) : Int32) → ∀ (ls : Array Slot), lv_has ls 8 [] → W p l e (fx_R (7)) s m args below meth c H locs 0 0 (fx_Qi D cy LX ad A below args s v σ') (F0 m 198 ls [.int z30]) := by
                        intro z30 hz30 ls hl
                        obtain rfl : v29 = z30 := ev29.trans hz30.symm
                        obtain ⟨h32, hf⟩ := fxG_e hf
                        exact fx_zretf (fx_bon h32) hf hC hr hk hP hS dX4_readLine_198
                      refine lv_icmp_eq (tgt := 197) hx hb dX4_readLine_190 (by decide) (fun c31 => ?_) (fun c31 => ?_)
                      · refine lv_iconst hx hb dX4_readLine_197 ki_0 ?_
                        exact j_v29 0 (if_pos c31).symm ls (lv_sub hl [] rfl)
                      · refine lv_iconst hx hb dX4_readLine_193 ki_1 ?_
                        refine lv_goto (tgt := 198) hx hb dX4_readLine_194 (by decide) ?_
                        exact j_v29 1 (if_neg c31).symm ls (lv_sub hl [] rfl)
                    refine lv_icmp_ne (tgt := 164) hx hb dX4_readLine_157 (by decide) (fun c33 => ?_) (fun c33 => ?_)
                    · replace hf := fx_ie c33 hf
                      refine lv_aload_n hx hb dX4_readLine_164 rfl (lv_at hl 0 rfl) ?_
                      refine gf_X4_9 (v := .ref (ad 3)) hC hP kX_1 rfl dX4_readLine_165 ?_
                      refine lv_iconst hx hb dX4_readLine_168 ki_1 ?_
                      refine lv_bipush hx hb dX4_readLine_169 kb_20 ?_
                      obtain ⟨r35, σ36, hc34, hf⟩ := fxBI_e hf
                      refine fx_ci hC hS (fx_runV (i := 3) (As := [.int 1, .int 20]) (rest := []) hC hP hS (ctX9_takeNumber l hc34 D cy ad ec _) kX_3 (by decide) rfl kMV_X4_124 kC_X9_takeNumber hd_X9_takeNumber rfl ⟨(Nat.le_of_ble_eq_true rfl), (Nat.le_of_ble_eq_true rfl)⟩ ⟨Nat.le_refl 0, Nat.le_refl 0⟩ hl.1 (Nat.le_of_ble_eq_true rfl) rfl dX4_readLine_171) (fun H locs hP hS => ?_)
                      exact j_J23 r35 σ36 _ _ _ hP hS (lv_sub hl [1, 2, 3, 4] rfl) hf
                    · replace hf := fx_it c33 hf
                      refine lv_iconst hx hb dX4_readLine_160 ki_0 ?_
                      refine lv_goto (tgt := 174) hx hb dX4_readLine_161 (by decide) ?_
                      exact j_J23 0 σ20 _ _ _ hP hS (lv_sub hl [1, 2, 3, 4] rfl) hf
                  · replace hf := fx_it c22 hf
                    refine lv_iconst hx hb dX4_readLine_153 ki_0 ?_
                    exact fx_zretf rfl hf hC hr hk hP hS dX4_readLine_154
              refine lv_icmp_eq (tgt := 141) hx hb dX4_readLine_102 (by decide) (fun c37 => ?_) (fun c37 => ?_)
              · replace hf := fx_it c37 hf
                exact j_J18 0 σ17 _ _ _ hP hS (lv_sub hl [2, 4, 5, 1, 0] rfl) hf
              · replace hf := fx_ie c37 hf
                refine lv_iload hx hb dX4_readLine_105 (lv_at hl 6 rfl) ?_
                obtain ⟨J38, hJ38, hf⟩ := fxL_e hf
                have j_J38 : ∀  (H : Heap) (locs : List Loc) (ls : Array Slot), fx_P D cy LX ad σ17 H → va_S A s.heap H locs → lv_has ls 8 [(0, .ref (ad 1)), (1, .ref (ad a1)), (2, .ref (ad a2)), (3, .int r2), (4, .int v10), (5, .int r16)] → J38 = some (v, σ') → W p l e (fx_R (7)) s m args below meth c H locs 0 0 (fx_Qi D cy LX ad A below args s v σ') (F0 m 115 ls []) := by
                  intro  H locs ls hP hS hl hf
                  replace hf := hJ38.symm.trans hf
                  refine lv_aload_n hx hb dX4_readLine_115 rfl (lv_at hl 0 rfl) ?_
                  refine lv_iload hx hb dX4_readLine_116 (lv_at hl 4 rfl) ?_
                  obtain ⟨J39, hJ39, hf⟩ := fxL_e hf
                  have j_J39 : ∀ (y40 : Int32) (H : Heap) (locs : List Loc) (ls : Array Slot), fx_P D cy LX ad σ17 H → va_S A s.heap H locs → lv_has ls 8 [(0, .ref (ad 1)), (2, .ref (ad a2)), (3, .int r2), (5, .int r16)] → J39 y40 = some (v, σ') → W p l e (fx_R (7)) s m args below meth c H locs 0 0 (fx_Qi D cy LX ad A below args s v σ') (F0 m 134 ls [.int y40, .ref (ad 1)]) := by
                    intro y40 H locs ls hP hS hl hf
                    replace hf := fxk1 hJ39 hf
                    refine lv_iload hx hb dX4_readLine_134 (lv_at hl 3 rfl) ?_
                    obtain ⟨r42, σ43, hc41, hf⟩ := fxBI_e hf
                    refine fx_ci hC hS (fx_runV (i := 1) (As := [.int y40, .int r16]) (rest := []) hC hP hS (ctX4_takeNamed l hc41 D cy ad ec _) kX_1 (by decide) rfl kMV_X4_181 kC_X4_takeNamed hd_X4_takeNamed rfl ⟨(Nat.le_of_ble_eq_true rfl), (Nat.le_of_ble_eq_true rfl)⟩ ⟨Nat.le_refl 0, Nat.le_refl 0⟩ hl.1 (Nat.le_of_ble_eq_true rfl) rfl dX4_readLine_136) (fun H locs hP hS => ?_)
                    refine lv_istore (lv' := [(6, .int r42), (0, .ref (ad 1)), (2, .ref (ad a2)), (3, .int r2), (5, .int r16)]) hx hb dX4_readLine_139 hl (by decide) rfl (fun ls hl => ?_)
                    exact j_J18 r42 σ43 _ _ _ hP hS (lv_sub hl [1, 2, 3, 4, 0] rfl) hf
                  refine lv_if_eq (tgt := 129) hx hb dX4_readLine_118 (by decide) (fun c44 => ?_) (fun c44 => ?_)
                  · replace hf := fx_it c44 hf
                    refine lv_aload_n hx hb dX4_readLine_129 rfl (lv_at hl 0 rfl) ?_
                    refine lv_aload_n hx hb dX4_readLine_130 rfl (lv_at hl 1 rfl) ?_
                    obtain ⟨r46, hc45, hf⟩ := fxBP_e hf
                    refine fx_ci hC hS (fx_runV (i := 1) (As := [.ref (ad a1)]) (rest := [.ref (ad 1)]) hC hP hS (ctX4_wareHere l hc45 D cy ad ec _) kX_1 (by decide) rfl kMV_X4_184 kC_X4_wareHere hd_X4_wareHere rfl ⟨(Nat.le_of_ble_eq_true rfl), (Nat.le_of_ble_eq_true rfl)⟩ ⟨Nat.le_refl 0, Nat.le_refl 0⟩ hl.1 (Nat.le_of_ble_eq_true rfl) rfl dX4_readLine_131) (fun H locs hP hS => ?_)
                    exact j_J39 r46 _ _ _ hP hS (lv_sub hl [0, 2, 3, 5] rfl) hf
                  · replace hf := fx_ie c44 hf
                    refine lv_aload_n hx hb dX4_readLine_121 rfl (lv_at hl 0 rfl) ?_
                    refine lv_aload_n hx hb dX4_readLine_122 rfl (lv_at hl 1 rfl) ?_
                    obtain ⟨r49, hc48, hf⟩ := fxBP_e hf
                    refine fx_ci hC hS (fx_runV (i := 1) (As := [.ref (ad a1)]) (rest := [.ref (ad 1)]) hC hP hS (ctX4_partyHere l hc48 D cy ad ec _) kX_1 (by decide) rfl kMV_X4_177 kC_X4_partyHere hd_X4_partyHere rfl ⟨(Nat.le_of_ble_eq_true rfl), (Nat.le_of_ble_eq_true rfl)⟩ ⟨Nat.le_refl 0, Nat.le_refl 0⟩ hl.1 (Nat.le_of_ble_eq_true rfl) rfl dX4_readLine_123) (fun H locs hP hS => ?_)
                    refine lv_goto (tgt := 134) hx hb dX4_readLine_126 (by decide) ?_
                    exact j_J39 r49 _ _ _ hP hS (lv_sub hl [0, 2, 3, 5] rfl) hf
                refine lv_if_ne (tgt := 115) hx hb dX4_readLine_107 (by decide) (fun c51 => ?_) (fun c51 => ?_)
                · replace hf := fx_ie c51 hf
                  exact j_J38  _ _ _ hP hS (lv_sub hl [2, 3, 4, 5, 6, 1] rfl) hf
                · replace hf := fx_it c51 hf
                  refine lv_iload_n hx hb dX4_readLine_110 rfl (lv_at hl 5 rfl) ?_
                  refine lv_iconst hx hb dX4_readLine_111 ki_2 ?_
                  refine lv_icmp_ne (tgt := 141) hx hb dX4_readLine_112 (by decide) (fun c52 => ?_) (fun c52 => ?_)
                  · replace hf := fx_ie c52 hf
                    exact j_J18 0 σ17 _ _ _ hP hS (lv_sub hl [2, 4, 5, 1, 0] rfl) hf
                  · replace hf := fx_it c52 hf
                    exact j_J38  _ _ _ hP hS (lv_sub hl [2, 3, 4, 5, 6, 1] rfl) hf
            refine lv_if_eq (tgt := 85) hx hb dX4_readLine_74 (by decide) (fun c53 => ?_) (fun c53 => ?_)
            · replace hf := fx_it c53 hf
              refine lv_aload_n hx hb dX4_readLine_85 rfl (lv_at hl 1 rfl) ?_
              refine lv_aload_n hx hb dX4_readLine_86 rfl (lv_at hl 2 rfl) ?_
              obtain ⟨r55, hc54, hf⟩ := fxBP_e hf
              refine fx_ci hC hS (fx_runV (i := 1) (As := [.ref (ad a1)]) (rest := [.ref (ad 1)]) hC hP hS (ctX4_wareHere l hc54 D cy ad ec _) kX_1 (by decide) rfl kMV_X4_184 kC_X4_wareHere hd_X4_wareHere rfl ⟨(Nat.le_of_ble_eq_true rfl), (Nat.le_of_ble_eq_true rfl)⟩ ⟨Nat.le_refl 0, Nat.le_refl 0⟩ hl.1 (Nat.le_of_ble_eq_true rfl) rfl dX4_readLine_87) (fun H locs hP hS => ?_)
              exact j_J13 r55 _ _ _ hP hS (lv_sub hl [1, 2, 3, 4, 0] rfl) hf
            · replace hf := fx_ie c53 hf
              refine lv_aload_n hx hb dX4_readLine_77 rfl (lv_at hl 1 rfl) ?_
              refine lv_aload_n hx hb dX4_readLine_78 rfl (lv_at hl 2 rfl) ?_
              obtain ⟨r58, hc57, hf⟩ := fxBP_e hf
              refine fx_ci hC hS (fx_runV (i := 1) (As := [.ref (ad a1)]) (rest := [.ref (ad 1)]) hC hP hS (ctX4_partyHere l hc57 D cy ad ec _) kX_1 (by decide) rfl kMV_X4_177 kC_X4_partyHere hd_X4_partyHere rfl ⟨(Nat.le_of_ble_eq_true rfl), (Nat.le_of_ble_eq_true rfl)⟩ ⟨Nat.le_refl 0, Nat.le_refl 0⟩ hl.1 (Nat.le_of_ble_eq_true rfl) rfl dX4_readLine_79) (fun H locs hP hS => ?_)
              refine lv_goto (tgt := 90) hx hb dX4_readLine_82 (by decide) ?_
              exact j_J13 r58 _ _ _ hP hS (lv_sub hl [1, 2, 3, 4, 0] rfl) hf
          refine lv_icmp_ne (tgt := 68) hx hb dX4_readLine_61 (by decide) (fun c12 => ?_) (fun c12 => ?_)
          · refine lv_iconst hx hb dX4_readLine_68 ki_0 ?_
            exact j_v10 0 (if_neg c12).symm ls (lv_sub hl [1, 2, 3, 0] rfl)
          · refine lv_iconst hx hb dX4_readLine_64 ki_1 ?_
            refine lv_goto (tgt := 69) hx hb dX4_readLine_65 (by decide) ?_
            exact j_v10 1 (if_pos c12).symm ls (lv_sub hl [1, 2, 3, 0] rfl)
        · replace hf := fx_it c9 hf
          refine lv_aload_n hx hb dX4_readLine_49 rfl (lv_at hl 3 rfl) ?_
          refine lv_iload_n hx hb dX4_readLine_50 rfl (lv_at hl 0 rfl) ?_
          refine lv_iconst hx hb dX4_readLine_51 ki_0 ?_
          refine lv_iconst hx hb dX4_readLine_52 ki_0 ?_
          refine lv_iconst hx hb dX4_readLine_53 ki_0 ?_
          obtain ⟨σ62, hc60, hf⟩ := fxBV_e hf
          refine fx_cv hC hS (fx_runV (i := a2) (As := [.int r2, .int 0, .int 0, .int 0]) (rest := []) hC hP hS (ctX8_put l hc60 D cy ad ec _) h_a2 (by decide) rfl kMV_X4_213 kC_X8_put hd_X8_put rfl ⟨(Nat.le_of_ble_eq_true rfl), (Nat.le_of_ble_eq_true rfl)⟩ ⟨Nat.le_refl 0, Nat.le_refl 0⟩ hl.1 (Nat.le_of_ble_eq_true rfl) rfl dX4_readLine_54) (fun H locs hP hS => ?_)
          refine lv_iconst hx hb dX4_readLine_57 ki_1 ?_
          exact fx_zretf rfl hf hC hr hk hP hS dX4_readLine_58
      · replace hf := fx_ie c5 hf
        refine lv_aload_n hx hb dX4_readLine_28 rfl (lv_at hl 1 rfl) ?_
        refine gf_X4_9 (v := .ref (ad 3)) hC hP kX_1 rfl dX4_readLine_29 ?_
        refine lv_iconst hx hb dX4_readLine_32 ki_5 ?_
        obtain ⟨r64, σ65, hc63, hf⟩ := fxBI_e hf
        refine fx_ci hC hS (fx_runV (i := 3) (As := [.int 5]) (rest := []) hC hP hS (ctX9_wrong l hc63 D cy ad ec _) kX_3 (by decide) rfl kMV_X4_97 kC_X9_wrong hd_X9_wrong rfl ⟨(Nat.le_of_ble_eq_true rfl), (Nat.le_of_ble_eq_true rfl)⟩ ⟨Nat.le_refl 0, Nat.le_refl 0⟩ hl.1 (Nat.le_of_ble_eq_true rfl) rfl dX4_readLine_33) (fun H locs hP hS => ?_)
        obtain ⟨h66, hf⟩ := fxG_e hf
        exact fx_zretf (fx_bon h66) hf hC hr hk hP hS dX4_readLine_36
    · replace hf := fx_it c4 hf
      refine lv_aload_n hx hb dX4_readLine_10 rfl (lv_at hl 1 rfl) ?_
      refine gf_X4_9 (v := .ref (ad 3)) hC hP kX_1 rfl dX4_readLine_11 ?_
      refine lv_iconst hx hb dX4_readLine_14 ki_1 ?_
      obtain ⟨r68, σ69, hc67, hf⟩ := fxBI_e hf
      refine fx_ci hC hS (fx_runV (i := 3) (As := [.int 1]) (rest := []) hC hP hS (ctX9_wrong l hc67 D cy ad ec _) kX_3 (by decide) rfl kMV_X4_97 kC_X9_wrong hd_X9_wrong rfl ⟨(Nat.le_of_ble_eq_true rfl), (Nat.le_of_ble_eq_true rfl)⟩ ⟨Nat.le_refl 0, Nat.le_refl 0⟩ hl.1 (Nat.le_of_ble_eq_true rfl) rfl dX4_readLine_15) (fun H locs hP hS => ?_)
      obtain ⟨h70, hf⟩ := fxG_e hf
      exact fx_zretf (fx_bon h70) hf hC hr hk hP hS dX4_readLine_18
  exact main _ _ _ hP hS hl

set_option maxHeartbeats 4000000 in
set_option maxRecDepth 100000 in
theorem ctX4_readTerm (l : Launch) {a1 : Nat} {a2 : Nat} {σ σ' : FH} {v : Int32} (hf : fX4_readTerm a1 a2 σ = some (v, σ')) : fx_Mi l yX4_readTerm cX4_readTerm 5 (some .int) (8) LX (fun ad ec => [.ref (ad 1), .ref (ad a1), .ref (ad a2)]) σ v σ' := by
  unfold fX4_readTerm at hf
  obtain ⟨h_a1, hf⟩ := fxG_e hf
  obtain ⟨h_a2, hf⟩ := fxG_e hf
  refine fx_mi' (own := RX4) rfl (by decide +kernel) ?_
  intro p e s m args below meth c D cy ad ec A hC hr hk hP hS
  have hx := hC.1
  have hb := hC.2.1
  have hl := lv_entry ([.ref (ad 1), .ref (ad a1), .ref (ad a2)]) (n := 5) (Nat.le_of_ble_eq_true rfl)
  show W _ _ _ _ _ _ _ _ _ _ _ _ _ _ _ (entryFrame m ([.ref (ad 1), .ref (ad a1), .ref (ad a2)] : List Value).toArray 5)
  rw [lg_entry_eq]
  generalize (lg_sl ([.ref (ad 1), .ref (ad a1), .ref (ad a2)]) ++ List.replicate (5 - (lg_sl ([.ref (ad 1), .ref (ad a1), .ref (ad a2)])).length) Slot.unset).toArray = ls at hl ⊢
  have hl : lv_has ls 5 [(0, .ref (ad 1)), (1, .ref (ad a1)), (2, .ref (ad a2))] := hl
  have main : ∀ (H : Heap) (locs : List Loc) (ls : Array Slot), fx_P D cy LX ad σ H → va_S A s.heap H locs → lv_has ls 5 [(0, .ref (ad 1)), (1, .ref (ad a1)), (2, .ref (ad a2))] → W p l e (fx_R (8)) s m args below meth c H locs 0 0 (fx_Qi D cy LX ad A below args s v σ') (F0 m 0 ls []) := by
    intro H locs ls hP hS hl
    refine lv_aload_n hx hb dX4_readTerm_0 rfl (lv_at hl 0 rfl) ?_
    refine gf_X4_9 (v := .ref (ad 3)) hC hP kX_1 rfl dX4_readTerm_1 ?_
    obtain ⟨σ3, hc1, hf⟩ := fxBV_e hf
    refine fx_cv hC hS (fx_runV (i := 3) (As := []) (rest := []) hC hP hS (ctX9_begin l hc1 D cy ad ec _) kX_3 (by decide) rfl kMV_X4_24 kC_X9_begin hd_X9_begin rfl ⟨(Nat.le_of_ble_eq_true rfl), (Nat.le_of_ble_eq_true rfl)⟩ ⟨Nat.le_refl 0, Nat.le_refl 0⟩ hl.1 (Nat.le_of_ble_eq_true rfl) rfl dX4_readTerm_4) (fun H locs hP hS => ?_)
    refine lv_aload_n hx hb dX4_readTerm_7 rfl (lv_at hl 2 rfl) ?_
    refine lv_iconst hx hb dX4_readTerm_8 ki_0 ?_
    obtain ⟨σ4, eσ4, hf⟩ := fxL_e hf
    refine pf_X4_51 hC hP hS h_a2 dX4_readTerm_9 (fun H locs hP hS => ?_)
    replace hP := fx_Pe eσ4 hP
    refine lv_iconst hx hb dX4_readTerm_12 ki_1 ?_
    refine lv_istore_n (lv' := [(3, .int 1), (0, .ref (ad 1)), (1, .ref (ad a1)), (2, .ref (ad a2))]) hx hb dX4_readTerm_13 rfl hl (by decide) rfl (fun ls hl => ?_)
    refine lv_iconst hx hb dX4_readTerm_14 ki_0 ?_
    refine lv_istore (lv' := [(4, .int 0), (3, .int 1), (0, .ref (ad 1)), (1, .ref (ad a1)), (2, .ref (ad a2))]) hx hb dX4_readTerm_15 hl (by decide) rfl (fun ls hl => ?_)
    obtain ⟨K5, hK5, hf⟩ := fxL_e hf
    have k_K5 : ∀ (σ6 : FH) (H : Heap) (locs : List Loc) (ls : Array Slot), fx_P D cy LX ad σ6 H → va_S A s.heap H locs → lv_has ls 5 [(0, .ref (ad 1))] → K5 σ6 = some (v, σ') → W p l e (fx_R (8)) s m args below meth c H locs 0 0 (fx_Qi D cy LX ad A below args s v σ') (F0 m 72 ls []) := by
      intro σ6 H locs ls hP hS hl hf
      replace hf := fxk1 hK5 hf
      refine lv_aload_n hx hb dX4_readTerm_72 rfl (lv_at hl 0 rfl) ?_
      refine gf_X4_9 (v := .ref (ad 3)) hC hP kX_1 rfl dX4_readTerm_73 ?_
      obtain ⟨σ9, hc7, hf⟩ := fxBV_e hf
      refine fx_cv hC hS (fx_runV (i := 3) (As := []) (rest := []) hC hP hS (ctX9_clear l hc7 D cy ad ec _) kX_3 (by decide) rfl kMV_X4_46 kC_X9_clear hd_X9_clear rfl ⟨(Nat.le_of_ble_eq_true rfl), (Nat.le_of_ble_eq_true rfl)⟩ ⟨Nat.le_refl 0, Nat.le_refl 0⟩ hl.1 (Nat.le_of_ble_eq_true rfl) rfl dX4_readTerm_76) (fun H locs hP hS => ?_)
      refine lv_aload_n hx hb dX4_readTerm_79 rfl (lv_at hl 0 rfl) ?_
      refine gf_X4_9 (v := .ref (ad 3)) hC hP kX_1 rfl dX4_readTerm_80 ?_
      refine gf_X4_47 (v := .int (σ9.1 3 8)) hC hP kX_3 rfl dX4_readTerm_83 ?_
      exact fx_iretf hf hC hr hk hP hS dX4_readTerm_86
    have L29 : ∀ (n14 : Nat) (w10 : Int32) (w11 : Int32) (σ12 : FH) (H : Heap) (locs : List Loc) (ls : Array Slot), fx_P D cy LX ad σ12 H → va_S A s.heap H locs → lv_has ls 5 [(0, .ref (ad 1)), (1, .ref (ad a1)), (2, .ref (ad a2)), (3, .int w10), (4, .int w11)] → fX4_readTerm_17 a1 a2 K5 n14 w10 w11 σ12 = some (v, σ') → W p l e (fx_R (8)) s m args below meth c H locs 0 0 (fx_Qi D cy LX ad A below args s v σ') (F0 m 17 ls []) := by
      intro n14
      induction n14 with
      | zero =>
        intro w10 w11 σ12 H locs ls hP hS hl hf
        rw [fX4_readTerm_17] at hf
        cases hf
      | succ n14 ih13 =>
        intro w10 w11 σ12 H locs ls hP hS hl hf
        rw [fX4_readTerm_17] at hf
        refine lv_iload hx hb dX4_readTerm_17 (lv_at hl 4 rfl) ?_
        refine lv_sipush hx hb dX4_readTerm_19 ks_1000 ?_
        refine lv_icmp_ge (tgt := 72) hx hb dX4_readTerm_22 (by decide) (fun c15 => ?_) (fun c15 => ?_)
        · replace hf := fx_it c15 hf
          exact k_K5 σ12 _ _ _ hP hS (lv_sub hl [0] rfl) hf
        · replace hf := fx_ie c15 hf
          refine lv_iload_n hx hb dX4_readTerm_25 rfl (lv_at hl 3 rfl) ?_
          refine lv_if_eq (tgt := 72) hx hb dX4_readTerm_26 (by decide) (fun c16 => ?_) (fun c16 => ?_)
          · replace hf := fx_it c16 hf
            exact k_K5 σ12 _ _ _ hP hS (lv_sub hl [0] rfl) hf
          · replace hf := fx_ie c16 hf
            refine lv_aload_n hx hb dX4_readTerm_29 rfl (lv_at hl 0 rfl) ?_
            refine gf_X4_9 (v := .ref (ad 3)) hC hP kX_1 rfl dX4_readTerm_30 ?_
            obtain ⟨r18, hc17, hf⟩ := fxBP_e hf
            refine fx_ci hC hS (fx_runV (i := 3) (As := []) (rest := []) hC hP hS (ctX9_atEnd l hc17 D cy ad ec _) kX_3 (by decide) rfl kMV_X4_34 kC_X9_atEnd hd_X9_atEnd rfl ⟨(Nat.le_of_ble_eq_true rfl), (Nat.le_of_ble_eq_true rfl)⟩ ⟨Nat.le_refl 0, Nat.le_refl 0⟩ hl.1 (Nat.le_of_ble_eq_true rfl) rfl dX4_readTerm_33) (fun H locs hP hS => ?_)
            refine lv_if_ne (tgt := 72) hx hb dX4_readTerm_36 (by decide) (fun c20 => ?_) (fun c20 => ?_)
            · replace hf := fx_ie c20 hf
              exact k_K5 σ12 _ _ _ hP hS (lv_sub hl [0] rfl) hf
            · replace hf := fx_it c20 hf
              refine lv_aload_n hx hb dX4_readTerm_39 rfl (lv_at hl 0 rfl) ?_
              refine lv_aload_n hx hb dX4_readTerm_40 rfl (lv_at hl 1 rfl) ?_
              refine lv_aload_n hx hb dX4_readTerm_41 rfl (lv_at hl 2 rfl) ?_
              obtain ⟨r22, σ23, hc21, hf⟩ := fxBI_e hf
              refine fx_ci hC hS (fx_runV (i := 1) (As := [.ref (ad a1), .ref (ad a2)]) (rest := []) hC hP hS (ctX4_readLine l hc21 D cy ad ec _) kX_1 (by decide) rfl kMV_X4_56 kC_X4_readLine hd_X4_readLine rfl ⟨(Nat.le_of_ble_eq_true rfl), (Nat.le_of_ble_eq_true rfl)⟩ ⟨Nat.le_refl 0, Nat.le_refl 0⟩ hl.1 (Nat.le_of_ble_eq_true rfl) rfl dX4_readTerm_42) (fun H locs hP hS => ?_)
              refine lv_if_eq (tgt := 64) hx hb dX4_readTerm_45 (by decide) (fun c24 => ?_) (fun c24 => ?_)
              · replace hf := fx_it c24 hf
                refine lv_iconst hx hb dX4_readTerm_64 ki_0 ?_
                refine lv_istore_n (lv' := [(3, .int 0), (0, .ref (ad 1)), (1, .ref (ad a1)), (2, .ref (ad a2)), (4, .int w11)]) hx hb dX4_readTerm_65 rfl hl (by decide) rfl (fun ls hl => ?_)
                refine lv_iinc (v := (w11 + 1)) (lv' := [(4, .int (w11 + 1)), (3, .int 0), (0, .ref (ad 1)), (1, .ref (ad a1)), (2, .ref (ad a2))]) hx hb dX4_readTerm_66 hl (k := 4) rfl (congrArg (fun z => w11 + z) ki_1) (by decide) rfl (fun ls hl => ?_)
                refine lv_goto (tgt := 17) hx hb dX4_readTerm_69 (by decide) ?_
                exact ih13 0 (w11 + 1) σ23 _ _ _ hP hS (lv_sub hl [2, 3, 4, 1, 0] rfl) hf
              · replace hf := fx_ie c24 hf
                refine lv_aload_n hx hb dX4_readTerm_48 rfl (lv_at hl 0 rfl) ?_
                refine gf_X4_9 (v := .ref (ad 3)) hC hP kX_1 rfl dX4_readTerm_49 ?_
                refine lv_bipush hx hb dX4_readTerm_52 kb_59 ?_
                obtain ⟨r26, σ27, hc25, hf⟩ := fxBI_e hf
                refine fx_ci hC hS (fx_runV (i := 3) (As := [.int 59]) (rest := []) hC hP hS (ctX9_takeSign l hc25 D cy ad ec _) kX_3 (by decide) rfl kMV_X4_42 kC_X9_takeSign hd_X9_takeSign rfl ⟨(Nat.le_of_ble_eq_true rfl), (Nat.le_of_ble_eq_true rfl)⟩ ⟨Nat.le_refl 0, Nat.le_refl 0⟩ hl.1 (Nat.le_of_ble_eq_true rfl) rfl dX4_readTerm_54) (fun H locs hP hS => ?_)
                refine lv_if_eq (tgt := 64) hx hb dX4_readTerm_57 (by decide) (fun c28 => ?_) (fun c28 => ?_)
                · replace hf := fx_it c28 hf
                  refine lv_iconst hx hb dX4_readTerm_64 ki_0 ?_
                  refine lv_istore_n (lv' := [(3, .int 0), (0, .ref (ad 1)), (1, .ref (ad a1)), (2, .ref (ad a2)), (4, .int w11)]) hx hb dX4_readTerm_65 rfl hl (by decide) rfl (fun ls hl => ?_)
                  refine lv_iinc (v := (w11 + 1)) (lv' := [(4, .int (w11 + 1)), (3, .int 0), (0, .ref (ad 1)), (1, .ref (ad a1)), (2, .ref (ad a2))]) hx hb dX4_readTerm_66 hl (k := 4) rfl (congrArg (fun z => w11 + z) ki_1) (by decide) rfl (fun ls hl => ?_)
                  refine lv_goto (tgt := 17) hx hb dX4_readTerm_69 (by decide) ?_
                  exact ih13 0 (w11 + 1) σ27 _ _ _ hP hS (lv_sub hl [2, 3, 4, 1, 0] rfl) hf
                · replace hf := fx_ie c28 hf
                  refine lv_iconst hx hb dX4_readTerm_60 ki_1 ?_
                  refine lv_goto (tgt := 65) hx hb dX4_readTerm_61 (by decide) ?_
                  refine lv_istore_n (lv' := [(3, .int 1), (0, .ref (ad 1)), (1, .ref (ad a1)), (2, .ref (ad a2)), (4, .int w11)]) hx hb dX4_readTerm_65 rfl hl (by decide) rfl (fun ls hl => ?_)
                  refine lv_iinc (v := (w11 + 1)) (lv' := [(4, .int (w11 + 1)), (3, .int 1), (0, .ref (ad 1)), (1, .ref (ad a1)), (2, .ref (ad a2))]) hx hb dX4_readTerm_66 hl (k := 4) rfl (congrArg (fun z => w11 + z) ki_1) (by decide) rfl (fun ls hl => ?_)
                  refine lv_goto (tgt := 17) hx hb dX4_readTerm_69 (by decide) ?_
                  exact ih13 1 (w11 + 1) σ27 _ _ _ hP hS (lv_sub hl [2, 3, 4, 1, 0] rfl) hf
    exact L29 FU 1 0 σ4 _ _ _ hP hS (lv_sub hl [2, 3, 4, 1, 0] rfl) hf
  exact main _ _ _ hP hS hl
