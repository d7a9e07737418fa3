set_option maxHeartbeats 4000000 in
set_option maxRecDepth 100000 in
theorem ctJ6_bitCount_0f7a4 (l : Launch) {a0 : Int32} {σ : FH} {v : Int32} (hf : fJ6_bitCount_0f7a4 a0 σ = some v) : fx_Mi l yJ6_bitCount_0f7a4 cJ6_bitCount_0f7a4 1 (some .int) (0) LX (fun ad ec => [.int a0]) σ v σ := by
  unfold fJ6_bitCount_0f7a4 at hf
  refine fx_mi' (own := RJ6) rfl (by decide +kernel) ?_
  intro p e s m args below meth c D cy ad ec A hC hr hk hP hS
  have hx := hC.1
  have hb := hC.2.1
  have hl := lv_entry ([.int a0]) (n := 1) (Nat.le_of_ble_eq_true rfl)
  show W _ _ _ _ _ _ _ _ _ _ _ _ _ _ _ (entryFrame m ([.int a0] : List Value).toArray 1)
  rw [lg_entry_eq]
  generalize (lg_sl ([.int a0]) ++ List.replicate (1 - (lg_sl ([.int a0])).length) Slot.unset).toArray = ls at hl ⊢
  have hl : lv_has ls 1 [(0, .int a0)] := hl
  have main : ∀ (H : Heap) (locs : List Loc) (ls : Array Slot), fx_P D cy LX ad σ H → va_S A s.heap H locs → lv_has ls 1 [(0, .int a0)] → W p l e (fx_R (0)) s m args below meth c H locs 0 0 (fx_Qi D cy LX ad A below args s v σ) (F0 m 0 ls []) := by
    intro H locs ls hP hS hl
    refine lv_iload_n hx hb dJ6_bitCount_0f7a4_0 rfl (lv_at hl 0 rfl) ?_
    refine lv_iload_n hx hb dJ6_bitCount_0f7a4_1 rfl (lv_at hl 0 rfl) ?_
    refine lv_iconst hx hb dJ6_bitCount_0f7a4_2 ki_1 ?_
    refine lv_iushr (v := ((Int32.toUInt32 a0 >>> (Int32.toUInt32 1 &&& Int32.toUInt32 31)).toInt32)) hx hb dJ6_bitCount_0f7a4_3 rfl ?_
    refine lv_ldcw (own := RJ6) (v := 1431655765) hx hb hC.2.2.2.1 (hC.2.2.2.2.1 _ kK_J6_265) dJ6_bitCount_0f7a4_4 ?_
    refine lv_iand hx hb dJ6_bitCount_0f7a4_7 ?_
    refine lv_isub hx hb dJ6_bitCount_0f7a4_8 ?_
    obtain ⟨v1, ev1, hf⟩ := fxL_e hf
    refine fx_ti ev1 ?_
    refine lv_istore_n (lv' := [(0, .int v1)]) hx hb dJ6_bitCount_0f7a4_9 rfl hl (by decide) rfl (fun ls hl => ?_)
    refine lv_iload_n hx hb dJ6_bitCount_0f7a4_10 rfl (lv_at hl 0 rfl) ?_
    refine lv_ldcw (own := RJ6) (v := 858993459) hx hb hC.2.2.2.1 (hC.2.2.2.2.1 _ kK_J6_266) dJ6_bitCount_0f7a4_11 ?_
    refine lv_iand hx hb dJ6_bitCount_0f7a4_14 ?_
    refine lv_iload_n hx hb dJ6_bitCount_0f7a4_15 rfl (lv_at hl 0 rfl) ?_
    refine lv_iconst hx hb dJ6_bitCount_0f7a4_16 ki_2 ?_
    refine lv_iushr (v := ((Int32.toUInt32 v1 >>> (Int32.toUInt32 2 &&& Int32.toUInt32 31)).toInt32)) hx hb dJ6_bitCount_0f7a4_17 rfl ?_
    refine lv_ldcw (own := RJ6) (v := 858993459) hx hb hC.2.2.2.1 (hC.2.2.2.2.1 _ kK_J6_266) dJ6_bitCount_0f7a4_18 ?_
    refine lv_iand hx hb dJ6_bitCount_0f7a4_21 ?_
    refine lv_iadd hx hb dJ6_bitCount_0f7a4_22 ?_
    obtain ⟨v2, ev2, hf⟩ := fxL_e hf
    refine fx_ti ev2 ?_
    refine lv_istore_n (lv' := [(0, .int v2)]) hx hb dJ6_bitCount_0f7a4_23 rfl hl (by decide) rfl (fun ls hl => ?_)
    refine lv_iload_n hx hb dJ6_bitCount_0f7a4_24 rfl (lv_at hl 0 rfl) ?_
    refine lv_iload_n hx hb dJ6_bitCount_0f7a4_25 rfl (lv_at hl 0 rfl) ?_
    refine lv_iconst hx hb dJ6_bitCount_0f7a4_26 ki_4 ?_
    refine lv_iushr (v := ((Int32.toUInt32 v2 >>> (Int32.toUInt32 4 &&& Int32.toUInt32 31)).toInt32)) hx hb dJ6_bitCount_0f7a4_27 rfl ?_
    refine lv_iadd hx hb dJ6_bitCount_0f7a4_28 ?_
    refine lv_ldcw (own := RJ6) (v := 252645135) hx hb hC.2.2.2.1 (hC.2.2.2.2.1 _ kK_J6_267) dJ6_bitCount_0f7a4_29 ?_
    refine lv_iand hx hb dJ6_bitCount_0f7a4_32 ?_
    obtain ⟨v3, ev3, hf⟩ := fxL_e hf
    refine fx_ti ev3 ?_
    refine lv_istore_n (lv' := [(0, .int v3)]) hx hb dJ6_bitCount_0f7a4_33 rfl hl (by decide) rfl (fun ls hl => ?_)
    refine lv_iload_n hx hb dJ6_bitCount_0f7a4_34 rfl (lv_at hl 0 rfl) ?_
    refine lv_iload_n hx hb dJ6_bitCount_0f7a4_35 rfl (lv_at hl 0 rfl) ?_
    refine lv_bipush hx hb dJ6_bitCount_0f7a4_36 kb_8 ?_
    refine lv_iushr (v := ((Int32.toUInt32 v3 >>> (Int32.toUInt32 8 &&& Int32.toUInt32 31)).toInt32)) hx hb dJ6_bitCount_0f7a4_38 rfl ?_
    refine lv_iadd hx hb dJ6_bitCount_0f7a4_39 ?_
    obtain ⟨v4, ev4, hf⟩ := fxL_e hf
    refine fx_ti ev4 ?_
    refine lv_istore_n (lv' := [(0, .int v4)]) hx hb dJ6_bitCount_0f7a4_40 rfl hl (by decide) rfl (fun ls hl => ?_)
    refine lv_iload_n hx hb dJ6_bitCount_0f7a4_41 rfl (lv_at hl 0 rfl) ?_
    refine lv_iload_n hx hb dJ6_bitCount_0f7a4_42 rfl (lv_at hl 0 rfl) ?_
    refine lv_bipush hx hb dJ6_bitCount_0f7a4_43 kb_16 ?_
    refine lv_iushr (v := ((Int32.toUInt32 v4 >>> (Int32.toUInt32 16 &&& Int32.toUInt32 31)).toInt32)) hx hb dJ6_bitCount_0f7a4_45 rfl ?_
    refine lv_iadd hx hb dJ6_bitCount_0f7a4_46 ?_
    obtain ⟨v5, ev5, hf⟩ := fxL_e hf
    refine fx_ti ev5 ?_
    refine lv_istore_n (lv' := [(0, .int v5)]) hx hb dJ6_bitCount_0f7a4_47 rfl hl (by decide) rfl (fun ls hl => ?_)
    refine lv_iload_n hx hb dJ6_bitCount_0f7a4_48 rfl (lv_at hl 0 rfl) ?_
    refine lv_bipush hx hb dJ6_bitCount_0f7a4_49 kb_63 ?_
    refine lv_iand hx hb dJ6_bitCount_0f7a4_51 ?_
    exact fx_iretp hf hC hr hk hP hS dJ6_bitCount_0f7a4_52
  exact main _ _ _ hP hS hl

set_option maxHeartbeats 4000000 in
set_option maxRecDepth 100000 in
theorem ctJ0_isLatin1_aae02 (l : Launch) {σ : FH} {v : Int32} (hf : fJ0_isLatin1_aae02 σ = some v) : fx_Mi l yJ0_isLatin1_aae02 cJ0_isLatin1_aae02 1 (some .boolean) (0) LX (fun ad ec => [.ref (ec 25)]) σ v σ := by
  unfold fJ0_isLatin1_aae02 at hf
  refine fx_mi' (own := RJ0) rfl (by decide +kernel) ?_
  intro p e s m args below meth c D cy ad ec A hC hr hk hP hS
  have hx := hC.1
  have hb := hC.2.1
  have hl := lv_entry ([.ref (ec 25)]) (n := 1) (Nat.le_of_ble_eq_true rfl)
  show W _ _ _ _ _ _ _ _ _ _ _ _ _ _ _ (entryFrame m ([.ref (ec 25)] : List Value).toArray 1)
  rw [lg_entry_eq]
  generalize (lg_sl ([.ref (ec 25)]) ++ List.replicate (1 - (lg_sl ([.ref (ec 25)])).length) Slot.unset).toArray = ls at hl ⊢
  have hl : lv_has ls 1 [(0, .ref (ec 25))] := hl
  have main : ∀ (H : Heap) (locs : List Loc) (ls : Array Slot), fx_P D cy LX ad σ H → va_S A s.heap H locs → lv_has ls 1 [(0, .ref (ec 25))] → W p l e (fx_R (0)) s m args below meth c H locs 0 0 (fx_Qi D cy LX ad A below args s v σ) (F0 m 0 ls []) := by
    intro H locs ls hP hS hl
    refine fx_gcs hC hS kFw_J0_38 dJ0_isLatin1_aae02_0 ?_
    refine lv_if_eq (tgt := 17) hx hb dJ0_isLatin1_aae02_3 (by decide) (fun c1 => ?_) (fun c1 => ?_)
    · replace hf := fx_it c1 hf
      refine lv_iconst hx hb dJ0_isLatin1_aae02_17 ki_0 ?_
      exact fx_zretp rfl hf hC hr hk hP hS dJ0_isLatin1_aae02_18
    · replace hf := fx_ie c1 hf
      refine lv_aload_n hx hb dJ0_isLatin1_aae02_6 rfl (lv_at hl 0 rfl) ?_
      refine fx_gsc hC hS kFw_J0_15 dJ0_isLatin1_aae02_7 ?_
      refine lv_if_ne (tgt := 17) hx hb dJ0_isLatin1_aae02_10 (by decide) (fun c2 => ?_) (fun c2 => ?_)
      · replace hf := fx_ie c2 hf
        refine lv_iconst hx hb dJ0_isLatin1_aae02_17 ki_0 ?_
        exact fx_zretp rfl hf hC hr hk hP hS dJ0_isLatin1_aae02_18
      · replace hf := fx_it c2 hf
        refine lv_iconst hx hb dJ0_isLatin1_aae02_13 ki_1 ?_
        refine lv_goto (tgt := 18) hx hb dJ0_isLatin1_aae02_14 (by decide) ?_
        exact fx_zretp rfl hf hC hr hk hP hS dJ0_isLatin1_aae02_18
  exact main _ _ _ hP hS hl

set_option maxHeartbeats 4000000 in
set_option maxRecDepth 100000 in
theorem ctJ0_coder_7d493 (l : Launch) {σ : FH} {v : Int32} (hf : fJ0_coder_7d493 σ = some v) : fx_Mi l yJ0_coder_7d493 cJ0_coder_7d493 1 (some .byte) (0) LX (fun ad ec => [.ref (ec 25)]) σ v σ := by
  unfold fJ0_coder_7d493 at hf
  refine fx_mi' (own := RJ0) rfl (by decide +kernel) ?_
  intro p e s m args below meth c D cy ad ec A hC hr hk hP hS
  have hx := hC.1
  have hb := hC.2.1
  have hl := lv_entry ([.ref (ec 25)]) (n := 1) (Nat.le_of_ble_eq_true rfl)
  show W _ _ _ _ _ _ _ _ _ _ _ _ _ _ _ (entryFrame m ([.ref (ec 25)] : List Value).toArray 1)
  rw [lg_entry_eq]
  generalize (lg_sl ([.ref (ec 25)]) ++ List.replicate (1 - (lg_sl ([.ref (ec 25)])).length) Slot.unset).toArray = ls at hl ⊢
  have hl : lv_has ls 1 [(0, .ref (ec 25))] := hl
  have main : ∀ (H : Heap) (locs : List Loc) (ls : Array Slot), fx_P D cy LX ad σ H → va_S A s.heap H locs → lv_has ls 1 [(0, .ref (ec 25))] → W p l e (fx_R (0)) s m args below meth c H locs 0 0 (fx_Qi D cy LX ad A below args s v σ) (F0 m 0 ls []) := by
    intro H locs ls hP hS hl
    refine fx_gcs hC hS kFw_J0_38 dJ0_coder_7d493_0 ?_
    refine lv_if_eq (tgt := 13) hx hb dJ0_coder_7d493_3 (by decide) (fun c1 => ?_) (fun c1 => ?_)
    · replace hf := fx_it c1 hf
      refine lv_iconst hx hb dJ0_coder_7d493_13 ki_1 ?_
      exact fx_zretp rfl hf hC hr hk hP hS dJ0_coder_7d493_14
    · replace hf := fx_ie c1 hf
      refine lv_aload_n hx hb dJ0_coder_7d493_6 rfl (lv_at hl 0 rfl) ?_
      refine fx_gsc hC hS kFw_J0_15 dJ0_coder_7d493_7 ?_
      refine lv_goto (tgt := 14) hx hb dJ0_coder_7d493_10 (by decide) ?_
      exact fx_zretp rfl hf hC hr hk hP hS dJ0_coder_7d493_14
  exact main _ _ _ hP hS hl

set_option maxHeartbeats 4000000 in
set_option maxRecDepth 100000 in
theorem ctJ0_length_8abf5 (l : Launch) {σ : FH} {v : Int32} (hf : fJ0_length_8abf5 σ = some v) : fx_Mi l yJ0_length_8abf5 cJ0_length_8abf5 1 (some .int) (1) LX (fun ad ec => [.ref (ec 25)]) σ v σ := by
  unfold fJ0_length_8abf5 at hf
  refine fx_mi' (own := RJ0) rfl (by decide +kernel) ?_
  intro p e s m args below meth c D cy ad ec A hC hr hk hP hS
  have hx := hC.1
  have hb := hC.2.1
  have hl := lv_entry ([.ref (ec 25)]) (n := 1) (Nat.le_of_ble_eq_true rfl)
  show W _ _ _ _ _ _ _ _ _ _ _ _ _ _ _ (entryFrame m ([.ref (ec 25)] : List Value).toArray 1)
  rw [lg_entry_eq]
  generalize (lg_sl ([.ref (ec 25)]) ++ List.replicate (1 - (lg_sl ([.ref (ec 25)])).length) Slot.unset).toArray = ls at hl ⊢
  have hl : lv_has ls 1 [(0, .ref (ec 25))] := hl
  have main : ∀ (H : Heap) (locs : List Loc) (ls : Array Slot), fx_P D cy LX ad σ H → va_S A s.heap H locs → lv_has ls 1 [(0, .ref (ec 25))] → W p l e (fx_R (1)) s m args below meth c H locs 0 0 (fx_Qi D cy LX ad A below args s v σ) (F0 m 0 ls []) := by
    intro H locs ls hP hS hl
    refine lv_aload_n hx hb dJ0_length_8abf5_0 rfl (lv_at hl 0 rfl) ?_
    refine fx_gsv hC hS kFw_J0_9 dJ0_length_8abf5_1 ?_
    refine fx_alenB hC hS dJ0_length_8abf5_4 ?_
    refine lv_aload_n hx hb dJ0_length_8abf5_5 rfl (lv_at hl 0 rfl) ?_
    obtain ⟨r2, hc1, hf⟩ := fxBP_e hf
    refine fx_ci hC hS (fx_runVS (As := []) (rest := [.int 8]) hC hP hS (ctJ0_coder_7d493 l hc1 D cy ad ec _) kMV_J0_335 kC_J0_coder_7d493 hd_J0_coder_7d493 rfl ⟨(Nat.le_of_ble_eq_true rfl), (Nat.le_of_ble_eq_true rfl)⟩ ⟨Nat.le_refl 0, Nat.le_refl 0⟩ hl.1 (Nat.le_of_ble_eq_true rfl) rfl dJ0_length_8abf5_6) (fun H locs hP hS => ?_)
    refine lv_ishr hx hb dJ0_length_8abf5_9 ?_
    exact fx_iretp hf hC hr hk hP hS dJ0_length_8abf5_10
  exact main _ _ _ hP hS hl

set_option maxHeartbeats 4000000 in
set_option maxRecDepth 100000 in
theorem ctJ1_canEncode_9a6ad (l : Launch) {a0 : Int32} {σ : FH} {v : Int32} (hf : fJ1_canEncode_9a6ad a0 σ = some v) : fx_Mi l yJ1_canEncode_9a6ad cJ1_canEncode_9a6ad 1 (some .boolean) (0) LX (fun ad ec => [.int a0]) σ v σ := by
  unfold fJ1_canEncode_9a6ad at hf
  refine fx_mi' (own := RJ1) rfl (by decide +kernel) ?_
  intro p e s m args below meth c D cy ad ec A hC hr hk hP hS
  have hx := hC.1
  have hb := hC.2.1
  have hl := lv_entry ([.int a0]) (n := 1) (Nat.le_of_ble_eq_true rfl)
  show W _ _ _ _ _ _ _ _ _ _ _ _ _ _ _ (entryFrame m ([.int a0] : List Value).toArray 1)
  rw [lg_entry_eq]
  generalize (lg_sl ([.int a0]) ++ List.replicate (1 - (lg_sl ([.int a0])).length) Slot.unset).toArray = ls at hl ⊢
  have hl : lv_has ls 1 [(0, .int a0)] := hl
  have main : ∀ (H : Heap) (locs : List Loc) (ls : Array Slot), fx_P D cy LX ad σ H → va_S A s.heap H locs → lv_has ls 1 [(0, .int a0)] → W p l e (fx_R (0)) s m args below meth c H locs 0 0 (fx_Qi D cy LX ad A below args s v σ) (F0 m 0 ls []) := by
    intro H locs ls hP hS hl
    refine lv_iload_n hx hb dJ1_canEncode_9a6ad_0 rfl (lv_at hl 0 rfl) ?_
    obtain ⟨v1, ev1, hf⟩ := fxL_e hf
    have j_v1 : ∀ (z2 : Int32), z2 = ((if a0 < 0 then 0 else (if 255 < a0 then 0 else 1)) : Int32) → ∀ (ls : Array Slot), lv_has ls 1 [] → W p l e (fx_R (0)) s m args below meth c H locs 0 0 (fx_Qi D cy LX ad A below args s v σ) (F0 m 16 ls [.int z2]) := by
      intro z2 hz2 ls hl
      obtain rfl : v1 = z2 := ev1.trans hz2.symm
      obtain ⟨h5, hf⟩ := fxG_e hf
      exact fx_zretp (fx_bon h5) hf hC hr hk hP hS dJ1_canEncode_9a6ad_16
    refine lv_if_lt (tgt := 15) hx hb dJ1_canEncode_9a6ad_1 (by decide) (fun c3 => ?_) (fun c3 => ?_)
    · refine lv_iconst hx hb dJ1_canEncode_9a6ad_15 ki_0 ?_
      exact j_v1 0 (if_pos c3).symm ls (lv_sub hl [] rfl)
    · refine lv_iload_n hx hb dJ1_canEncode_9a6ad_4 rfl (lv_at hl 0 rfl) ?_
      refine lv_sipush hx hb dJ1_canEncode_9a6ad_5 ks_255 ?_
      refine lv_icmp_gt (tgt := 15) hx hb dJ1_canEncode_9a6ad_8 (by decide) (fun c4 => ?_) (fun c4 => ?_)
      · refine lv_iconst hx hb dJ1_canEncode_9a6ad_15 ki_0 ?_
        exact j_v1 0 ((if_neg c3).trans (if_pos c4)).symm ls (lv_sub hl [] rfl)
      · refine lv_iconst hx hb dJ1_canEncode_9a6ad_11 ki_1 ?_
        refine lv_goto (tgt := 16) hx hb dJ1_canEncode_9a6ad_12 (by decide) ?_
        exact j_v1 1 ((if_neg c3).trans (if_neg c4)).symm ls (lv_sub hl [] rfl)
  exact main _ _ _ hP hS hl

set_option maxHeartbeats 4000000 in
set_option maxRecDepth 100000 in
theorem ctJ1_indexOfChar_4cfef (l : Launch) {a1 : Int32} {a2 : Int32} {a3 : Int32} {σ : FH} {v : Int32} (hf : fJ1_indexOfChar_4cfef a1 a2 a3 σ = some v) : fx_Mi l yJ1_indexOfChar_4cfef cJ1_indexOfChar_4cfef 6 (some .int) (0) LX (fun ad ec => [.ref (ec 26), .int a1, .int a2, .int a3]) σ v σ := by
  unfold fJ1_indexOfChar_4cfef at hf
  refine fx_mi' (own := RJ1) rfl (by decide +kernel) ?_
  intro p e s m args below meth c D cy ad ec A hC hr hk hP hS
  have hx := hC.1
  have hb := hC.2.1
  have hl := lv_entry ([.ref (ec 26), .int a1, .int a2, .int a3]) (n := 6) (Nat.le_of_ble_eq_true rfl)
  show W _ _ _ _ _ _ _ _ _ _ _ _ _ _ _ (entryFrame m ([.ref (ec 26), .int a1, .int a2, .int a3] : List Value).toArray 6)
  rw [lg_entry_eq]
  generalize (lg_sl ([.ref (ec 26), .int a1, .int a2, .int a3]) ++ List.replicate (6 - (lg_sl ([.ref (ec 26), .int a1, .int a2, .int a3])).length) Slot.unset).toArray = ls at hl ⊢
  have hl : lv_has ls 6 [(0, .ref (ec 26)), (1, .int a1), (2, .int a2), (3, .int a3)] := hl
  have main : ∀ (H : Heap) (locs : List Loc) (ls : Array Slot), fx_P D cy LX ad σ H → va_S A s.heap H locs → lv_has ls 6 [(0, .ref (ec 26)), (1, .int a1), (2, .int a2), (3, .int a3)] → W p l e (fx_R (0)) s m args below meth c H locs 0 0 (fx_Qi D cy LX ad A below args s v σ) (F0 m 0 ls []) := by
    intro H locs ls hP hS hl
    refine lv_iload_n hx hb dJ1_indexOfChar_4cfef_0 rfl (lv_at hl 1 rfl) ?_
    refine lv_i2b (v := ((Int32.toInt8 a1).toInt32)) hx hb dJ1_indexOfChar_4cfef_1 rfl ?_
    obtain ⟨v1, ev1, hf⟩ := fxL_e hf
    refine fx_ti ev1 ?_
    refine lv_istore (lv' := [(4, .int v1), (0, .ref (ec 26)), (1, .int a1), (2, .int a2), (3, .int a3)]) hx hb dJ1_indexOfChar_4cfef_2 hl (by decide) rfl (fun ls hl => ?_)
    refine lv_iload_n hx hb dJ1_indexOfChar_4cfef_4 rfl (lv_at hl 3 rfl) ?_
    refine lv_istore (lv' := [(5, .int a2), (4, .int v1), (0, .ref (ec 26)), (1, .int a1), (2, .int a2), (3, .int a3)]) hx hb dJ1_indexOfChar_4cfef_5 hl (by decide) rfl (fun ls hl => ?_)
    obtain ⟨K2, hK2, hf⟩ := fxL_e hf
    have k_K2 : ∀  (H : Heap) (locs : List Loc) (ls : Array Slot), fx_P D cy LX ad σ H → va_S A s.heap H locs → lv_has ls 6 [] → K2 = some v → W p l e (fx_R (0)) s m args below meth c H locs 0 0 (fx_Qi D cy LX ad A below args s v σ) (F0 m 31 ls []) := by
      intro  H locs ls hP hS hl hf
      replace hf := hK2.symm.trans hf
      refine lv_iconst hx hb dJ1_indexOfChar_4cfef_31 ki_m1 ?_
      exact fx_iretp hf hC hr hk hP hS dJ1_indexOfChar_4cfef_32
    have L9 : ∀ (n5 : Nat) (w3 : Int32) (H : Heap) (locs : List Loc) (ls : Array Slot), fx_P D cy LX ad σ H → va_S A s.heap H locs → lv_has ls 6 [(0, .ref (ec 26)), (3, .int a3), (4, .int v1), (5, .int w3)] → fJ1_indexOfChar_4cfef_7 a3 v1 K2 n5 w3 = some v → W p l e (fx_R (0)) s m args below meth c H locs 0 0 (fx_Qi D cy LX ad A below args s v σ) (F0 m 7 ls []) := by
      intro n5
      induction n5 with
      | zero =>
        intro w3 H locs ls hP hS hl hf
        rw [fJ1_indexOfChar_4cfef_7] at hf
        cases hf
      | succ n5 ih4 =>
        intro w3 H locs ls hP hS hl hf
        rw [fJ1_indexOfChar_4cfef_7] at hf
        refine lv_iload hx hb dJ1_indexOfChar_4cfef_7 (lv_at hl 3 rfl) ?_
        refine lv_iload_n hx hb dJ1_indexOfChar_4cfef_9 rfl (lv_at hl 1 rfl) ?_
        refine lv_icmp_ge (tgt := 31) hx hb dJ1_indexOfChar_4cfef_10 (by decide) (fun c6 => ?_) (fun c6 => ?_)
        · replace hf := fx_it c6 hf
          exact k_K2  _ _ _ hP hS (lv_sub hl [] rfl) hf
        · replace hf := fx_ie c6 hf
          refine lv_aload_n hx hb dJ1_indexOfChar_4cfef_13 rfl (lv_at hl 0 rfl) ?_
          refine lv_iload hx hb dJ1_indexOfChar_4cfef_14 (lv_at hl 3 rfl) ?_
          obtain ⟨h7, hf⟩ := fxG_e hf
          refine fx_bald hC hS (fx_inp h7) dJ1_indexOfChar_4cfef_16 ?_
          refine lv_iload hx hb dJ1_indexOfChar_4cfef_17 (lv_at hl 2 rfl) ?_
          refine lv_icmp_ne (tgt := 25) hx hb dJ1_indexOfChar_4cfef_19 (by decide) (fun c8 => ?_) (fun c8 => ?_)
          · replace hf := fx_ie c8 hf
            refine lv_iinc (v := (w3 + 1)) (lv' := [(5, .int (w3 + 1)), (0, .ref (ec 26)), (3, .int a3), (4, .int v1)]) hx hb dJ1_indexOfChar_4cfef_25 hl (k := 3) rfl (congrArg (fun z => w3 + z) ki_1) (by decide) rfl (fun ls hl => ?_)
            refine lv_goto (tgt := 7) hx hb dJ1_indexOfChar_4cfef_28 (by decide) ?_
            exact ih4 (w3 + 1) _ _ _ hP hS (lv_sub hl [1, 2, 3, 0] rfl) hf
          · replace hf := fx_it c8 hf
            refine lv_iload hx hb dJ1_indexOfChar_4cfef_22 (lv_at hl 3 rfl) ?_
            exact fx_iretp hf hC hr hk hP hS dJ1_indexOfChar_4cfef_24
    exact L9 FU a2 _ _ _ hP hS (lv_sub hl [2, 5, 1, 0] rfl) hf
  exact main _ _ _ hP hS hl

set_option maxHeartbeats 4000000 in
set_option maxRecDepth 100000 in
theorem ctJ1_indexOf_4cfef (l : Launch) {a1 : Int32} {a2 : Int32} {a3 : Int32} {σ : FH} {v : Int32} (hf : fJ1_indexOf_4cfef a1 a2 a3 σ = some v) : fx_Mi l yJ1_indexOf_4cfef cJ1_indexOf_4cfef 4 (some .int) (1) LX (fun ad ec => [.ref (ec 26), .int a1, .int a2, .int a3]) σ v σ := by
  unfold fJ1_indexOf_4cfef at hf
  refine fx_mi' (own := RJ1) rfl (by decide +kernel) ?_
  intro p e s m args below meth c D cy ad ec A hC hr hk hP hS
  have hx := hC.1
  have hb := hC.2.1
  have hl := lv_entry ([.ref (ec 26), .int a1, .int a2, .int a3]) (n := 4) (Nat.le_of_ble_eq_true rfl)
  show W _ _ _ _ _ _ _ _ _ _ _ _ _ _ _ (entryFrame m ([.ref (ec 26), .int a1, .int a2, .int a3] : List Value).toArray 4)
  rw [lg_entry_eq]
  generalize (lg_sl ([.ref (ec 26), .int a1, .int a2, .int a3]) ++ List.replicate (4 - (lg_sl ([.ref (ec 26), .int a1, .int a2, .int a3])).length) Slot.unset).toArray = ls at hl ⊢
  have hl : lv_has ls 4 [(0, .ref (ec 26)), (1, .int a1), (2, .int a2), (3, .int a3)] := hl
  have main : ∀ (H : Heap) (locs : List Loc) (ls : Array Slot), fx_P D cy LX ad σ H → va_S A s.heap H locs → lv_has ls 4 [(0, .ref (ec 26)), (1, .int a1), (2, .int a2), (3, .int a3)] → W p l e (fx_R (1)) s m args below meth c H locs 0 0 (fx_Qi D cy LX ad A below args s v σ) (F0 m 0 ls []) := by
    intro H locs ls hP hS hl
    refine lv_iload_n hx hb dJ1_indexOf_4cfef_0 rfl (lv_at hl 1 rfl) ?_
    obtain ⟨r2, hc1, hf⟩ := fxBP_e hf
    refine fx_ci hC hS (fx_runS (As := [.int a1]) (rest := []) hC hP hS (ctJ1_canEncode_9a6ad l hc1 D cy ad ec _) kMS_J1_88 kC_J1_canEncode_9a6ad hd_J1_canEncode_9a6ad.2 rfl ⟨(Nat.le_of_ble_eq_true rfl), (Nat.le_of_ble_eq_true rfl)⟩ ⟨Nat.le_refl 0, Nat.le_refl 0⟩ hl.1 (Nat.le_of_ble_eq_true rfl) rfl dJ1_indexOf_4cfef_1) (fun H locs hP hS => ?_)
    refine lv_if_ne (tgt := 9) hx hb dJ1_indexOf_4cfef_4 (by decide) (fun c4 => ?_) (fun c4 => ?_)
    · replace hf := fx_ie c4 hf
      refine lv_iload_n hx hb dJ1_indexOf_4cfef_9 rfl (lv_at hl 2 rfl) ?_
      refine lv_iconst hx hb dJ1_indexOf_4cfef_10 ki_0 ?_
      refine fx_max hC hl.1 kL_J1_92 kMt_max kMi kMc_max (Nat.le_of_ble_eq_true rfl) (Nat.le_of_ble_eq_true rfl) ⟨Nat.le_refl 0, Nat.le_refl 0⟩ dJ1_indexOf_4cfef_11 ?_
      obtain ⟨v5, ev5, hf⟩ := fxL_e hf
      refine fx_ti ev5 ?_
      refine lv_istore_n (lv' := [(2, .int v5), (0, .ref (ec 26)), (1, .int a1), (3, .int a3)]) hx hb dJ1_indexOf_4cfef_14 rfl hl (by decide) rfl (fun ls hl => ?_)
      refine lv_iload_n hx hb dJ1_indexOf_4cfef_15 rfl (lv_at hl 3 rfl) ?_
      refine lv_aload_n hx hb dJ1_indexOf_4cfef_16 rfl (lv_at hl 1 rfl) ?_
      refine fx_alenB hC hS dJ1_indexOf_4cfef_17 ?_
      refine fx_min hC hl.1 kL_J1_38 kMt_min kMi kMc_min (Nat.le_of_ble_eq_true rfl) (Nat.le_of_ble_eq_true rfl) ⟨Nat.le_refl 0, Nat.le_refl 0⟩ dJ1_indexOf_4cfef_18 ?_
      obtain ⟨v6, ev6, hf⟩ := fxL_e hf
      refine fx_ti ev6 ?_
      refine lv_istore_n (lv' := [(3, .int v6), (2, .int v5), (0, .ref (ec 26)), (1, .int a1)]) hx hb dJ1_indexOf_4cfef_21 rfl hl (by decide) rfl (fun ls hl => ?_)
      refine lv_iload_n hx hb dJ1_indexOf_4cfef_22 rfl (lv_at hl 1 rfl) ?_
      refine lv_iload_n hx hb dJ1_indexOf_4cfef_23 rfl (lv_at hl 0 rfl) ?_
      refine lv_icmp_lt (tgt := 29) hx hb dJ1_indexOf_4cfef_24 (by decide) (fun c7 => ?_) (fun c7 => ?_)
      · replace hf := fx_it c7 hf
        refine lv_aload_n hx hb dJ1_indexOf_4cfef_29 rfl (lv_at hl 2 rfl) ?_
        refine lv_iload_n hx hb dJ1_indexOf_4cfef_30 rfl (lv_at hl 3 rfl) ?_
        refine lv_iload_n hx hb dJ1_indexOf_4cfef_31 rfl (lv_at hl 1 rfl) ?_
        refine lv_iload_n hx hb dJ1_indexOf_4cfef_32 rfl (lv_at hl 0 rfl) ?_
        obtain ⟨r9, hc8, hf⟩ := fxBP_e hf
        refine fx_ci hC hS (fx_runS (As := [.ref (ec 26), .int a1, .int v5, .int v6]) (rest := []) hC hP hS (ctJ1_indexOfChar_4cfef l hc8 D cy ad ec _) kMS_J1_95 kC_J1_indexOfChar_4cfef hd_J1_indexOfChar_4cfef.2 rfl ⟨(Nat.le_of_ble_eq_true rfl), (Nat.le_of_ble_eq_true rfl)⟩ ⟨Nat.le_refl 0, Nat.le_refl 0⟩ hl.1 (Nat.le_of_ble_eq_true rfl) rfl dJ1_indexOf_4cfef_33) (fun H locs hP hS => ?_)
        exact fx_iretp hf hC hr hk hP hS dJ1_indexOf_4cfef_36
      · replace hf := fx_ie c7 hf
        refine lv_iconst hx hb dJ1_indexOf_4cfef_27 ki_m1 ?_
        exact fx_iretp hf hC hr hk hP hS dJ1_indexOf_4cfef_28
    · replace hf := fx_it c4 hf
      refine lv_iconst hx hb dJ1_indexOf_4cfef_7 ki_m1 ?_
      exact fx_iretp hf hC hr hk hP hS dJ1_indexOf_4cfef_8
  exact main _ _ _ hP hS hl

set_option maxHeartbeats 4000000 in
set_option maxRecDepth 100000 in
theorem ctJ0_indexOf_7cf53 (l : Launch) {a1 : Int32} {a2 : Int32} {σ : FH} {v : Int32} (hf : fJ0_indexOf_7cf53 a1 a2 σ = some v) : fx_Mi l yJ0_indexOf_7cf53 cJ0_indexOf_7cf53 3 (some .int) (2) LX (fun ad ec => [.ref (ec 25), .int a1, .int a2]) σ v σ := by
  unfold fJ0_indexOf_7cf53 at hf
  refine fx_mi' (own := RJ0) rfl (by decide +kernel) ?_
  intro p e s m args below meth c D cy ad ec A hC hr hk hP hS
  have hx := hC.1
  have hb := hC.2.1
  have hl := lv_entry ([.ref (ec 25), .int a1, .int a2]) (n := 3) (Nat.le_of_ble_eq_true rfl)
  show W _ _ _ _ _ _ _ _ _ _ _ _ _ _ _ (entryFrame m ([.ref (ec 25), .int a1, .int a2] : List Value).toArray 3)
  rw [lg_entry_eq]
  generalize (lg_sl ([.ref (ec 25), .int a1, .int a2]) ++ List.replicate (3 - (lg_sl ([.ref (ec 25), .int a1, .int a2])).length) Slot.unset).toArray = ls at hl ⊢
  have hl : lv_has ls 3 [(0, .ref (ec 25)), (1, .int a1), (2, .int a2)] := hl
  have main : ∀ (H : Heap) (locs : List Loc) (ls : Array Slot), fx_P D cy LX ad σ H → va_S A s.heap H locs → lv_has ls 3 [(0, .ref (ec 25)), (1, .int a1), (2, .int a2)] → W p l e (fx_R (2)) s m args below meth c H locs 0 0 (fx_Qi D cy LX ad A below args s v σ) (F0 m 0 ls []) := by
    intro H locs ls hP hS hl
    refine lv_aload_n hx hb dJ0_indexOf_7cf53_0 rfl (lv_at hl 0 rfl) ?_
    obtain ⟨r2, hc1, hf⟩ := fxBP_e hf
    refine fx_ci hC hS (fx_runVS (As := []) (rest := []) hC hP hS (ctJ0_isLatin1_aae02 l hc1 D cy ad ec _) kMV_J0_492 kC_J0_isLatin1_aae02 hd_J0_isLatin1_aae02 rfl ⟨(Nat.le_of_ble_eq_true rfl), (Nat.le_of_ble_eq_true rfl)⟩ ⟨Nat.le_refl 0, Nat.le_refl 0⟩ hl.1 (Nat.le_of_ble_eq_true rfl) rfl dJ0_indexOf_7cf53_1) (fun H locs hP hS => ?_)
    refine lv_if_eq (tgt := 23) hx hb dJ0_indexOf_7cf53_4 (by decide) (fun c4 => ?_) (fun c4 => ?_)
    · replace hf := fx_it c4 hf
      refine lv_aload_n hx hb dJ0_indexOf_7cf53_23 rfl (lv_at hl 0 rfl) ?_
      refine fx_gsv hC hS kFw_J0_9 dJ0_indexOf_7cf53_24 ?_
      refine lv_iload_n hx hb dJ0_indexOf_7cf53_27 rfl (lv_at hl 1 rfl) ?_
      refine lv_iload_n hx hb dJ0_indexOf_7cf53_28 rfl (lv_at hl 2 rfl) ?_
      refine lv_aload_n hx hb dJ0_indexOf_7cf53_29 rfl (lv_at hl 0 rfl) ?_
      obtain ⟨r6, hc5, hf⟩ := fxBP_e hf
      refine fx_ci hC hS (fx_runVS (As := []) (rest := [.int a2, .int a1, .ref (ec 26)]) hC hP hS (ctJ0_length_8abf5 l hc5 D cy ad ec _) kMV_J0_505 kC_J0_length_8abf5 hd_J0_length_8abf5 rfl ⟨(Nat.le_of_ble_eq_true rfl), (Nat.le_of_ble_eq_true rfl)⟩ ⟨Nat.le_refl 0, Nat.le_refl 0⟩ hl.1 (Nat.le_of_ble_eq_true rfl) rfl dJ0_indexOf_7cf53_30) (fun H locs hP hS => ?_)
      cases hf
    · replace hf := fx_ie c4 hf
      refine lv_aload_n hx hb dJ0_indexOf_7cf53_7 rfl (lv_at hl 0 rfl) ?_
      refine fx_gsv hC hS kFw_J0_9 dJ0_indexOf_7cf53_8 ?_
      refine lv_iload_n hx hb dJ0_indexOf_7cf53_11 rfl (lv_at hl 1 rfl) ?_
      refine lv_iload_n hx hb dJ0_indexOf_7cf53_12 rfl (lv_at hl 2 rfl) ?_
      refine lv_aload_n hx hb dJ0_indexOf_7cf53_13 rfl (lv_at hl 0 rfl) ?_
      obtain ⟨r9, hc8, hf⟩ := fxBP_e hf
      refine fx_ci hC hS (fx_runVS (As := []) (rest := [.int a2, .int a1, .ref (ec 26)]) hC hP hS (ctJ0_length_8abf5 l hc8 D cy ad ec _) kMV_J0_505 kC_J0_length_8abf5 hd_J0_length_8abf5 rfl ⟨(Nat.le_of_ble_eq_true rfl), (Nat.le_of_ble_eq_true rfl)⟩ ⟨Nat.le_refl 0, Nat.le_refl 0⟩ hl.1 (Nat.le_of_ble_eq_true rfl) rfl dJ0_indexOf_7cf53_14) (fun H locs hP hS => ?_)
      obtain ⟨r12, hc11, hf⟩ := fxBP_e hf
      refine fx_ci hC hS (fx_runS (As := [.ref (ec 26), .int a1, .int a2, .int r9]) (rest := []) hC hP hS (ctJ1_indexOf_4cfef l hc11 D cy ad ec _) kMS_J0_637 kC_J1_indexOf_4cfef hd_J1_indexOf_4cfef.2 rfl ⟨(Nat.le_of_ble_eq_true rfl), (Nat.le_of_ble_eq_true rfl)⟩ ⟨Nat.le_refl 0, Nat.le_refl 0⟩ hl.1 (Nat.le_of_ble_eq_true rfl) rfl dJ0_indexOf_7cf53_17) (fun H locs hP hS => ?_)
      refine lv_goto (tgt := 36) hx hb dJ0_indexOf_7cf53_20 (by decide) ?_
      exact fx_iretp hf hC hr hk hP hS dJ0_indexOf_7cf53_36
  exact main _ _ _ hP hS hl

set_option maxHeartbeats 4000000 in
set_option maxRecDepth 100000 in
theorem ctJ0_indexOf_0f7a4 (l : Launch) {a1 : Int32} {σ : FH} {v : Int32} (hf : fJ0_indexOf_0f7a4 a1 σ = some v) : fx_Mi l yJ0_indexOf_0f7a4 cJ0_indexOf_0f7a4 2 (some .int) (3) LX (fun ad ec => [.ref (ec 25), .int a1]) σ v σ := by
  unfold fJ0_indexOf_0f7a4 at hf
  refine fx_mi' (own := RJ0) rfl (by decide +kernel) ?_
  intro p e s m args below meth c D cy ad ec A hC hr hk hP hS
  have hx := hC.1
  have hb := hC.2.1
  have hl := lv_entry ([.ref (ec 25), .int a1]) (n := 2) (Nat.le_of_ble_eq_true rfl)
  show W _ _ _ _ _ _ _ _ _ _ _ _ _ _ _ (entryFrame m ([.ref (ec 25), .int a1] : List Value).toArray 2)
  rw [lg_entry_eq]
  generalize (lg_sl ([.ref (ec 25), .int a1]) ++ List.replicate (2 - (lg_sl ([.ref (ec 25), .int a1])).length) Slot.unset).toArray = ls at hl ⊢
  have hl : lv_has ls 2 [(0, .ref (ec 25)), (1, .int a1)] := hl
  have main : ∀ (H : Heap) (locs : List Loc) (ls : Array Slot), fx_P D cy LX ad σ H → va_S A s.heap H locs → lv_has ls 2 [(0, .ref (ec 25)), (1, .int a1)] → W p l e (fx_R (3)) s m args below meth c H locs 0 0 (fx_Qi D cy LX ad A below args s v σ) (F0 m 0 ls []) := by
    intro H locs ls hP hS hl
    refine lv_aload_n hx hb dJ0_indexOf_0f7a4_0 rfl (lv_at hl 0 rfl) ?_
    refine lv_iload_n hx hb dJ0_indexOf_0f7a4_1 rfl (lv_at hl 1 rfl) ?_
    refine lv_iconst hx hb dJ0_indexOf_0f7a4_2 ki_0 ?_
    obtain ⟨r2, hc1, hf⟩ := fxBP_e hf
    refine fx_ci hC hS (fx_runVS (As := [.int a1, .int 0]) (rest := []) hC hP hS (ctJ0_indexOf_7cf53 l hc1 D cy ad ec _) kMV_J0_633 kC_J0_indexOf_7cf53 hd_J0_indexOf_7cf53 rfl ⟨(Nat.le_of_ble_eq_true rfl), (Nat.le_of_ble_eq_true rfl)⟩ ⟨Nat.le_refl 0, Nat.le_refl 0⟩ hl.1 (Nat.le_of_ble_eq_true rfl) rfl dJ0_indexOf_0f7a4_3) (fun H locs hP hS => ?_)
    exact fx_iretp hf hC hr hk hP hS dJ0_indexOf_0f7a4_6
  exact main _ _ _ hP hS hl

set_option maxHeartbeats 4000000 in
set_option maxRecDepth 100000 in
theorem ctJ9_floorMod_7cf53 (l : Launch) {a0 : Int32} {a1 : Int32} {σ : FH} {v : Int32} (hf : fJ9_floorMod_7cf53 a0 a1 σ = some v) : fx_Mi l yJ9_floorMod_7cf53 cJ9_floorMod_7cf53 3 (some .int) (0) LX (fun ad ec => [.int a0, .int a1]) σ v σ := by
  unfold fJ9_floorMod_7cf53 at hf
  refine fx_miF' (own := RJ9) rfl (by decide +kernel) ?_
  intro p e s m args below meth c D cy ad ec A hC hr hk hP hS
  have hx := hC.1
  have hb := hC.2.1
  have hl := lv_entry ([.int a0, .int a1]) (n := 3) (Nat.le_of_ble_eq_true rfl)
  show W _ _ _ _ _ _ _ _ _ _ _ _ _ _ _ (entryFrame m ([.int a0, .int a1] : List Value).toArray 3)
  rw [lg_entry_eq]
  generalize (lg_sl ([.int a0, .int a1]) ++ List.replicate (3 - (lg_sl ([.int a0, .int a1])).length) Slot.unset).toArray = ls at hl ⊢
  have hl : lv_has ls 3 [(0, .int a0), (1, .int a1)] := hl
  have main : ∀ (H : Heap) (locs : List Loc) (ls : Array Slot), fx_P D cy LX ad σ H → va_S A s.heap H locs → lv_has ls 3 [(0, .int a0), (1, .int a1)] → W p l e (fx_R (0)) s m args below meth c H locs 0 0 (fx_Qi D cy LX ad A below args s v σ) (F0 m 0 ls []) := by
    intro H locs ls hP hS hl
    refine lv_iload_n hx hb dJ9_floorMod_7cf53_0 rfl (lv_at hl 0 rfl) ?_
    refine lv_iload_n hx hb dJ9_floorMod_7cf53_1 rfl (lv_at hl 1 rfl) ?_
    obtain ⟨h1, hf⟩ := fxG_e hf
    refine lv_irem hx hb dJ9_floorMod_7cf53_2 h1 ?_
    obtain ⟨v2, ev2, hf⟩ := fxL_e hf
    refine fx_ti ev2 ?_
    refine lv_istore_n (lv' := [(2, .int v2), (0, .int a0), (1, .int a1)]) hx hb dJ9_floorMod_7cf53_3 rfl hl (by decide) rfl (fun ls hl => ?_)
    refine lv_iload_n hx hb dJ9_floorMod_7cf53_4 rfl (lv_at hl 1 rfl) ?_
    refine lv_iload_n hx hb dJ9_floorMod_7cf53_5 rfl (lv_at hl 2 rfl) ?_
    refine lv_ixor hx hb dJ9_floorMod_7cf53_6 ?_
    refine lv_if_ge (tgt := 18) hx hb dJ9_floorMod_7cf53_7 (by decide) (fun c3 => ?_) (fun c3 => ?_)
    · replace hf := fx_it c3 hf
      refine lv_iload_n hx hb dJ9_floorMod_7cf53_18 rfl (lv_at hl 0 rfl) ?_
      exact fx_iretp hf hC hr hk hP hS dJ9_floorMod_7cf53_19
    · replace hf := fx_ie c3 hf
      refine lv_iload_n hx hb dJ9_floorMod_7cf53_10 rfl (lv_at hl 0 rfl) ?_
      refine lv_if_eq (tgt := 18) hx hb dJ9_floorMod_7cf53_11 (by decide) (fun c4 => ?_) (fun c4 => ?_)
      · replace hf := fx_it c4 hf
        refine lv_iload_n hx hb dJ9_floorMod_7cf53_18 rfl (lv_at hl 0 rfl) ?_
        exact fx_iretp hf hC hr hk hP hS dJ9_floorMod_7cf53_19
      · replace hf := fx_ie c4 hf
        refine lv_iload_n hx hb dJ9_floorMod_7cf53_14 rfl (lv_at hl 0 rfl) ?_
        refine lv_iload_n hx hb dJ9_floorMod_7cf53_15 rfl (lv_at hl 2 rfl) ?_
        refine lv_iadd hx hb dJ9_floorMod_7cf53_16 ?_
        exact fx_iretp hf hC hr hk hP hS dJ9_floorMod_7cf53_17
  exact main _ _ _ hP hS hl
