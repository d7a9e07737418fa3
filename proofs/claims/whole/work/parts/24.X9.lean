set_option maxHeartbeats 4000000 in
set_option maxRecDepth 100000 in
theorem ctX9_isWord (l : Launch) {a1 : Nat} {σ : FH} {v : Int32} (hf : fX9_isWord a1 σ = some v) : fx_Mi l yX9_isWord cX9_isWord 2 (some .boolean) (0) LX (fun ad ec => [.ref (ad 3), .ref (ec a1)]) σ v σ := by
  unfold fX9_isWord at hf
  obtain ⟨h_a1, hf⟩ := fxG_e hf
  refine fx_mi' (own := RX9) rfl (by decide +kernel) ?_
  intro p e s m args below meth c D cy ad ec A hC hr hk hP hS
  have hx := hC.1
  have hb := hC.2.1
  have hl := lv_entry ([.ref (ad 3), .ref (ec a1)]) (n := 2) (Nat.le_of_ble_eq_true rfl)
  show W _ _ _ _ _ _ _ _ _ _ _ _ _ _ _ (entryFrame m ([.ref (ad 3), .ref (ec a1)] : List Value).toArray 2)
  rw [lg_entry_eq]
  generalize (lg_sl ([.ref (ad 3), .ref (ec a1)]) ++ List.replicate (2 - (lg_sl ([.ref (ad 3), .ref (ec a1)])).length) Slot.unset).toArray = ls at hl ⊢
  have hl : lv_has ls 2 [(0, .ref (ad 3)), (1, .ref (ec a1))] := hl
  have main : ∀ (H : Heap) (locs : List Loc) (ls : Array Slot), fx_P D cy LX ad σ H → va_S A s.heap H locs → lv_has ls 2 [(0, .ref (ad 3)), (1, .ref (ec a1))] → W p l e (fx_R (0)) s m args below meth c H locs 0 0 (fx_Qi D cy LX ad A below args s v σ) (F0 m 0 ls []) := by
    intro H locs ls hP hS hl
    refine lv_aload_n hx hb dX9_isWord_0 rfl (lv_at hl 0 rfl) ?_
    refine gf_X9_41 (v := .int (σ.1 3 4)) hC hP kX_3 rfl dX9_isWord_1 ?_
    refine lv_iconst hx hb dX9_isWord_4 ki_3 ?_
    refine lv_icmp_ne (tgt := 24) hx hb dX9_isWord_5 (by decide) (fun c1 => ?_) (fun c1 => ?_)
    · replace hf := fx_ie c1 hf
      refine lv_iconst hx hb dX9_isWord_24 ki_0 ?_
      exact fx_zretp rfl hf hC hr hk hP hS dX9_isWord_25
    · replace hf := fx_it c1 hf
      refine lv_aload_n hx hb dX9_isWord_8 rfl (lv_at hl 0 rfl) ?_
      refine gf_X9_59 (v := .long (σ.2.1 3 7)) hC hP kX_3 rfl dX9_isWord_9 ?_
      refine lv_aload_n hx hb dX9_isWord_12 rfl (lv_at hl 1 rfl) ?_
      refine fx_getk hC hS h_a1 kFw_X9_88 dX9_isWord_13 ?_
      refine W.lcmp hx hb dX9_isWord_16 ?_
      refine lv_if_ne (tgt := 24) hx hb dX9_isWord_17 (by decide) (fun c2 => ?_) (fun c2 => ?_)
      · replace hf := fx_ie c2 hf
        refine lv_iconst hx hb dX9_isWord_24 ki_0 ?_
        exact fx_zretp rfl hf hC hr hk hP hS dX9_isWord_25
      · replace hf := fx_it c2 hf
        refine lv_iconst hx hb dX9_isWord_20 ki_1 ?_
        refine lv_goto (tgt := 25) hx hb dX9_isWord_21 (by decide) ?_
        exact fx_zretp rfl hf hC hr hk hP hS dX9_isWord_25
  exact main _ _ _ hP hS hl

set_option maxHeartbeats 4000000 in
set_option maxRecDepth 100000 in
theorem ctX9_isSign (l : Launch) {a1 : Int32} {σ : FH} {v : Int32} (hf : fX9_isSign a1 σ = some v) : fx_Mi l yX9_isSign cX9_isSign 2 (some .boolean) (0) LX (fun ad ec => [.ref (ad 3), .int a1]) σ v σ := by
  unfold fX9_isSign at hf
  refine fx_mi' (own := RX9) rfl (by decide +kernel) ?_
  intro p e s m args below meth c D cy ad ec A hC hr hk hP hS
  have hx := hC.1
  have hb := hC.2.1
  have hl := lv_entry ([.ref (ad 3), .int a1]) (n := 2) (Nat.le_of_ble_eq_true rfl)
  show W _ _ _ _ _ _ _ _ _ _ _ _ _ _ _ (entryFrame m ([.ref (ad 3), .int a1] : List Value).toArray 2)
  rw [lg_entry_eq]
  generalize (lg_sl ([.ref (ad 3), .int a1]) ++ List.replicate (2 - (lg_sl ([.ref (ad 3), .int a1])).length) Slot.unset).toArray = ls at hl ⊢
  have hl : lv_has ls 2 [(0, .ref (ad 3)), (1, .int a1)] := hl
  have main : ∀ (H : Heap) (locs : List Loc) (ls : Array Slot), fx_P D cy LX ad σ H → va_S A s.heap H locs → lv_has ls 2 [(0, .ref (ad 3)), (1, .int a1)] → W p l e (fx_R (0)) s m args below meth c H locs 0 0 (fx_Qi D cy LX ad A below args s v σ) (F0 m 0 ls []) := by
    intro H locs ls hP hS hl
    refine lv_aload_n hx hb dX9_isSign_0 rfl (lv_at hl 0 rfl) ?_
    refine gf_X9_41 (v := .int (σ.1 3 4)) hC hP kX_3 rfl dX9_isSign_1 ?_
    refine lv_iconst hx hb dX9_isSign_4 ki_4 ?_
    obtain ⟨v1, ev1, hf⟩ := fxL_e hf
    have j_v1 : ∀ (z2 : Int32), z2 = ((if (σ.1 3 4) = 4 then (if (σ.1 3 6) = a1 then 1 else 0) else 0) : Int32) → ∀ (ls : Array Slot), lv_has ls 2 [] → W p l e (fx_R (0)) s m args below meth c H locs 0 0 (fx_Qi D cy LX ad A below args s v σ) (F0 m 21 ls [.int z2]) := by
      intro z2 hz2 ls hl
      obtain rfl : v1 = z2 := ev1.trans hz2.symm
      obtain ⟨h5, hf⟩ := fxG_e hf
      exact fx_zretp (fx_bon h5) hf hC hr hk hP hS dX9_isSign_21
    refine lv_icmp_ne (tgt := 20) hx hb dX9_isSign_5 (by decide) (fun c3 => ?_) (fun c3 => ?_)
    · refine lv_iconst hx hb dX9_isSign_20 ki_0 ?_
      exact j_v1 0 (if_neg c3).symm ls (lv_sub hl [] rfl)
    · refine lv_aload_n hx hb dX9_isSign_8 rfl (lv_at hl 0 rfl) ?_
      refine gf_X9_72 (v := .int (σ.1 3 6)) hC hP kX_3 rfl dX9_isSign_9 ?_
      refine lv_iload_n hx hb dX9_isSign_12 rfl (lv_at hl 1 rfl) ?_
      refine lv_icmp_ne (tgt := 20) hx hb dX9_isSign_13 (by decide) (fun c4 => ?_) (fun c4 => ?_)
      · refine lv_iconst hx hb dX9_isSign_20 ki_0 ?_
        exact j_v1 0 ((if_pos c3).trans (if_neg c4)).symm ls (lv_sub hl [] rfl)
      · refine lv_iconst hx hb dX9_isSign_16 ki_1 ?_
        refine lv_goto (tgt := 21) hx hb dX9_isSign_17 (by decide) ?_
        exact j_v1 1 ((if_pos c3).trans (if_pos c4)).symm ls (lv_sub hl [] rfl)
  exact main _ _ _ hP hS hl

set_option maxHeartbeats 4000000 in
set_option maxRecDepth 100000 in
theorem ctX9_isBlank (l : Launch) {a0 : Int32} {σ : FH} {v : Int32} (hf : fX9_isBlank a0 σ = some v) : fx_Mi l yX9_isBlank cX9_isBlank 1 (some .boolean) (0) LX (fun ad ec => [.int a0]) σ v σ := by
  unfold fX9_isBlank at hf
  refine fx_mi' (own := RX9) rfl (by decide +kernel) ?_
  intro p e s m args below meth c D cy ad ec A hC hr hk hP hS
  have hx := hC.1
  have hb := hC.2.1
  have hl := lv_entry ([.int a0]) (n := 1) (Nat.le_of_ble_eq_true rfl)
  show W _ _ _ _ _ _ _ _ _ _ _ _ _ _ _ (entryFrame m ([.int a0] : List Value).toArray 1)
  rw [lg_entry_eq]
  generalize (lg_sl ([.int a0]) ++ List.replicate (1 - (lg_sl ([.int a0])).length) Slot.unset).toArray = ls at hl ⊢
  have hl : lv_has ls 1 [(0, .int a0)] := hl
  have main : ∀ (H : Heap) (locs : List Loc) (ls : Array Slot), fx_P D cy LX ad σ H → va_S A s.heap H locs → lv_has ls 1 [(0, .int a0)] → W p l e (fx_R (0)) s m args below meth c H locs 0 0 (fx_Qi D cy LX ad A below args s v σ) (F0 m 0 ls []) := by
    intro H locs ls hP hS hl
    refine lv_iload_n hx hb dX9_isBlank_0 rfl (lv_at hl 0 rfl) ?_
    refine lv_bipush hx hb dX9_isBlank_1 kb_10 ?_
    obtain ⟨v1, ev1, hf⟩ := fxL_e hf
    have j_v1 : ∀ (z2 : Int32), z2 = ((if a0 = 10 then 1 else (if a0 = 32 then 1 else 0)) : Int32) → ∀ (ls : Array Slot), lv_has ls 1 [] → W p l e (fx_R (0)) s m args below meth c H locs 0 0 (fx_Qi D cy LX ad A below args s v σ) (F0 m 17 ls [.int z2]) := by
      intro z2 hz2 ls hl
      obtain rfl : v1 = z2 := ev1.trans hz2.symm
      obtain ⟨h5, hf⟩ := fxG_e hf
      exact fx_zretp (fx_bon h5) hf hC hr hk hP hS dX9_isBlank_17
    refine lv_icmp_eq (tgt := 12) hx hb dX9_isBlank_3 (by decide) (fun c3 => ?_) (fun c3 => ?_)
    · refine lv_iconst hx hb dX9_isBlank_12 ki_1 ?_
      refine lv_goto (tgt := 17) hx hb dX9_isBlank_13 (by decide) ?_
      exact j_v1 1 (if_pos c3).symm ls (lv_sub hl [] rfl)
    · refine lv_iload_n hx hb dX9_isBlank_6 rfl (lv_at hl 0 rfl) ?_
      refine lv_bipush hx hb dX9_isBlank_7 kb_32 ?_
      refine lv_icmp_ne (tgt := 16) hx hb dX9_isBlank_9 (by decide) (fun c4 => ?_) (fun c4 => ?_)
      · refine lv_iconst hx hb dX9_isBlank_16 ki_0 ?_
        exact j_v1 0 ((if_neg c3).trans (if_neg c4)).symm ls (lv_sub hl [] rfl)
      · refine lv_iconst hx hb dX9_isBlank_12 ki_1 ?_
        refine lv_goto (tgt := 17) hx hb dX9_isBlank_13 (by decide) ?_
        exact j_v1 1 ((if_neg c3).trans (if_pos c4)).symm ls (lv_sub hl [] rfl)
  exact main _ _ _ hP hS hl

set_option maxHeartbeats 4000000 in
set_option maxRecDepth 100000 in
theorem ctX9_isLetter (l : Launch) {a0 : Int32} {σ : FH} {v : Int32} (hf : fX9_isLetter a0 σ = some v) : fx_Mi l yX9_isLetter cX9_isLetter 1 (some .boolean) (0) LX (fun ad ec => [.int a0]) σ v σ := by
  unfold fX9_isLetter at hf
  refine fx_mi' (own := RX9) rfl (by decide +kernel) ?_
  intro p e s m args below meth c D cy ad ec A hC hr hk hP hS
  have hx := hC.1
  have hb := hC.2.1
  have hl := lv_entry ([.int a0]) (n := 1) (Nat.le_of_ble_eq_true rfl)
  show W _ _ _ _ _ _ _ _ _ _ _ _ _ _ _ (entryFrame m ([.int a0] : List Value).toArray 1)
  rw [lg_entry_eq]
  generalize (lg_sl ([.int a0]) ++ List.replicate (1 - (lg_sl ([.int a0])).length) Slot.unset).toArray = ls at hl ⊢
  have hl : lv_has ls 1 [(0, .int a0)] := hl
  have main : ∀ (H : Heap) (locs : List Loc) (ls : Array Slot), fx_P D cy LX ad σ H → va_S A s.heap H locs → lv_has ls 1 [(0, .int a0)] → W p l e (fx_R (0)) s m args below meth c H locs 0 0 (fx_Qi D cy LX ad A below args s v σ) (F0 m 0 ls []) := by
    intro H locs ls hP hS hl
    refine lv_iload_n hx hb dX9_isLetter_0 rfl (lv_at hl 0 rfl) ?_
    refine lv_bipush hx hb dX9_isLetter_1 kb_97 ?_
    obtain ⟨v1, ev1, hf⟩ := fxL_e hf
    have j_v1 : ∀ (z2 : Int32), z2 = ((if a0 < 97 then 0 else (if 122 < a0 then 0 else 1)) : Int32) → ∀ (ls : Array Slot), lv_has ls 1 [] → W p l e (fx_R (0)) s m args below meth c H locs 0 0 (fx_Qi D cy LX ad A below args s v σ) (F0 m 17 ls [.int z2]) := by
      intro z2 hz2 ls hl
      obtain rfl : v1 = z2 := ev1.trans hz2.symm
      obtain ⟨h5, hf⟩ := fxG_e hf
      exact fx_zretp (fx_bon h5) hf hC hr hk hP hS dX9_isLetter_17
    refine lv_icmp_lt (tgt := 16) hx hb dX9_isLetter_3 (by decide) (fun c3 => ?_) (fun c3 => ?_)
    · refine lv_iconst hx hb dX9_isLetter_16 ki_0 ?_
      exact j_v1 0 (if_pos c3).symm ls (lv_sub hl [] rfl)
    · refine lv_iload_n hx hb dX9_isLetter_6 rfl (lv_at hl 0 rfl) ?_
      refine lv_bipush hx hb dX9_isLetter_7 kb_122 ?_
      refine lv_icmp_gt (tgt := 16) hx hb dX9_isLetter_9 (by decide) (fun c4 => ?_) (fun c4 => ?_)
      · refine lv_iconst hx hb dX9_isLetter_16 ki_0 ?_
        exact j_v1 0 ((if_neg c3).trans (if_pos c4)).symm ls (lv_sub hl [] rfl)
      · refine lv_iconst hx hb dX9_isLetter_12 ki_1 ?_
        refine lv_goto (tgt := 17) hx hb dX9_isLetter_13 (by decide) ?_
        exact j_v1 1 ((if_neg c3).trans (if_neg c4)).symm ls (lv_sub hl [] rfl)
  exact main _ _ _ hP hS hl

set_option maxHeartbeats 4000000 in
set_option maxRecDepth 100000 in
theorem ctX10_withLetter (l : Launch) {a0 : Int64} {a2 : Int32} {σ : FH} {v : Int64} (hf : fX10_withLetter a0 a2 σ = some v) : fx_Ml l yX10_withLetter cX10_withLetter 3 (some .long) (0) LX (fun ad ec => [.long a0, .int a2]) σ v σ := by
  unfold fX10_withLetter at hf
  refine fx_ml' (own := RX10) rfl (by decide +kernel) ?_
  intro p e s m args below meth c D cy ad ec A hC hr hk hP hS
  have hx := hC.1
  have hb := hC.2.1
  have hl := lv_entry ([.long a0, .int a2]) (n := 3) (Nat.le_of_ble_eq_true rfl)
  show W _ _ _ _ _ _ _ _ _ _ _ _ _ _ _ (entryFrame m ([.long a0, .int a2] : List Value).toArray 3)
  rw [lg_entry_eq]
  generalize (lg_sl ([.long a0, .int a2]) ++ List.replicate (3 - (lg_sl ([.long a0, .int a2])).length) Slot.unset).toArray = ls at hl ⊢
  have hl : lv_has ls 3 [(0, .long a0), (2, .int a2)] := hl
  have main : ∀ (H : Heap) (locs : List Loc) (ls : Array Slot), fx_P D cy LX ad σ H → va_S A s.heap H locs → lv_has ls 3 [(0, .long a0), (2, .int a2)] → W p l e (fx_R (0)) s m args below meth c H locs 0 0 (fx_Ql D cy LX ad A below args s v σ) (F0 m 0 ls []) := by
    intro H locs ls hP hS hl
    refine lv_lload_n hx hb dX10_withLetter_0 rfl (lv_at hl 0 rfl) ?_
    refine lv_ldc2 (own := RX10) (v := 32) hx hb hC.2.2.2.1 (hC.2.2.2.2.1 _ kK_X10_117) dX10_withLetter_1 ?_
    refine lv_lmul hx hb dX10_withLetter_4 ?_
    refine lv_iload_n hx hb dX10_withLetter_5 rfl (lv_at hl 1 rfl) ?_
    refine lv_bipush hx hb dX10_withLetter_6 kb_97 ?_
    refine lv_isub hx hb dX10_withLetter_8 ?_
    refine lv_iconst hx hb dX10_withLetter_9 ki_1 ?_
    refine lv_iadd hx hb dX10_withLetter_10 ?_
    refine lv_i2l (v := (Int32.toInt64 ((a2 - 97) + 1))) hx hb dX10_withLetter_11 rfl ?_
    refine lv_ladd hx hb dX10_withLetter_12 ?_
    exact fx_lretp hf hC hr hk hP hS dX10_withLetter_13
  exact main _ _ _ hP hS hl

set_option maxHeartbeats 4000000 in
set_option maxRecDepth 100000 in
theorem ctX9_readWord (l : Launch) {σ σ' : FH} (hf : fX9_readWord σ = some σ') : fx_Mv l yX9_readWord cX9_readWord 1 none (1) LX (fun ad ec => [.ref (ad 3)]) σ σ' := by
  unfold fX9_readWord at hf
  refine fx_mv' (own := RX9) rfl (by decide +kernel) ?_
  intro p e s m args below meth c D cy ad ec A hC hr hk hP hS
  have hx := hC.1
  have hb := hC.2.1
  have hl := lv_entry ([.ref (ad 3)]) (n := 1) (Nat.le_of_ble_eq_true rfl)
  show W _ _ _ _ _ _ _ _ _ _ _ _ _ _ _ (entryFrame m ([.ref (ad 3)] : List Value).toArray 1)
  rw [lg_entry_eq]
  generalize (lg_sl ([.ref (ad 3)]) ++ List.replicate (1 - (lg_sl ([.ref (ad 3)])).length) Slot.unset).toArray = ls at hl ⊢
  have hl : lv_has ls 1 [(0, .ref (ad 3))] := hl
  have main : ∀ (H : Heap) (locs : List Loc) (ls : Array Slot), fx_P D cy LX ad σ H → va_S A s.heap H locs → lv_has ls 1 [(0, .ref (ad 3))] → W p l e (fx_R (1)) s m args below meth c H locs 0 0 (fx_Qv D cy LX ad A below args s σ') (F0 m 0 ls []) := by
    intro H locs ls hP hS hl
    refine lv_aload_n hx hb dX9_readWord_0 rfl (lv_at hl 0 rfl) ?_
    refine lv_lconst (v := 0) hx hb dX9_readWord_1 rfl ?_
    obtain ⟨σ1, eσ1, hf⟩ := fxL_e hf
    refine pf_X9_59 hC hP hS kX_3 dX9_readWord_2 (fun H locs hP hS => ?_)
    replace hP := fx_Pe eσ1 hP
    refine lv_aload_n hx hb dX9_readWord_5 rfl (lv_at hl 0 rfl) ?_
    refine lv_aload_n hx hb dX9_readWord_6 rfl (lv_at hl 0 rfl) ?_
    refine gf_X9_34 (v := .int (σ1.1 3 2)) hC hP kX_3 rfl dX9_readWord_7 ?_
    obtain ⟨σ2, eσ2, hf⟩ := fxL_e hf
    refine pf_X9_28 hC hP hS kX_3 dX9_readWord_10 (fun H locs hP hS => ?_)
    replace hP := fx_Pe eσ2 hP
    obtain ⟨K3, hK3, hf⟩ := fxL_e hf
    have k_K3 : ∀ (σ4 : FH) (H : Heap) (locs : List Loc) (ls : Array Slot), fx_P D cy LX ad σ4 H → va_S A s.heap H locs → lv_has ls 1 [(0, .ref (ad 3))] → K3 σ4 = some σ' → W p l e (fx_R (1)) s m args below meth c H locs 0 0 (fx_Qv D cy LX ad A below args s σ') (F0 m 72 ls []) := by
      intro σ4 H locs ls hP hS hl hf
      replace hf := fxk1 hK3 hf
      refine lv_aload_n hx hb dX9_readWord_72 rfl (lv_at hl 0 rfl) ?_
      refine lv_aload_n hx hb dX9_readWord_73 rfl (lv_at hl 0 rfl) ?_
      refine gf_X9_28 (v := .int (σ4.1 3 3)) hC hP kX_3 rfl dX9_readWord_74 ?_
      refine lv_aload_n hx hb dX9_readWord_77 rfl (lv_at hl 0 rfl) ?_
      refine gf_X9_34 (v := .int (σ4.1 3 2)) hC hP kX_3 rfl dX9_readWord_78 ?_
      refine lv_isub hx hb dX9_readWord_81 ?_
      refine lv_bipush hx hb dX9_readWord_82 kb_8 ?_
      obtain ⟨v5, ev5, hf⟩ := fxL_e hf
      have j_v5 : ∀ (z6 : Int32), z6 = ((if 8 < ((σ4.1 3 3) - (σ4.1 3 2)) then 0 else 3) : Int32) → ∀ (ls : Array Slot), lv_has ls 1 [] → W p l e (fx_R (1)) s m args below meth c H locs 0 0 (fx_Qv D cy LX ad A below args s σ') (F0 m 92 ls [.int z6, .ref (ad 3)]) := by
        intro z6 hz6 ls hl
        obtain rfl : v5 = z6 := ev5.trans hz6.symm
        obtain ⟨σ8, eσ8, hf⟩ := fxL_e hf
        refine pf_X9_41 hC hP hS kX_3 dX9_readWord_92 (fun H locs hP hS => ?_)
        replace hP := fx_Pe eσ8 hP
        exact fx_vretf hf hC hr hk hP hS dX9_readWord_95
      refine lv_icmp_gt (tgt := 91) hx hb dX9_readWord_84 (by decide) (fun c7 => ?_) (fun c7 => ?_)
      · refine lv_iconst hx hb dX9_readWord_91 ki_0 ?_
        exact j_v5 0 (if_pos c7).symm ls (lv_sub hl [] rfl)
      · refine lv_iconst hx hb dX9_readWord_87 ki_3 ?_
        refine lv_goto (tgt := 92) hx hb dX9_readWord_88 (by decide) ?_
        exact j_v5 3 (if_neg c7).symm ls (lv_sub hl [] rfl)
    have L24 : ∀ (n11 : Nat) (σ9 : FH) (H : Heap) (locs : List Loc) (ls : Array Slot), fx_P D cy LX ad σ9 H → va_S A s.heap H locs → lv_has ls 1 [(0, .ref (ad 3))] → fX9_readWord_13 K3 n11 σ9 = some σ' → W p l e (fx_R (1)) s m args below meth c H locs 0 0 (fx_Qv D cy LX ad A below args s σ') (F0 m 13 ls []) := by
      intro n11
      induction n11 with
      | zero =>
        intro σ9 H locs ls hP hS hl hf
        rw [fX9_readWord_13] at hf
        cases hf
      | succ n11 ih10 =>
        intro σ9 H locs ls hP hS hl hf
        rw [fX9_readWord_13] at hf
        refine lv_aload_n hx hb dX9_readWord_13 rfl (lv_at hl 0 rfl) ?_
        refine gf_X9_28 (v := .int (σ9.1 3 3)) hC hP kX_3 rfl dX9_readWord_14 ?_
        refine lv_aload_n hx hb dX9_readWord_17 rfl (lv_at hl 0 rfl) ?_
        refine gf_X9_21 (v := .int (σ9.1 3 1)) hC hP kX_3 rfl dX9_readWord_18 ?_
        refine lv_icmp_ge (tgt := 72) hx hb dX9_readWord_21 (by decide) (fun c12 => ?_) (fun c12 => ?_)
        · replace hf := fx_it c12 hf
          exact k_K3 σ9 _ _ _ hP hS (lv_sub hl [0] rfl) hf
        · replace hf := fx_ie c12 hf
          refine lv_aload_n hx hb dX9_readWord_24 rfl (lv_at hl 0 rfl) ?_
          refine gf_X9_9 (v := .ref (ad 4)) hC hP kX_3 rfl dX9_readWord_25 ?_
          refine lv_aload_n hx hb dX9_readWord_28 rfl (lv_at hl 0 rfl) ?_
          refine gf_X9_28 (v := .int (σ9.1 3 3)) hC hP kX_3 rfl dX9_readWord_29 ?_
          obtain ⟨h13, hf⟩ := fxG_e hf
          refine fx_cald hC hP kX_4 (fx_inp h13) dX9_readWord_32 ?_
          obtain ⟨r15, hc14, hf⟩ := fxBP_e hf
          refine fx_ci hC hS (fx_runS (As := [.int (σ9.1 4 (Int32.toNatClampNeg (σ9.1 3 3)))]) (rest := []) hC hP hS (ctX9_isLetter l hc14 D cy ad ec _) kMS_X9_44 kC_X9_isLetter hd_X9_isLetter.2 rfl ⟨(Nat.le_of_ble_eq_true rfl), (Nat.le_of_ble_eq_true rfl)⟩ ⟨Nat.le_refl 0, Nat.le_refl 0⟩ hl.1 (Nat.le_of_ble_eq_true rfl) rfl dX9_readWord_33) (fun H locs hP hS => ?_)
          refine lv_if_eq (tgt := 72) hx hb dX9_readWord_36 (by decide) (fun c17 => ?_) (fun c17 => ?_)
          · replace hf := fx_it c17 hf
            exact k_K3 σ9 _ _ _ hP hS (lv_sub hl [0] rfl) hf
          · replace hf := fx_ie c17 hf
            refine lv_aload_n hx hb dX9_readWord_39 rfl (lv_at hl 0 rfl) ?_
            refine lv_aload_n hx hb dX9_readWord_40 rfl (lv_at hl 0 rfl) ?_
            refine gf_X9_59 (v := .long (σ9.2.1 3 7)) hC hP kX_3 rfl dX9_readWord_41 ?_
            refine lv_aload_n hx hb dX9_readWord_44 rfl (lv_at hl 0 rfl) ?_
            refine gf_X9_9 (v := .ref (ad 4)) hC hP kX_3 rfl dX9_readWord_45 ?_
            refine lv_aload_n hx hb dX9_readWord_48 rfl (lv_at hl 0 rfl) ?_
            refine gf_X9_28 (v := .int (σ9.1 3 3)) hC hP kX_3 rfl dX9_readWord_49 ?_
            obtain ⟨h18, hf⟩ := fxG_e hf
            refine fx_cald hC hP kX_4 (fx_inp h18) dX9_readWord_52 ?_
            obtain ⟨r20, hc19, hf⟩ := fxBP_e hf
            refine fx_cl hC hS (fx_runS (As := [.long (σ9.2.1 3 7), .int (σ9.1 4 (Int32.toNatClampNeg (σ9.1 3 3)))]) (rest := [.ref (ad 3)]) hC hP hS (ctX10_withLetter l hc19 D cy ad ec _) kMS_X9_63 kC_X10_withLetter hd_X10_withLetter.2 rfl ⟨(Nat.le_of_ble_eq_true rfl), (Nat.le_of_ble_eq_true rfl)⟩ ⟨Nat.le_refl 0, Nat.le_refl 0⟩ hl.1 (Nat.le_of_ble_eq_true rfl) rfl dX9_readWord_53) (fun H locs hP hS => ?_)
            obtain ⟨σ22, eσ22, hf⟩ := fxL_e hf
            refine pf_X9_59 hC hP hS kX_3 dX9_readWord_56 (fun H locs hP hS => ?_)
            replace hP := fx_Pe eσ22 hP
            refine lv_aload_n hx hb dX9_readWord_59 rfl (lv_at hl 0 rfl) ?_
            refine lv_dup hx hb dX9_readWord_60 rfl ?_
            refine gf_X9_28 (v := .int (σ22.1 3 3)) hC hP kX_3 rfl dX9_readWord_61 ?_
            refine lv_iconst hx hb dX9_readWord_64 ki_1 ?_
            refine lv_iadd hx hb dX9_readWord_65 ?_
            obtain ⟨σ23, eσ23, hf⟩ := fxL_e hf
            refine pf_X9_28 hC hP hS kX_3 dX9_readWord_66 (fun H locs hP hS => ?_)
            replace hP := fx_Pe eσ23 hP
            refine lv_goto (tgt := 13) hx hb dX9_readWord_69 (by decide) ?_
            exact ih10 σ23 _ _ _ hP hS (lv_sub hl [0] rfl) hf
    exact L24 FU σ2 _ _ _ hP hS (lv_sub hl [0] rfl) hf
  exact main _ _ _ hP hS hl

set_option maxHeartbeats 4000000 in
set_option maxRecDepth 100000 in
theorem ctX9_isDigit (l : Launch) {a0 : Int32} {σ : FH} {v : Int32} (hf : fX9_isDigit a0 σ = some v) : fx_Mi l yX9_isDigit cX9_isDigit 1 (some .boolean) (0) LX (fun ad ec => [.int a0]) σ v σ := by
  unfold fX9_isDigit at hf
  refine fx_mi' (own := RX9) rfl (by decide +kernel) ?_
  intro p e s m args below meth c D cy ad ec A hC hr hk hP hS
  have hx := hC.1
  have hb := hC.2.1
  have hl := lv_entry ([.int a0]) (n := 1) (Nat.le_of_ble_eq_true rfl)
  show W _ _ _ _ _ _ _ _ _ _ _ _ _ _ _ (entryFrame m ([.int a0] : List Value).toArray 1)
  rw [lg_entry_eq]
  generalize (lg_sl ([.int a0]) ++ List.replicate (1 - (lg_sl ([.int a0])).length) Slot.unset).toArray = ls at hl ⊢
  have hl : lv_has ls 1 [(0, .int a0)] := hl
  have main : ∀ (H : Heap) (locs : List Loc) (ls : Array Slot), fx_P D cy LX ad σ H → va_S A s.heap H locs → lv_has ls 1 [(0, .int a0)] → W p l e (fx_R (0)) s m args below meth c H locs 0 0 (fx_Qi D cy LX ad A below args s v σ) (F0 m 0 ls []) := by
    intro H locs ls hP hS hl
    refine lv_iload_n hx hb dX9_isDigit_0 rfl (lv_at hl 0 rfl) ?_
    refine lv_bipush hx hb dX9_isDigit_1 kb_48 ?_
    obtain ⟨v1, ev1, hf⟩ := fxL_e hf
    have j_v1 : ∀ (z2 : Int32), z2 = ((if a0 < 48 then 0 else (if 57 < a0 then 0 else 1)) : Int32) → ∀ (ls : Array Slot), lv_has ls 1 [] → W p l e (fx_R (0)) s m args below meth c H locs 0 0 (fx_Qi D cy LX ad A below args s v σ) (F0 m 17 ls [.int z2]) := by
      intro z2 hz2 ls hl
      obtain rfl : v1 = z2 := ev1.trans hz2.symm
      obtain ⟨h5, hf⟩ := fxG_e hf
      exact fx_zretp (fx_bon h5) hf hC hr hk hP hS dX9_isDigit_17
    refine lv_icmp_lt (tgt := 16) hx hb dX9_isDigit_3 (by decide) (fun c3 => ?_) (fun c3 => ?_)
    · refine lv_iconst hx hb dX9_isDigit_16 ki_0 ?_
      exact j_v1 0 (if_pos c3).symm ls (lv_sub hl [] rfl)
    · refine lv_iload_n hx hb dX9_isDigit_6 rfl (lv_at hl 0 rfl) ?_
      refine lv_bipush hx hb dX9_isDigit_7 kb_57 ?_
      refine lv_icmp_gt (tgt := 16) hx hb dX9_isDigit_9 (by decide) (fun c4 => ?_) (fun c4 => ?_)
      · refine lv_iconst hx hb dX9_isDigit_16 ki_0 ?_
        exact j_v1 0 ((if_neg c3).trans (if_pos c4)).symm ls (lv_sub hl [] rfl)
      · refine lv_iconst hx hb dX9_isDigit_12 ki_1 ?_
        refine lv_goto (tgt := 17) hx hb dX9_isDigit_13 (by decide) ?_
        exact j_v1 1 ((if_neg c3).trans (if_neg c4)).symm ls (lv_sub hl [] rfl)
  exact main _ _ _ hP hS hl

set_option maxHeartbeats 4000000 in
set_option maxRecDepth 100000 in
theorem ctX9_readNumber (l : Launch) {σ σ' : FH} (hf : fX9_readNumber σ = some σ') : fx_Mv l yX9_readNumber cX9_readNumber 1 none (1) LX (fun ad ec => [.ref (ad 3)]) σ σ' := by
  unfold fX9_readNumber at hf
  refine fx_mv' (own := RX9) rfl (by decide +kernel) ?_
  intro p e s m args below meth c D cy ad ec A hC hr hk hP hS
  have hx := hC.1
  have hb := hC.2.1
  have hl := lv_entry ([.ref (ad 3)]) (n := 1) (Nat.le_of_ble_eq_true rfl)
  show W _ _ _ _ _ _ _ _ _ _ _ _ _ _ _ (entryFrame m ([.ref (ad 3)] : List Value).toArray 1)
  rw [lg_entry_eq]
  generalize (lg_sl ([.ref (ad 3)]) ++ List.replicate (1 - (lg_sl ([.ref (ad 3)])).length) Slot.unset).toArray = ls at hl ⊢
  have hl : lv_has ls 1 [(0, .ref (ad 3))] := hl
  have main : ∀ (H : Heap) (locs : List Loc) (ls : Array Slot), fx_P D cy LX ad σ H → va_S A s.heap H locs → lv_has ls 1 [(0, .ref (ad 3))] → W p l e (fx_R (1)) s m args below meth c H locs 0 0 (fx_Qv D cy LX ad A below args s σ') (F0 m 0 ls []) := by
    intro H locs ls hP hS hl
    refine lv_aload_n hx hb dX9_readNumber_0 rfl (lv_at hl 0 rfl) ?_
    refine lv_iconst hx hb dX9_readNumber_1 ki_0 ?_
    obtain ⟨σ1, eσ1, hf⟩ := fxL_e hf
    refine pf_X9_69 hC hP hS kX_3 dX9_readNumber_2 (fun H locs hP hS => ?_)
    replace hP := fx_Pe eσ1 hP
    refine lv_aload_n hx hb dX9_readNumber_5 rfl (lv_at hl 0 rfl) ?_
    refine lv_aload_n hx hb dX9_readNumber_6 rfl (lv_at hl 0 rfl) ?_
    refine gf_X9_34 (v := .int (σ1.1 3 2)) hC hP kX_3 rfl dX9_readNumber_7 ?_
    obtain ⟨σ2, eσ2, hf⟩ := fxL_e hf
    refine pf_X9_28 hC hP hS kX_3 dX9_readNumber_10 (fun H locs hP hS => ?_)
    replace hP := fx_Pe eσ2 hP
    obtain ⟨K3, hK3, hf⟩ := fxL_e hf
    have k_K3 : ∀ (σ4 : FH) (H : Heap) (locs : List Loc) (ls : Array Slot), fx_P D cy LX ad σ4 H → va_S A s.heap H locs → lv_has ls 1 [(0, .ref (ad 3))] → K3 σ4 = some σ' → W p l e (fx_R (1)) s m args below meth c H locs 0 0 (fx_Qv D cy LX ad A below args s σ') (F0 m 76 ls []) := by
      intro σ4 H locs ls hP hS hl hf
      replace hf := fxk1 hK3 hf
      refine lv_aload_n hx hb dX9_readNumber_76 rfl (lv_at hl 0 rfl) ?_
      refine lv_aload_n hx hb dX9_readNumber_77 rfl (lv_at hl 0 rfl) ?_
      refine gf_X9_28 (v := .int (σ4.1 3 3)) hC hP kX_3 rfl dX9_readNumber_78 ?_
      refine lv_aload_n hx hb dX9_readNumber_81 rfl (lv_at hl 0 rfl) ?_
      refine gf_X9_34 (v := .int (σ4.1 3 2)) hC hP kX_3 rfl dX9_readNumber_82 ?_
      refine lv_isub hx hb dX9_readNumber_85 ?_
      refine lv_iconst hx hb dX9_readNumber_86 ki_4 ?_
      obtain ⟨v5, ev5, hf⟩ := fxL_e hf
      have j_v5 : ∀ (z6 : Int32), z6 = ((if 4 < ((σ4.1 3 3) - (σ4.1 3 2)) then 0 else 2) : Int32) → ∀ (ls : Array Slot), lv_has ls 1 [] → W p l e (fx_R (1)) s m args below meth c H locs 0 0 (fx_Qv D cy LX ad A below args s σ') (F0 m 95 ls [.int z6, .ref (ad 3)]) := by
        intro z6 hz6 ls hl
        obtain rfl : v5 = z6 := ev5.trans hz6.symm
        obtain ⟨σ8, eσ8, hf⟩ := fxL_e hf
        refine pf_X9_41 hC hP hS kX_3 dX9_readNumber_95 (fun H locs hP hS => ?_)
        replace hP := fx_Pe eσ8 hP
        exact fx_vretf hf hC hr hk hP hS dX9_readNumber_98
      refine lv_icmp_gt (tgt := 94) hx hb dX9_readNumber_87 (by decide) (fun c7 => ?_) (fun c7 => ?_)
      · refine lv_iconst hx hb dX9_readNumber_94 ki_0 ?_
        exact j_v5 0 (if_pos c7).symm ls (lv_sub hl [] rfl)
      · refine lv_iconst hx hb dX9_readNumber_90 ki_2 ?_
        refine lv_goto (tgt := 95) hx hb dX9_readNumber_91 (by decide) ?_
        exact j_v5 2 (if_neg c7).symm ls (lv_sub hl [] rfl)
    have L21 : ∀ (n11 : Nat) (σ9 : FH) (H : Heap) (locs : List Loc) (ls : Array Slot), fx_P D cy LX ad σ9 H → va_S A s.heap H locs → lv_has ls 1 [(0, .ref (ad 3))] → fX9_readNumber_13 K3 n11 σ9 = some σ' → W p l e (fx_R (1)) s m args below meth c H locs 0 0 (fx_Qv D cy LX ad A below args s σ') (F0 m 13 ls []) := by
      intro n11
      induction n11 with
      | zero =>
        intro σ9 H locs ls hP hS hl hf
        rw [fX9_readNumber_13] at hf
        cases hf
      | succ n11 ih10 =>
        intro σ9 H locs ls hP hS hl hf
        rw [fX9_readNumber_13] at hf
        refine lv_aload_n hx hb dX9_readNumber_13 rfl (lv_at hl 0 rfl) ?_
        refine gf_X9_28 (v := .int (σ9.1 3 3)) hC hP kX_3 rfl dX9_readNumber_14 ?_
        refine lv_aload_n hx hb dX9_readNumber_17 rfl (lv_at hl 0 rfl) ?_
        refine gf_X9_21 (v := .int (σ9.1 3 1)) hC hP kX_3 rfl dX9_readNumber_18 ?_
        refine lv_icmp_ge (tgt := 76) hx hb dX9_readNumber_21 (by decide) (fun c12 => ?_) (fun c12 => ?_)
        · replace hf := fx_it c12 hf
          exact k_K3 σ9 _ _ _ hP hS (lv_sub hl [0] rfl) hf
        · replace hf := fx_ie c12 hf
          refine lv_aload_n hx hb dX9_readNumber_24 rfl (lv_at hl 0 rfl) ?_
          refine gf_X9_9 (v := .ref (ad 4)) hC hP kX_3 rfl dX9_readNumber_25 ?_
          refine lv_aload_n hx hb dX9_readNumber_28 rfl (lv_at hl 0 rfl) ?_
          refine gf_X9_28 (v := .int (σ9.1 3 3)) hC hP kX_3 rfl dX9_readNumber_29 ?_
          obtain ⟨h13, hf⟩ := fxG_e hf
          refine fx_cald hC hP kX_4 (fx_inp h13) dX9_readNumber_32 ?_
          obtain ⟨r15, hc14, hf⟩ := fxBP_e hf
          refine fx_ci hC hS (fx_runS (As := [.int (σ9.1 4 (Int32.toNatClampNeg (σ9.1 3 3)))]) (rest := []) hC hP hS (ctX9_isDigit l hc14 D cy ad ec _) kMS_X9_50 kC_X9_isDigit hd_X9_isDigit.2 rfl ⟨(Nat.le_of_ble_eq_true rfl), (Nat.le_of_ble_eq_true rfl)⟩ ⟨Nat.le_refl 0, Nat.le_refl 0⟩ hl.1 (Nat.le_of_ble_eq_true rfl) rfl dX9_readNumber_33) (fun H locs hP hS => ?_)
          refine lv_if_eq (tgt := 76) hx hb dX9_readNumber_36 (by decide) (fun c17 => ?_) (fun c17 => ?_)
          · replace hf := fx_it c17 hf
            exact k_K3 σ9 _ _ _ hP hS (lv_sub hl [0] rfl) hf
          · replace hf := fx_ie c17 hf
            refine lv_aload_n hx hb dX9_readNumber_39 rfl (lv_at hl 0 rfl) ?_
            refine lv_aload_n hx hb dX9_readNumber_40 rfl (lv_at hl 0 rfl) ?_
            refine gf_X9_69 (v := .int (σ9.1 3 5)) hC hP kX_3 rfl dX9_readNumber_41 ?_
            refine lv_bipush hx hb dX9_readNumber_44 kb_10 ?_
            refine lv_imul hx hb dX9_readNumber_46 ?_
            refine lv_aload_n hx hb dX9_readNumber_47 rfl (lv_at hl 0 rfl) ?_
            refine gf_X9_9 (v := .ref (ad 4)) hC hP kX_3 rfl dX9_readNumber_48 ?_
            refine lv_aload_n hx hb dX9_readNumber_51 rfl (lv_at hl 0 rfl) ?_
            refine gf_X9_28 (v := .int (σ9.1 3 3)) hC hP kX_3 rfl dX9_readNumber_52 ?_
            obtain ⟨h18, hf⟩ := fxG_e hf
            refine fx_cald hC hP kX_4 (fx_inp h18) dX9_readNumber_55 ?_
            refine lv_bipush hx hb dX9_readNumber_56 kb_48 ?_
            refine lv_isub hx hb dX9_readNumber_58 ?_
            refine lv_iadd hx hb dX9_readNumber_59 ?_
            obtain ⟨σ19, eσ19, hf⟩ := fxL_e hf
            refine pf_X9_69 hC hP hS kX_3 dX9_readNumber_60 (fun H locs hP hS => ?_)
            replace hP := fx_Pe eσ19 hP
            refine lv_aload_n hx hb dX9_readNumber_63 rfl (lv_at hl 0 rfl) ?_
            refine lv_dup hx hb dX9_readNumber_64 rfl ?_
            refine gf_X9_28 (v := .int (σ19.1 3 3)) hC hP kX_3 rfl dX9_readNumber_65 ?_
            refine lv_iconst hx hb dX9_readNumber_68 ki_1 ?_
            refine lv_iadd hx hb dX9_readNumber_69 ?_
            obtain ⟨σ20, eσ20, hf⟩ := fxL_e hf
            refine pf_X9_28 hC hP hS kX_3 dX9_readNumber_70 (fun H locs hP hS => ?_)
            replace hP := fx_Pe eσ20 hP
            refine lv_goto (tgt := 13) hx hb dX9_readNumber_73 (by decide) ?_
            exact ih10 σ20 _ _ _ hP hS (lv_sub hl [0] rfl) hf
    exact L21 FU σ2 _ _ _ hP hS (lv_sub hl [0] rfl) hf
  exact main _ _ _ hP hS hl

set_option maxHeartbeats 4000000 in
set_option maxRecDepth 100000 in
theorem ctX9_readSign (l : Launch) {σ σ' : FH} (hf : fX9_readSign σ = some σ') : fx_Mv l yX9_readSign cX9_readSign 1 none (4) LX (fun ad ec => [.ref (ad 3)]) σ σ' := by
  unfold fX9_readSign at hf
  refine fx_mv' (own := RX9) rfl (by decide +kernel) ?_
  intro p e s m args below meth c D cy ad ec A hC hr hk hP hS
  have hx := hC.1
  have hb := hC.2.1
  have hl := lv_entry ([.ref (ad 3)]) (n := 1) (Nat.le_of_ble_eq_true rfl)
  show W _ _ _ _ _ _ _ _ _ _ _ _ _ _ _ (entryFrame m ([.ref (ad 3)] : List Value).toArray 1)
  rw [lg_entry_eq]
  generalize (lg_sl ([.ref (ad 3)]) ++ List.replicate (1 - (lg_sl ([.ref (ad 3)])).length) Slot.unset).toArray = ls at hl ⊢
  have hl : lv_has ls 1 [(0, .ref (ad 3))] := hl
  have main : ∀ (H : Heap) (locs : List Loc) (ls : Array Slot), fx_P D cy LX ad σ H → va_S A s.heap H locs → lv_has ls 1 [(0, .ref (ad 3))] → W p l e (fx_R (4)) s m args below meth c H locs 0 0 (fx_Qv D cy LX ad A below args s σ') (F0 m 0 ls []) := by
    intro H locs ls hP hS hl
    refine lv_aload_n hx hb dX9_readSign_0 rfl (lv_at hl 0 rfl) ?_
    refine lv_aload_n hx hb dX9_readSign_1 rfl (lv_at hl 0 rfl) ?_
    refine gf_X9_9 (v := .ref (ad 4)) hC hP kX_3 rfl dX9_readSign_2 ?_
    refine lv_aload_n hx hb dX9_readSign_5 rfl (lv_at hl 0 rfl) ?_
    refine gf_X9_34 (v := .int (σ.1 3 2)) hC hP kX_3 rfl dX9_readSign_6 ?_
    obtain ⟨h1, hf⟩ := fxG_e hf
    refine fx_cald hC hP kX_4 (fx_inp h1) dX9_readSign_9 ?_
    obtain ⟨h3, hf⟩ := fxG_e hf
    obtain ⟨σ2, eσ2, hf⟩ := fxL_e hf
    refine pf_X9_72 hC hP hS kX_3 (fx_chn h3).1 (fx_chn h3).2 dX9_readSign_10 (fun H locs hP hS => ?_)
    replace hP := fx_Pe eσ2 hP
    refine lv_aload_n hx hb dX9_readSign_13 rfl (lv_at hl 0 rfl) ?_
    refine fx_lds hC dX9_readSign_14 ?_
    refine lv_aload_n hx hb dX9_readSign_16 rfl (lv_at hl 0 rfl) ?_
    refine gf_X9_72 (v := .int (σ2.1 3 6)) hC hP kX_3 rfl dX9_readSign_17 ?_
    obtain ⟨r5, hc4, hf⟩ := fxBP_e hf
    refine fx_ci hC hS (fx_runVS (As := [.int (σ2.1 3 6)]) (rest := [.ref (ad 3)]) hC hP hS (ctJ0_indexOf_0f7a4 l hc4 D cy ad ec _) kMV_X9_78 kC_J0_indexOf_0f7a4 hd_J0_indexOf_0f7a4 rfl ⟨(Nat.le_of_ble_eq_true rfl), (Nat.le_of_ble_eq_true rfl)⟩ ⟨Nat.le_refl 0, Nat.le_refl 0⟩ hl.1 (Nat.le_of_ble_eq_true rfl) rfl dX9_readSign_20) (fun H locs hP hS => ?_)
    obtain ⟨v7, ev7, hf⟩ := fxL_e hf
    have j_v7 : ∀ (z8 : Int32), z8 = ((if r5 < 0 then 0 else 4) : Int32) → ∀ (ls : Array Slot), lv_has ls 1 [] → W p l e (fx_R (4)) s m args below meth c H locs 0 0 (fx_Qv D cy LX ad A below args s σ') (F0 m 31 ls [.int z8, .ref (ad 3)]) := by
      intro z8 hz8 ls hl
      obtain rfl : v7 = z8 := ev7.trans hz8.symm
      obtain ⟨σ10, eσ10, hf⟩ := fxL_e hf
      refine pf_X9_41 hC hP hS kX_3 dX9_readSign_31 (fun H locs hP hS => ?_)
      replace hP := fx_Pe eσ10 hP
      exact fx_vretf hf hC hr hk hP hS dX9_readSign_34
    refine lv_if_lt (tgt := 30) hx hb dX9_readSign_23 (by decide) (fun c9 => ?_) (fun c9 => ?_)
    · refine lv_iconst hx hb dX9_readSign_30 ki_0 ?_
      exact j_v7 0 (if_pos c9).symm ls (lv_sub hl [] rfl)
    · refine lv_iconst hx hb dX9_readSign_26 ki_4 ?_
      refine lv_goto (tgt := 31) hx hb dX9_readSign_27 (by decide) ?_
      exact j_v7 4 (if_neg c9).symm ls (lv_sub hl [] rfl)
  exact main _ _ _ hP hS hl

set_option maxHeartbeats 4000000 in
set_option maxRecDepth 100000 in
theorem ctX9_advance (l : Launch) {σ σ' : FH} (hf : fX9_advance σ = some σ') : fx_Mv l yX9_advance cX9_advance 1 none (5) LX (fun ad ec => [.ref (ad 3)]) σ σ' := by
  unfold fX9_advance at hf
  refine fx_mv' (own := RX9) rfl (by decide +kernel) ?_
  intro p e s m args below meth c D cy ad ec A hC hr hk hP hS
  have hx := hC.1
  have hb := hC.2.1
  have hl := lv_entry ([.ref (ad 3)]) (n := 1) (Nat.le_of_ble_eq_true rfl)
  show W _ _ _ _ _ _ _ _ _ _ _ _ _ _ _ (entryFrame m ([.ref (ad 3)] : List Value).toArray 1)
  rw [lg_entry_eq]
  generalize (lg_sl ([.ref (ad 3)]) ++ List.replicate (1 - (lg_sl ([.ref (ad 3)])).length) Slot.unset).toArray = ls at hl ⊢
  have hl : lv_has ls 1 [(0, .ref (ad 3))] := hl
  have main : ∀ (H : Heap) (locs : List Loc) (ls : Array Slot), fx_P D cy LX ad σ H → va_S A s.heap H locs → lv_has ls 1 [(0, .ref (ad 3))] → W p l e (fx_R (5)) s m args below meth c H locs 0 0 (fx_Qv D cy LX ad A below args s σ') (F0 m 0 ls []) := by
    intro H locs ls hP hS hl
    refine lv_aload_n hx hb dX9_advance_0 rfl (lv_at hl 0 rfl) ?_
    refine lv_aload_n hx hb dX9_advance_1 rfl (lv_at hl 0 rfl) ?_
    refine gf_X9_28 (v := .int (σ.1 3 3)) hC hP kX_3 rfl dX9_advance_2 ?_
    obtain ⟨σ1, eσ1, hf⟩ := fxL_e hf
    refine pf_X9_34 hC hP hS kX_3 dX9_advance_5 (fun H locs hP hS => ?_)
    replace hP := fx_Pe eσ1 hP
    obtain ⟨K2, hK2, hf⟩ := fxL_e hf
    have k_K2 : ∀ (σ3 : FH) (H : Heap) (locs : List Loc) (ls : Array Slot), fx_P D cy LX ad σ3 H → va_S A s.heap H locs → lv_has ls 1 [(0, .ref (ad 3))] → K2 σ3 = some σ' → W p l e (fx_R (5)) s m args below meth c H locs 0 0 (fx_Qv D cy LX ad A below args s σ') (F0 m 47 ls []) := by
      intro σ3 H locs ls hP hS hl hf
      replace hf := fxk1 hK2 hf
      refine lv_aload_n hx hb dX9_advance_47 rfl (lv_at hl 0 rfl) ?_
      refine lv_aload_n hx hb dX9_advance_48 rfl (lv_at hl 0 rfl) ?_
      refine gf_X9_34 (v := .int (σ3.1 3 2)) hC hP kX_3 rfl dX9_advance_49 ?_
      refine lv_iconst hx hb dX9_advance_52 ki_1 ?_
      refine lv_iadd hx hb dX9_advance_53 ?_
      obtain ⟨σ4, eσ4, hf⟩ := fxL_e hf
      refine pf_X9_28 hC hP hS kX_3 dX9_advance_54 (fun H locs hP hS => ?_)
      replace hP := fx_Pe eσ4 hP
      refine lv_aload_n hx hb dX9_advance_57 rfl (lv_at hl 0 rfl) ?_
      refine gf_X9_34 (v := .int (σ4.1 3 2)) hC hP kX_3 rfl dX9_advance_58 ?_
      refine lv_aload_n hx hb dX9_advance_61 rfl (lv_at hl 0 rfl) ?_
      refine gf_X9_21 (v := .int (σ4.1 3 1)) hC hP kX_3 rfl dX9_advance_62 ?_
      refine lv_icmp_lt (tgt := 84) hx hb dX9_advance_65 (by decide) (fun c5 => ?_) (fun c5 => ?_)
      · replace hf := fx_it c5 hf
        refine lv_aload_n hx hb dX9_advance_84 rfl (lv_at hl 0 rfl) ?_
        refine gf_X9_9 (v := .ref (ad 4)) hC hP kX_3 rfl dX9_advance_85 ?_
        refine lv_aload_n hx hb dX9_advance_88 rfl (lv_at hl 0 rfl) ?_
        refine gf_X9_34 (v := .int (σ4.1 3 2)) hC hP kX_3 rfl dX9_advance_89 ?_
        obtain ⟨h6, hf⟩ := fxG_e hf
        refine fx_cald hC hP kX_4 (fx_inp h6) dX9_advance_92 ?_
        obtain ⟨r8, hc7, hf⟩ := fxBP_e hf
        refine fx_ci hC hS (fx_runS (As := [.int (σ4.1 4 (Int32.toNatClampNeg (σ4.1 3 2)))]) (rest := []) hC hP hS (ctX9_isLetter l hc7 D cy ad ec _) kMS_X9_44 kC_X9_isLetter hd_X9_isLetter.2 rfl ⟨(Nat.le_of_ble_eq_true rfl), (Nat.le_of_ble_eq_true rfl)⟩ ⟨Nat.le_refl 0, Nat.le_refl 0⟩ hl.1 (Nat.le_of_ble_eq_true rfl) rfl dX9_advance_93) (fun H locs hP hS => ?_)
        refine lv_if_eq (tgt := 106) hx hb dX9_advance_96 (by decide) (fun c10 => ?_) (fun c10 => ?_)
        · replace hf := fx_it c10 hf
          refine lv_aload_n hx hb dX9_advance_106 rfl (lv_at hl 0 rfl) ?_
          refine gf_X9_9 (v := .ref (ad 4)) hC hP kX_3 rfl dX9_advance_107 ?_
          refine lv_aload_n hx hb dX9_advance_110 rfl (lv_at hl 0 rfl) ?_
          refine gf_X9_34 (v := .int (σ4.1 3 2)) hC hP kX_3 rfl dX9_advance_111 ?_
          obtain ⟨h11, hf⟩ := fxG_e hf
          refine fx_cald hC hP kX_4 (fx_inp h11) dX9_advance_114 ?_
          obtain ⟨r13, hc12, hf⟩ := fxBP_e hf
          refine fx_ci hC hS (fx_runS (As := [.int (σ4.1 4 (Int32.toNatClampNeg (σ4.1 3 2)))]) (rest := []) hC hP hS (ctX9_isDigit l hc12 D cy ad ec _) kMS_X9_50 kC_X9_isDigit hd_X9_isDigit.2 rfl ⟨(Nat.le_of_ble_eq_true rfl), (Nat.le_of_ble_eq_true rfl)⟩ ⟨Nat.le_refl 0, Nat.le_refl 0⟩ hl.1 (Nat.le_of_ble_eq_true rfl) rfl dX9_advance_115) (fun H locs hP hS => ?_)
          refine lv_if_eq (tgt := 128) hx hb dX9_advance_118 (by decide) (fun c15 => ?_) (fun c15 => ?_)
          · replace hf := fx_it c15 hf
            refine lv_aload_n hx hb dX9_advance_128 rfl (lv_at hl 0 rfl) ?_
            obtain ⟨σ18, hc16, hf⟩ := fxBV_e hf
            refine fx_cv hC hS (fx_runV (i := 3) (As := []) (rest := []) hC hP hS (ctX9_readSign l hc16 D cy ad ec _) kX_3 (by decide) rfl kMV_X9_56 kC_X9_readSign hd_X9_readSign rfl ⟨(Nat.le_of_ble_eq_true rfl), (Nat.le_of_ble_eq_true rfl)⟩ ⟨Nat.le_refl 0, Nat.le_refl 0⟩ hl.1 (Nat.le_of_ble_eq_true rfl) rfl dX9_advance_129) (fun H locs hP hS => ?_)
            exact fx_vretf hf hC hr hk hP hS dX9_advance_132
          · replace hf := fx_ie c15 hf
            refine lv_aload_n hx hb dX9_advance_121 rfl (lv_at hl 0 rfl) ?_
            obtain ⟨σ21, hc19, hf⟩ := fxBV_e hf
            refine fx_cv hC hS (fx_runV (i := 3) (As := []) (rest := []) hC hP hS (ctX9_readNumber l hc19 D cy ad ec _) kX_3 (by decide) rfl kMV_X9_53 kC_X9_readNumber hd_X9_readNumber rfl ⟨(Nat.le_of_ble_eq_true rfl), (Nat.le_of_ble_eq_true rfl)⟩ ⟨Nat.le_refl 0, Nat.le_refl 0⟩ hl.1 (Nat.le_of_ble_eq_true rfl) rfl dX9_advance_122) (fun H locs hP hS => ?_)
            refine lv_goto (tgt := 132) hx hb dX9_advance_125 (by decide) ?_
            exact fx_vretf hf hC hr hk hP hS dX9_advance_132
        · replace hf := fx_ie c10 hf
          refine lv_aload_n hx hb dX9_advance_99 rfl (lv_at hl 0 rfl) ?_
          obtain ⟨σ24, hc22, hf⟩ := fxBV_e hf
          refine fx_cv hC hS (fx_runV (i := 3) (As := []) (rest := []) hC hP hS (ctX9_readWord l hc22 D cy ad ec _) kX_3 (by decide) rfl kMV_X9_47 kC_X9_readWord hd_X9_readWord rfl ⟨(Nat.le_of_ble_eq_true rfl), (Nat.le_of_ble_eq_true rfl)⟩ ⟨Nat.le_refl 0, Nat.le_refl 0⟩ hl.1 (Nat.le_of_ble_eq_true rfl) rfl dX9_advance_100) (fun H locs hP hS => ?_)
          refine lv_goto (tgt := 132) hx hb dX9_advance_103 (by decide) ?_
          exact fx_vretf hf hC hr hk hP hS dX9_advance_132
      · replace hf := fx_ie c5 hf
        refine lv_aload_n hx hb dX9_advance_68 rfl (lv_at hl 0 rfl) ?_
        refine lv_aload_n hx hb dX9_advance_69 rfl (lv_at hl 0 rfl) ?_
        refine gf_X9_34 (v := .int (σ4.1 3 2)) hC hP kX_3 rfl dX9_advance_70 ?_
        obtain ⟨σ25, eσ25, hf⟩ := fxL_e hf
        refine pf_X9_28 hC hP hS kX_3 dX9_advance_73 (fun H locs hP hS => ?_)
        replace hP := fx_Pe eσ25 hP
        refine lv_aload_n hx hb dX9_advance_76 rfl (lv_at hl 0 rfl) ?_
        refine lv_iconst hx hb dX9_advance_77 ki_1 ?_
        obtain ⟨σ26, eσ26, hf⟩ := fxL_e hf
        refine pf_X9_41 hC hP hS kX_3 dX9_advance_78 (fun H locs hP hS => ?_)
        replace hP := fx_Pe eσ26 hP
        refine lv_goto (tgt := 132) hx hb dX9_advance_81 (by decide) ?_
        exact fx_vretf hf hC hr hk hP hS dX9_advance_132
    have L37 : ∀ (n29 : Nat) (σ27 : FH) (H : Heap) (locs : List Loc) (ls : Array Slot), fx_P D cy LX ad σ27 H → va_S A s.heap H locs → lv_has ls 1 [(0, .ref (ad 3))] → fX9_advance_8 K2 n29 σ27 = some σ' → W p l e (fx_R (5)) s m args below meth c H locs 0 0 (fx_Qv D cy LX ad A below args s σ') (F0 m 8 ls []) := by
      intro n29
      induction n29 with
      | zero =>
        intro σ27 H locs ls hP hS hl hf
        rw [fX9_advance_8] at hf
        cases hf
      | succ n29 ih28 =>
        intro σ27 H locs ls hP hS hl hf
        rw [fX9_advance_8] at hf
        refine lv_aload_n hx hb dX9_advance_8 rfl (lv_at hl 0 rfl) ?_
        refine gf_X9_34 (v := .int (σ27.1 3 2)) hC hP kX_3 rfl dX9_advance_9 ?_
        refine lv_aload_n hx hb dX9_advance_12 rfl (lv_at hl 0 rfl) ?_
        refine gf_X9_21 (v := .int (σ27.1 3 1)) hC hP kX_3 rfl dX9_advance_13 ?_
        refine lv_icmp_ge (tgt := 47) hx hb dX9_advance_16 (by decide) (fun c30 => ?_) (fun c30 => ?_)
        · replace hf := fx_it c30 hf
          exact k_K2 σ27 _ _ _ hP hS (lv_sub hl [0] rfl) hf
        · replace hf := fx_ie c30 hf
          refine lv_aload_n hx hb dX9_advance_19 rfl (lv_at hl 0 rfl) ?_
          refine gf_X9_9 (v := .ref (ad 4)) hC hP kX_3 rfl dX9_advance_20 ?_
          refine lv_aload_n hx hb dX9_advance_23 rfl (lv_at hl 0 rfl) ?_
          refine gf_X9_34 (v := .int (σ27.1 3 2)) hC hP kX_3 rfl dX9_advance_24 ?_
          obtain ⟨h31, hf⟩ := fxG_e hf
          refine fx_cald hC hP kX_4 (fx_inp h31) dX9_advance_27 ?_
          obtain ⟨r33, hc32, hf⟩ := fxBP_e hf
          refine fx_ci hC hS (fx_runS (As := [.int (σ27.1 4 (Int32.toNatClampNeg (σ27.1 3 2)))]) (rest := []) hC hP hS (ctX9_isBlank l hc32 D cy ad ec _) kMS_X9_37 kC_X9_isBlank hd_X9_isBlank.2 rfl ⟨(Nat.le_of_ble_eq_true rfl), (Nat.le_of_ble_eq_true rfl)⟩ ⟨Nat.le_refl 0, Nat.le_refl 0⟩ hl.1 (Nat.le_of_ble_eq_true rfl) rfl dX9_advance_28) (fun H locs hP hS => ?_)
          refine lv_if_eq (tgt := 47) hx hb dX9_advance_31 (by decide) (fun c35 => ?_) (fun c35 => ?_)
          · replace hf := fx_it c35 hf
            exact k_K2 σ27 _ _ _ hP hS (lv_sub hl [0] rfl) hf
          · replace hf := fx_ie c35 hf
            refine lv_aload_n hx hb dX9_advance_34 rfl (lv_at hl 0 rfl) ?_
            refine lv_dup hx hb dX9_advance_35 rfl ?_
            refine gf_X9_34 (v := .int (σ27.1 3 2)) hC hP kX_3 rfl dX9_advance_36 ?_
            refine lv_iconst hx hb dX9_advance_39 ki_1 ?_
            refine lv_iadd hx hb dX9_advance_40 ?_
            obtain ⟨σ36, eσ36, hf⟩ := fxL_e hf
            refine pf_X9_34 hC hP hS kX_3 dX9_advance_41 (fun H locs hP hS => ?_)
            replace hP := fx_Pe eσ36 hP
            refine lv_goto (tgt := 8) hx hb dX9_advance_44 (by decide) ?_
            exact ih28 σ36 _ _ _ hP hS (lv_sub hl [0] rfl) hf
    exact L37 FU σ1 _ _ _ hP hS (lv_sub hl [0] rfl) hf
  exact main _ _ _ hP hS hl

set_option maxHeartbeats 4000000 in
set_option maxRecDepth 100000 in
theorem ctX9_isNumber (l : Launch) {σ : FH} {v : Int32} (hf : fX9_isNumber σ = some v) : fx_Mi l yX9_isNumber cX9_isNumber 1 (some .boolean) (0) LX (fun ad ec => [.ref (ad 3)]) σ v σ := by
  unfold fX9_isNumber at hf
  refine fx_mi' (own := RX9) rfl (by decide +kernel) ?_
  intro p e s m args below meth c D cy ad ec A hC hr hk hP hS
  have hx := hC.1
  have hb := hC.2.1
  have hl := lv_entry ([.ref (ad 3)]) (n := 1) (Nat.le_of_ble_eq_true rfl)
  show W _ _ _ _ _ _ _ _ _ _ _ _ _ _ _ (entryFrame m ([.ref (ad 3)] : List Value).toArray 1)
  rw [lg_entry_eq]
  generalize (lg_sl ([.ref (ad 3)]) ++ List.replicate (1 - (lg_sl ([.ref (ad 3)])).length) Slot.unset).toArray = ls at hl ⊢
  have hl : lv_has ls 1 [(0, .ref (ad 3))] := hl
  have main : ∀ (H : Heap) (locs : List Loc) (ls : Array Slot), fx_P D cy LX ad σ H → va_S A s.heap H locs → lv_has ls 1 [(0, .ref (ad 3))] → W p l e (fx_R (0)) s m args below meth c H locs 0 0 (fx_Qi D cy LX ad A below args s v σ) (F0 m 0 ls []) := by
    intro H locs ls hP hS hl
    refine lv_aload_n hx hb dX9_isNumber_0 rfl (lv_at hl 0 rfl) ?_
    refine gf_X9_41 (v := .int (σ.1 3 4)) hC hP kX_3 rfl dX9_isNumber_1 ?_
    refine lv_iconst hx hb dX9_isNumber_4 ki_2 ?_
    obtain ⟨v1, ev1, hf⟩ := fxL_e hf
    have j_v1 : ∀ (z2 : Int32), z2 = ((if (σ.1 3 4) = 2 then 1 else 0) : Int32) → ∀ (ls : Array Slot), lv_has ls 1 [] → W p l e (fx_R (0)) s m args below meth c H locs 0 0 (fx_Qi D cy LX ad A below args s v σ) (F0 m 13 ls [.int z2]) := by
      intro z2 hz2 ls hl
      obtain rfl : v1 = z2 := ev1.trans hz2.symm
      obtain ⟨h4, hf⟩ := fxG_e hf
      exact fx_zretp (fx_bon h4) hf hC hr hk hP hS dX9_isNumber_13
    refine lv_icmp_ne (tgt := 12) hx hb dX9_isNumber_5 (by decide) (fun c3 => ?_) (fun c3 => ?_)
    · refine lv_iconst hx hb dX9_isNumber_12 ki_0 ?_
      exact j_v1 0 (if_neg c3).symm ls (lv_sub hl [] rfl)
    · refine lv_iconst hx hb dX9_isNumber_8 ki_1 ?_
      refine lv_goto (tgt := 13) hx hb dX9_isNumber_9 (by decide) ?_
      exact j_v1 1 (if_pos c3).symm ls (lv_sub hl [] rfl)
  exact main _ _ _ hP hS hl

set_option maxHeartbeats 4000000 in
set_option maxRecDepth 100000 in
theorem ctX9_wrong (l : Launch) {a1 : Int32} {σ σ' : FH} {v : Int32} (hf : fX9_wrong a1 σ = some (v, σ')) : fx_Mi l yX9_wrong cX9_wrong 2 (some .boolean) (0) LX (fun ad ec => [.ref (ad 3), .int a1]) σ v σ' := by
  unfold fX9_wrong at hf
  refine fx_mi' (own := RX9) rfl (by decide +kernel) ?_
  intro p e s m args below meth c D cy ad ec A hC hr hk hP hS
  have hx := hC.1
  have hb := hC.2.1
  have hl := lv_entry ([.ref (ad 3), .int a1]) (n := 2) (Nat.le_of_ble_eq_true rfl)
  show W _ _ _ _ _ _ _ _ _ _ _ _ _ _ _ (entryFrame m ([.ref (ad 3), .int a1] : List Value).toArray 2)
  rw [lg_entry_eq]
  generalize (lg_sl ([.ref (ad 3), .int a1]) ++ List.replicate (2 - (lg_sl ([.ref (ad 3), .int a1])).length) Slot.unset).toArray = ls at hl ⊢
  have hl : lv_has ls 2 [(0, .ref (ad 3)), (1, .int a1)] := hl
  have main : ∀ (H : Heap) (locs : List Loc) (ls : Array Slot), fx_P D cy LX ad σ H → va_S A s.heap H locs → lv_has ls 2 [(0, .ref (ad 3)), (1, .int a1)] → W p l e (fx_R (0)) s m args below meth c H locs 0 0 (fx_Qi D cy LX ad A below args s v σ') (F0 m 0 ls []) := by
    intro H locs ls hP hS hl
    refine lv_aload_n hx hb dX9_wrong_0 rfl (lv_at hl 0 rfl) ?_
    refine gf_X9_25 (v := .int (σ.1 3 8)) hC hP kX_3 rfl dX9_wrong_1 ?_
    refine lv_if_ne (tgt := 20) hx hb dX9_wrong_4 (by decide) (fun c1 => ?_) (fun c1 => ?_)
    · replace hf := fx_ie c1 hf
      refine lv_iconst hx hb dX9_wrong_20 ki_0 ?_
      exact fx_zretf rfl hf hC hr hk hP hS dX9_wrong_21
    · replace hf := fx_it c1 hf
      refine lv_aload_n hx hb dX9_wrong_7 rfl (lv_at hl 0 rfl) ?_
      refine lv_iload_n hx hb dX9_wrong_8 rfl (lv_at hl 1 rfl) ?_
      refine lv_bipush hx hb dX9_wrong_9 kb_16 ?_
      refine lv_aload_n hx hb dX9_wrong_11 rfl (lv_at hl 0 rfl) ?_
      refine gf_X9_34 (v := .int (σ.1 3 2)) hC hP kX_3 rfl dX9_wrong_12 ?_
      refine lv_imul hx hb dX9_wrong_15 ?_
      refine lv_iadd hx hb dX9_wrong_16 ?_
      obtain ⟨σ2, eσ2, hf⟩ := fxL_e hf
      refine pf_X9_25 hC hP hS kX_3 dX9_wrong_17 (fun H locs hP hS => ?_)
      replace hP := fx_Pe eσ2 hP
      refine lv_iconst hx hb dX9_wrong_20 ki_0 ?_
      exact fx_zretf rfl hf hC hr hk hP hS dX9_wrong_21
  exact main _ _ _ hP hS hl

set_option maxHeartbeats 4000000 in
set_option maxRecDepth 100000 in
theorem ctX9_begin (l : Launch) {σ σ' : FH} (hf : fX9_begin σ = some σ') : fx_Mv l yX9_begin cX9_begin 1 none (6) LX (fun ad ec => [.ref (ad 3)]) σ σ' := by
  unfold fX9_begin at hf
  refine fx_mv' (own := RX9) rfl (by decide +kernel) ?_
  intro p e s m args below meth c D cy ad ec A hC hr hk hP hS
  have hx := hC.1
  have hb := hC.2.1
  have hl := lv_entry ([.ref (ad 3)]) (n := 1) (Nat.le_of_ble_eq_true rfl)
  show W _ _ _ _ _ _ _ _ _ _ _ _ _ _ _ (entryFrame m ([.ref (ad 3)] : List Value).toArray 1)
  rw [lg_entry_eq]
  generalize (lg_sl ([.ref (ad 3)]) ++ List.replicate (1 - (lg_sl ([.ref (ad 3)])).length) Slot.unset).toArray = ls at hl ⊢
  have hl : lv_has ls 1 [(0, .ref (ad 3))] := hl
  have main : ∀ (H : Heap) (locs : List Loc) (ls : Array Slot), fx_P D cy LX ad σ H → va_S A s.heap H locs → lv_has ls 1 [(0, .ref (ad 3))] → W p l e (fx_R (6)) s m args below meth c H locs 0 0 (fx_Qv D cy LX ad A below args s σ') (F0 m 0 ls []) := by
    intro H locs ls hP hS hl
    refine lv_aload_n hx hb dX9_begin_0 rfl (lv_at hl 0 rfl) ?_
    refine lv_iconst hx hb dX9_begin_1 ki_0 ?_
    obtain ⟨σ1, eσ1, hf⟩ := fxL_e hf
    refine pf_X9_25 hC hP hS kX_3 dX9_begin_2 (fun H locs hP hS => ?_)
    replace hP := fx_Pe eσ1 hP
    refine lv_aload_n hx hb dX9_begin_5 rfl (lv_at hl 0 rfl) ?_
    refine lv_iconst hx hb dX9_begin_6 ki_0 ?_
    obtain ⟨σ2, eσ2, hf⟩ := fxL_e hf
    refine pf_X9_28 hC hP hS kX_3 dX9_begin_7 (fun H locs hP hS => ?_)
    replace hP := fx_Pe eσ2 hP
    refine lv_aload_n hx hb dX9_begin_10 rfl (lv_at hl 0 rfl) ?_
    obtain ⟨σ5, hc3, hf⟩ := fxBV_e hf
    refine fx_cv hC hS (fx_runV (i := 3) (As := []) (rest := []) hC hP hS (ctX9_advance l hc3 D cy ad ec _) kX_3 (by decide) rfl kMV_X9_31 kC_X9_advance hd_X9_advance rfl ⟨(Nat.le_of_ble_eq_true rfl), (Nat.le_of_ble_eq_true rfl)⟩ ⟨Nat.le_refl 0, Nat.le_refl 0⟩ hl.1 (Nat.le_of_ble_eq_true rfl) rfl dX9_begin_11) (fun H locs hP hS => ?_)
    exact fx_vretf hf hC hr hk hP hS dX9_begin_14
  exact main _ _ _ hP hS hl

set_option maxHeartbeats 4000000 in
set_option maxRecDepth 100000 in
theorem ctX9_atEnd (l : Launch) {σ : FH} {v : Int32} (hf : fX9_atEnd σ = some v) : fx_Mi l yX9_atEnd cX9_atEnd 1 (some .boolean) (0) LX (fun ad ec => [.ref (ad 3)]) σ v σ := by
  unfold fX9_atEnd at hf
  refine fx_mi' (own := RX9) rfl (by decide +kernel) ?_
  intro p e s m args below meth c D cy ad ec A hC hr hk hP hS
  have hx := hC.1
  have hb := hC.2.1
  have hl := lv_entry ([.ref (ad 3)]) (n := 1) (Nat.le_of_ble_eq_true rfl)
  show W _ _ _ _ _ _ _ _ _ _ _ _ _ _ _ (entryFrame m ([.ref (ad 3)] : List Value).toArray 1)
  rw [lg_entry_eq]
  generalize (lg_sl ([.ref (ad 3)]) ++ List.replicate (1 - (lg_sl ([.ref (ad 3)])).length) Slot.unset).toArray = ls at hl ⊢
  have hl : lv_has ls 1 [(0, .ref (ad 3))] := hl
  have main : ∀ (H : Heap) (locs : List Loc) (ls : Array Slot), fx_P D cy LX ad σ H → va_S A s.heap H locs → lv_has ls 1 [(0, .ref (ad 3))] → W p l e (fx_R (0)) s m args below meth c H locs 0 0 (fx_Qi D cy LX ad A below args s v σ) (F0 m 0 ls []) := by
    intro H locs ls hP hS hl
    refine lv_aload_n hx hb dX9_atEnd_0 rfl (lv_at hl 0 rfl) ?_
    refine gf_X9_41 (v := .int (σ.1 3 4)) hC hP kX_3 rfl dX9_atEnd_1 ?_
    refine lv_iconst hx hb dX9_atEnd_4 ki_1 ?_
    obtain ⟨v1, ev1, hf⟩ := fxL_e hf
    have j_v1 : ∀ (z2 : Int32), z2 = ((if (σ.1 3 4) = 1 then 1 else 0) : Int32) → ∀ (ls : Array Slot), lv_has ls 1 [] → W p l e (fx_R (0)) s m args below meth c H locs 0 0 (fx_Qi D cy LX ad A below args s v σ) (F0 m 13 ls [.int z2]) := by
      intro z2 hz2 ls hl
      obtain rfl : v1 = z2 := ev1.trans hz2.symm
      obtain ⟨h4, hf⟩ := fxG_e hf
      exact fx_zretp (fx_bon h4) hf hC hr hk hP hS dX9_atEnd_13
    refine lv_icmp_ne (tgt := 12) hx hb dX9_atEnd_5 (by decide) (fun c3 => ?_) (fun c3 => ?_)
    · refine lv_iconst hx hb dX9_atEnd_12 ki_0 ?_
      exact j_v1 0 (if_neg c3).symm ls (lv_sub hl [] rfl)
    · refine lv_iconst hx hb dX9_atEnd_8 ki_1 ?_
      refine lv_goto (tgt := 13) hx hb dX9_atEnd_9 (by decide) ?_
      exact j_v1 1 (if_pos c3).symm ls (lv_sub hl [] rfl)
  exact main _ _ _ hP hS hl

set_option maxHeartbeats 4000000 in
set_option maxRecDepth 100000 in
theorem ctX10_isReserved (l : Launch) {a0 : Int64} {σ : FH} {v : Int32} (hf : fX10_isReserved a0 σ = some v) : fx_Mi l yX10_isReserved cX10_isReserved 3 (some .boolean) (0) LX (fun ad ec => [.long a0]) σ v σ := by
  unfold fX10_isReserved at hf
  refine fx_mi' (own := RX10) rfl (by decide +kernel) ?_
  intro p e s m args below meth c D cy ad ec A hC hr hk hP hS
  have hx := hC.1
  have hb := hC.2.1
  have hl := lv_entry ([.long a0]) (n := 3) (Nat.le_of_ble_eq_true rfl)
  show W _ _ _ _ _ _ _ _ _ _ _ _ _ _ _ (entryFrame m ([.long a0] : List Value).toArray 3)
  rw [lg_entry_eq]
  generalize (lg_sl ([.long a0]) ++ List.replicate (3 - (lg_sl ([.long a0])).length) Slot.unset).toArray = ls at hl ⊢
  have hl : lv_has ls 3 [(0, .long a0)] := hl
  have main : ∀ (H : Heap) (locs : List Loc) (ls : Array Slot), fx_P D cy LX ad σ H → va_S A s.heap H locs → lv_has ls 3 [(0, .long a0)] → W p l e (fx_R (0)) s m args below meth c H locs 0 0 (fx_Qi D cy LX ad A below args s v σ) (F0 m 0 ls []) := by
    intro H locs ls hP hS hl
    refine lv_iconst hx hb dX10_isReserved_0 ki_0 ?_
    refine lv_istore_n (lv' := [(2, .int 0), (0, .long a0)]) hx hb dX10_isReserved_1 rfl hl (by decide) rfl (fun ls hl => ?_)
    obtain ⟨K1, hK1, hf⟩ := fxL_e hf
    have k_K1 : ∀  (H : Heap) (locs : List Loc) (ls : Array Slot), fx_P D cy LX ad σ H → va_S A s.heap H locs → lv_has ls 3 [] → K1 = some v → W p l e (fx_R (0)) s m args below meth c H locs 0 0 (fx_Qi D cy LX ad A below args s v σ) (F0 m 38 ls []) := by
      intro  H locs ls hP hS hl hf
      replace hf := hK1.symm.trans hf
      refine lv_iconst hx hb dX10_isReserved_38 ki_0 ?_
      exact fx_zretp rfl hf hC hr hk hP hS dX10_isReserved_39
    have L10 : ∀ (n4 : Nat) (w2 : Int32) (H : Heap) (locs : List Loc) (ls : Array Slot), fx_P D cy LX ad σ H → va_S A s.heap H locs → lv_has ls 3 [(0, .long a0), (2, .int w2)] → fX10_isReserved_2 a0 K1 n4 w2 = some v → W p l e (fx_R (0)) s m args below meth c H locs 0 0 (fx_Qi D cy LX ad A below args s v σ) (F0 m 2 ls []) := by
      intro n4
      induction n4 with
      | zero =>
        intro w2 H locs ls hP hS hl hf
        rw [fX10_isReserved_2] at hf
        cases hf
      | succ n4 ih3 =>
        intro w2 H locs ls hP hS hl hf
        rw [fX10_isReserved_2] at hf
        refine lv_iload_n hx hb dX10_isReserved_2 rfl (lv_at hl 1 rfl) ?_
        refine fx_gall hC hS kFw_X10_119 dX10_isReserved_3 ?_
        refine fx_alenA hC hS dX10_isReserved_6 ?_
        refine lv_icmp_ge (tgt := 38) hx hb dX10_isReserved_7 (by decide) (fun c5 => ?_) (fun c5 => ?_)
        · replace hf := fx_it c5 hf
          exact k_K1  _ _ _ hP hS (lv_sub hl [] rfl) hf
        · replace hf := fx_ie c5 hf
          refine fx_gall hC hS kFw_X10_119 dX10_isReserved_10 ?_
          refine lv_iload_n hx hb dX10_isReserved_13 rfl (lv_at hl 1 rfl) ?_
          obtain ⟨h6, hf⟩ := fxG_e hf
          refine fx_aaldA hC hS (fx_inp h6) dX10_isReserved_14 ?_
          refine fx_getk hC hS (fx_inl h6) kFw_X10_109 dX10_isReserved_15 ?_
          refine lv_lload_n hx hb dX10_isReserved_18 rfl (lv_at hl 0 rfl) ?_
          refine W.lcmp hx hb dX10_isReserved_19 ?_
          refine lv_if_ne (tgt := 32) hx hb dX10_isReserved_20 (by decide) (fun c7 => ?_) (fun c7 => ?_)
          · replace hf := fx_ie c7 hf
            refine lv_iinc (v := (w2 + 1)) (lv' := [(2, .int (w2 + 1)), (0, .long a0)]) hx hb dX10_isReserved_32 hl (k := 1) rfl (congrArg (fun z => w2 + z) ki_1) (by decide) rfl (fun ls hl => ?_)
            refine lv_goto (tgt := 2) hx hb dX10_isReserved_35 (by decide) ?_
            exact ih3 (w2 + 1) _ _ _ hP hS (lv_sub hl [1, 0] rfl) hf
          · replace hf := fx_it c7 hf
            refine fx_gall hC hS kFw_X10_119 dX10_isReserved_23 ?_
            refine lv_iload_n hx hb dX10_isReserved_26 rfl (lv_at hl 1 rfl) ?_
            obtain ⟨h8, hf⟩ := fxG_e hf
            refine fx_aaldA hC hS (fx_inp h8) dX10_isReserved_27 ?_
            refine fx_getv hC hS (fx_inl h8) kFw_X10_113 dX10_isReserved_28 ?_
            obtain ⟨h9, hf⟩ := fxG_e hf
            exact fx_zretp (fx_bon h9) hf hC hr hk hP hS dX10_isReserved_31
    exact L10 FU 0 _ _ _ hP hS (lv_sub hl [1, 0] rfl) hf
  exact main _ _ _ hP hS hl

set_option maxHeartbeats 4000000 in
set_option maxRecDepth 100000 in
theorem ctX9_isName (l : Launch) {σ : FH} {v : Int32} (hf : fX9_isName σ = some v) : fx_Mi l yX9_isName cX9_isName 1 (some .boolean) (1) LX (fun ad ec => [.ref (ad 3)]) σ v σ := by
  unfold fX9_isName at hf
  refine fx_mi' (own := RX9) rfl (by decide +kernel) ?_
  intro p e s m args below meth c D cy ad ec A hC hr hk hP hS
  have hx := hC.1
  have hb := hC.2.1
  have hl := lv_entry ([.ref (ad 3)]) (n := 1) (Nat.le_of_ble_eq_true rfl)
  show W _ _ _ _ _ _ _ _ _ _ _ _ _ _ _ (entryFrame m ([.ref (ad 3)] : List Value).toArray 1)
  rw [lg_entry_eq]
  generalize (lg_sl ([.ref (ad 3)]) ++ List.replicate (1 - (lg_sl ([.ref (ad 3)])).length) Slot.unset).toArray = ls at hl ⊢
  have hl : lv_has ls 1 [(0, .ref (ad 3))] := hl
  have main : ∀ (H : Heap) (locs : List Loc) (ls : Array Slot), fx_P D cy LX ad σ H → va_S A s.heap H locs → lv_has ls 1 [(0, .ref (ad 3))] → W p l e (fx_R (1)) s m args below meth c H locs 0 0 (fx_Qi D cy LX ad A below args s v σ) (F0 m 0 ls []) := by
    intro H locs ls hP hS hl
    refine lv_aload_n hx hb dX9_isName_0 rfl (lv_at hl 0 rfl) ?_
    refine gf_X9_41 (v := .int (σ.1 3 4)) hC hP kX_3 rfl dX9_isName_1 ?_
    refine lv_iconst hx hb dX9_isName_4 ki_3 ?_
    refine lv_icmp_ne (tgt := 22) hx hb dX9_isName_5 (by decide) (fun c1 => ?_) (fun c1 => ?_)
    · replace hf := fx_ie c1 hf
      refine lv_iconst hx hb dX9_isName_22 ki_0 ?_
      exact fx_zretp rfl hf hC hr hk hP hS dX9_isName_23
    · replace hf := fx_it c1 hf
      refine lv_aload_n hx hb dX9_isName_8 rfl (lv_at hl 0 rfl) ?_
      refine gf_X9_59 (v := .long (σ.2.1 3 7)) hC hP kX_3 rfl dX9_isName_9 ?_
      obtain ⟨r3, hc2, hf⟩ := fxBP_e hf
      refine fx_ci hC hS (fx_runS (As := [.long (σ.2.1 3 7)]) (rest := []) hC hP hS (ctX10_isReserved l hc2 D cy ad ec _) kMS_X9_84 kC_X10_isReserved hd_X10_isReserved.2 rfl ⟨(Nat.le_of_ble_eq_true rfl), (Nat.le_of_ble_eq_true rfl)⟩ ⟨Nat.le_refl 0, Nat.le_refl 0⟩ hl.1 (Nat.le_of_ble_eq_true rfl) rfl dX9_isName_12) (fun H locs hP hS => ?_)
      refine lv_if_ne (tgt := 22) hx hb dX9_isName_15 (by decide) (fun c5 => ?_) (fun c5 => ?_)
      · replace hf := fx_ie c5 hf
        refine lv_iconst hx hb dX9_isName_22 ki_0 ?_
        exact fx_zretp rfl hf hC hr hk hP hS dX9_isName_23
      · replace hf := fx_it c5 hf
        refine lv_iconst hx hb dX9_isName_18 ki_1 ?_
        refine lv_goto (tgt := 23) hx hb dX9_isName_19 (by decide) ?_
        exact fx_zretp rfl hf hC hr hk hP hS dX9_isName_23
  exact main _ _ _ hP hS hl

set_option maxHeartbeats 4000000 in
set_option maxRecDepth 100000 in
theorem ctX9_takeWord (l : Launch) {a1 : Nat} {σ σ' : FH} {v : Int32} (hf : fX9_takeWord a1 σ = some (v, σ')) : fx_Mi l yX9_takeWord cX9_takeWord 2 (some .boolean) (6) LX (fun ad ec => [.ref (ad 3), .ref (ec a1)]) σ v σ' := by
  unfold fX9_takeWord at hf
  obtain ⟨h_a1, hf⟩ := fxG_e hf
  refine fx_mi' (own := RX9) rfl (by decide +kernel) ?_
  intro p e s m args below meth c D cy ad ec A hC hr hk hP hS
  have hx := hC.1
  have hb := hC.2.1
  have hl := lv_entry ([.ref (ad 3), .ref (ec a1)]) (n := 2) (Nat.le_of_ble_eq_true rfl)
  show W _ _ _ _ _ _ _ _ _ _ _ _ _ _ _ (entryFrame m ([.ref (ad 3), .ref (ec a1)] : List Value).toArray 2)
  rw [lg_entry_eq]
  generalize (lg_sl ([.ref (ad 3), .ref (ec a1)]) ++ List.replicate (2 - (lg_sl ([.ref (ad 3), .ref (ec a1)])).length) Slot.unset).toArray = ls at hl ⊢
  have hl : lv_has ls 2 [(0, .ref (ad 3)), (1, .ref (ec a1))] := hl
  have main : ∀ (H : Heap) (locs : List Loc) (ls : Array Slot), fx_P D cy LX ad σ H → va_S A s.heap H locs → lv_has ls 2 [(0, .ref (ad 3)), (1, .ref (ec a1))] → W p l e (fx_R (6)) s m args below meth c H locs 0 0 (fx_Qi D cy LX ad A below args s v σ') (F0 m 0 ls []) := by
    intro H locs ls hP hS hl
    refine lv_aload_n hx hb dX9_takeWord_0 rfl (lv_at hl 0 rfl) ?_
    refine lv_aload_n hx hb dX9_takeWord_1 rfl (lv_at hl 1 rfl) ?_
    obtain ⟨r2, hc1, hf⟩ := fxBP_e hf
    refine fx_ci hC hS (fx_runV (i := 3) (As := [.ref (ec a1)]) (rest := []) hC hP hS (ctX9_isWord l hc1 D cy ad ec _) kX_3 (by decide) rfl kMV_X9_89 kC_X9_isWord hd_X9_isWord rfl ⟨(Nat.le_of_ble_eq_true rfl), (Nat.le_of_ble_eq_true rfl)⟩ ⟨Nat.le_refl 0, Nat.le_refl 0⟩ hl.1 (Nat.le_of_ble_eq_true rfl) rfl dX9_takeWord_2) (fun H locs hP hS => ?_)
    refine lv_if_ne (tgt := 14) hx hb dX9_takeWord_5 (by decide) (fun c4 => ?_) (fun c4 => ?_)
    · replace hf := fx_ie c4 hf
      refine lv_aload_n hx hb dX9_takeWord_14 rfl (lv_at hl 0 rfl) ?_
      obtain ⟨σ7, hc5, hf⟩ := fxBV_e hf
      refine fx_cv hC hS (fx_runV (i := 3) (As := []) (rest := []) hC hP hS (ctX9_advance l hc5 D cy ad ec _) kX_3 (by decide) rfl kMV_X9_31 kC_X9_advance hd_X9_advance rfl ⟨(Nat.le_of_ble_eq_true rfl), (Nat.le_of_ble_eq_true rfl)⟩ ⟨Nat.le_refl 0, Nat.le_refl 0⟩ hl.1 (Nat.le_of_ble_eq_true rfl) rfl dX9_takeWord_15) (fun H locs hP hS => ?_)
      refine lv_iconst hx hb dX9_takeWord_18 ki_1 ?_
      exact fx_zretf rfl hf hC hr hk hP hS dX9_takeWord_19
    · replace hf := fx_it c4 hf
      refine lv_aload_n hx hb dX9_takeWord_8 rfl (lv_at hl 0 rfl) ?_
      refine lv_iconst hx hb dX9_takeWord_9 ki_1 ?_
      obtain ⟨r9, σ10, hc8, hf⟩ := fxBI_e hf
      refine fx_ci hC hS (fx_runV (i := 3) (As := [.int 1]) (rest := []) hC hP hS (ctX9_wrong l hc8 D cy ad ec _) kX_3 (by decide) rfl kMV_X9_93 kC_X9_wrong hd_X9_wrong rfl ⟨(Nat.le_of_ble_eq_true rfl), (Nat.le_of_ble_eq_true rfl)⟩ ⟨Nat.le_refl 0, Nat.le_refl 0⟩ hl.1 (Nat.le_of_ble_eq_true rfl) rfl dX9_takeWord_10) (fun H locs hP hS => ?_)
      obtain ⟨h11, hf⟩ := fxG_e hf
      exact fx_zretf (fx_bon h11) hf hC hr hk hP hS dX9_takeWord_13
  exact main _ _ _ hP hS hl

set_option maxHeartbeats 4000000 in
set_option maxRecDepth 100000 in
theorem ctX9_takeNumber (l : Launch) {a1 : Int32} {a2 : Int32} {σ σ' : FH} {v : Int32} (hf : fX9_takeNumber a1 a2 σ = some (v, σ')) : fx_Mi l yX9_takeNumber cX9_takeNumber 4 (some .int) (6) LX (fun ad ec => [.ref (ad 3), .int a1, .int a2]) σ v σ' := by
  unfold fX9_takeNumber at hf
  refine fx_mi' (own := RX9) rfl (by decide +kernel) ?_
  intro p e s m args below meth c D cy ad ec A hC hr hk hP hS
  have hx := hC.1
  have hb := hC.2.1
  have hl := lv_entry ([.ref (ad 3), .int a1, .int a2]) (n := 4) (Nat.le_of_ble_eq_true rfl)
  show W _ _ _ _ _ _ _ _ _ _ _ _ _ _ _ (entryFrame m ([.ref (ad 3), .int a1, .int a2] : List Value).toArray 4)
  rw [lg_entry_eq]
  generalize (lg_sl ([.ref (ad 3), .int a1, .int a2]) ++ List.replicate (4 - (lg_sl ([.ref (ad 3), .int a1, .int a2])).length) Slot.unset).toArray = ls at hl ⊢
  have hl : lv_has ls 4 [(0, .ref (ad 3)), (1, .int a1), (2, .int a2)] := hl
  have main : ∀ (H : Heap) (locs : List Loc) (ls : Array Slot), fx_P D cy LX ad σ H → va_S A s.heap H locs → lv_has ls 4 [(0, .ref (ad 3)), (1, .int a1), (2, .int a2)] → W p l e (fx_R (6)) s m args below meth c H locs 0 0 (fx_Qi D cy LX ad A below args s v σ') (F0 m 0 ls []) := by
    intro H locs ls hP hS hl
    refine lv_aload_n hx hb dX9_takeNumber_0 rfl (lv_at hl 0 rfl) ?_
    obtain ⟨r2, hc1, hf⟩ := fxBP_e hf
    refine fx_ci hC hS (fx_runV (i := 3) (As := []) (rest := []) hC hP hS (ctX9_isNumber l hc1 D cy ad ec _) kX_3 (by decide) rfl kMV_X9_100 kC_X9_isNumber hd_X9_isNumber rfl ⟨(Nat.le_of_ble_eq_true rfl), (Nat.le_of_ble_eq_true rfl)⟩ ⟨Nat.le_refl 0, Nat.le_refl 0⟩ hl.1 (Nat.le_of_ble_eq_true rfl) rfl dX9_takeNumber_1) (fun H locs hP hS => ?_)
    refine lv_if_ne (tgt := 15) hx hb dX9_takeNumber_4 (by decide) (fun c4 => ?_) (fun c4 => ?_)
    · replace hf := fx_ie c4 hf
      refine lv_aload_n hx hb dX9_takeNumber_15 rfl (lv_at hl 0 rfl) ?_
      refine gf_X9_69 (v := .int (σ.1 3 5)) hC hP kX_3 rfl dX9_takeNumber_16 ?_
      refine lv_iload_n hx hb dX9_takeNumber_19 rfl (lv_at hl 1 rfl) ?_
      obtain ⟨J5, hJ5, hf⟩ := fxL_e hf
      have j_J5 : ∀  (H : Heap) (locs : List Loc) (ls : Array Slot), fx_P D cy LX ad σ H → va_S A s.heap H locs → lv_has ls 4 [(0, .ref (ad 3))] → J5 = some (v, σ') → W p l e (fx_R (6)) s m args below meth c H locs 0 0 (fx_Qi D cy LX ad A below args s v σ') (F0 m 31 ls []) := by
        intro  H locs ls hP hS hl hf
        replace hf := hJ5.symm.trans hf
        refine lv_aload_n hx hb dX9_takeNumber_31 rfl (lv_at hl 0 rfl) ?_
        refine lv_iconst hx hb dX9_takeNumber_32 ki_4 ?_
        obtain ⟨r7, σ8, hc6, hf⟩ := fxBI_e hf
        refine fx_ci hC hS (fx_runV (i := 3) (As := [.int 4]) (rest := []) hC hP hS (ctX9_wrong l hc6 D cy ad ec _) kX_3 (by decide) rfl kMV_X9_93 kC_X9_wrong hd_X9_wrong rfl ⟨(Nat.le_of_ble_eq_true rfl), (Nat.le_of_ble_eq_true rfl)⟩ ⟨Nat.le_refl 0, Nat.le_refl 0⟩ hl.1 (Nat.le_of_ble_eq_true rfl) rfl dX9_takeNumber_33) (fun H locs hP hS => ?_)
        refine lv_pop hx hb dX9_takeNumber_36 rfl ?_
        refine lv_iconst hx hb dX9_takeNumber_37 ki_m1 ?_
        exact fx_iretf hf hC hr hk hP hS dX9_takeNumber_38
      refine lv_icmp_lt (tgt := 31) hx hb dX9_takeNumber_20 (by decide) (fun c9 => ?_) (fun c9 => ?_)
      · replace hf := fx_it c9 hf
        exact j_J5  _ _ _ hP hS (lv_sub hl [0] rfl) hf
      · replace hf := fx_ie c9 hf
        refine lv_aload_n hx hb dX9_takeNumber_23 rfl (lv_at hl 0 rfl) ?_
        refine gf_X9_69 (v := .int (σ.1 3 5)) hC hP kX_3 rfl dX9_takeNumber_24 ?_
        refine lv_iload_n hx hb dX9_takeNumber_27 rfl (lv_at hl 2 rfl) ?_
        refine lv_icmp_le (tgt := 39) hx hb dX9_takeNumber_28 (by decide) (fun c10 => ?_) (fun c10 => ?_)
        · replace hf := fx_it c10 hf
          refine lv_aload_n hx hb dX9_takeNumber_39 rfl (lv_at hl 0 rfl) ?_
          refine gf_X9_69 (v := .int (σ.1 3 5)) hC hP kX_3 rfl dX9_takeNumber_40 ?_
          obtain ⟨v11, ev11, hf⟩ := fxL_e hf
          refine fx_ti ev11 ?_
          refine lv_istore_n (lv' := [(3, .int v11), (0, .ref (ad 3)), (1, .int a1), (2, .int a2)]) hx hb dX9_takeNumber_43 rfl hl (by decide) rfl (fun ls hl => ?_)
          refine lv_aload_n hx hb dX9_takeNumber_44 rfl (lv_at hl 1 rfl) ?_
          obtain ⟨σ14, hc12, hf⟩ := fxBV_e hf
          refine fx_cv hC hS (fx_runV (i := 3) (As := []) (rest := []) hC hP hS (ctX9_advance l hc12 D cy ad ec _) kX_3 (by decide) rfl kMV_X9_31 kC_X9_advance hd_X9_advance rfl ⟨(Nat.le_of_ble_eq_true rfl), (Nat.le_of_ble_eq_true rfl)⟩ ⟨Nat.le_refl 0, Nat.le_refl 0⟩ hl.1 (Nat.le_of_ble_eq_true rfl) rfl dX9_takeNumber_45) (fun H locs hP hS => ?_)
          refine lv_iload_n hx hb dX9_takeNumber_48 rfl (lv_at hl 0 rfl) ?_
          exact fx_iretf hf hC hr hk hP hS dX9_takeNumber_49
        · replace hf := fx_ie c10 hf
          exact j_J5  _ _ _ hP hS (lv_sub hl [0] rfl) hf
    · replace hf := fx_it c4 hf
      refine lv_aload_n hx hb dX9_takeNumber_7 rfl (lv_at hl 0 rfl) ?_
      refine lv_iconst hx hb dX9_takeNumber_8 ki_1 ?_
      obtain ⟨r16, σ17, hc15, hf⟩ := fxBI_e hf
      refine fx_ci hC hS (fx_runV (i := 3) (As := [.int 1]) (rest := []) hC hP hS (ctX9_wrong l hc15 D cy ad ec _) kX_3 (by decide) rfl kMV_X9_93 kC_X9_wrong hd_X9_wrong rfl ⟨(Nat.le_of_ble_eq_true rfl), (Nat.le_of_ble_eq_true rfl)⟩ ⟨Nat.le_refl 0, Nat.le_refl 0⟩ hl.1 (Nat.le_of_ble_eq_true rfl) rfl dX9_takeNumber_9) (fun H locs hP hS => ?_)
      refine lv_pop hx hb dX9_takeNumber_12 rfl ?_
      refine lv_iconst hx hb dX9_takeNumber_13 ki_m1 ?_
      exact fx_iretf hf hC hr hk hP hS dX9_takeNumber_14
  exact main _ _ _ hP hS hl

set_option maxHeartbeats 4000000 in
set_option maxRecDepth 100000 in
theorem ctX9_takeSign (l : Launch) {a1 : Int32} {σ σ' : FH} {v : Int32} (hf : fX9_takeSign a1 σ = some (v, σ')) : fx_Mi l yX9_takeSign cX9_takeSign 2 (some .boolean) (6) LX (fun ad ec => [.ref (ad 3), .int a1]) σ v σ' := by
  unfold fX9_takeSign at hf
  refine fx_mi' (own := RX9) rfl (by decide +kernel) ?_
  intro p e s m args below meth c D cy ad ec A hC hr hk hP hS
  have hx := hC.1
  have hb := hC.2.1
  have hl := lv_entry ([.ref (ad 3), .int a1]) (n := 2) (Nat.le_of_ble_eq_true rfl)
  show W _ _ _ _ _ _ _ _ _ _ _ _ _ _ _ (entryFrame m ([.ref (ad 3), .int a1] : List Value).toArray 2)
  rw [lg_entry_eq]
  generalize (lg_sl ([.ref (ad 3), .int a1]) ++ List.replicate (2 - (lg_sl ([.ref (ad 3), .int a1])).length) Slot.unset).toArray = ls at hl ⊢
  have hl : lv_has ls 2 [(0, .ref (ad 3)), (1, .int a1)] := hl
  have main : ∀ (H : Heap) (locs : List Loc) (ls : Array Slot), fx_P D cy LX ad σ H → va_S A s.heap H locs → lv_has ls 2 [(0, .ref (ad 3)), (1, .int a1)] → W p l e (fx_R (6)) s m args below meth c H locs 0 0 (fx_Qi D cy LX ad A below args s v σ') (F0 m 0 ls []) := by
    intro H locs ls hP hS hl
    refine lv_aload_n hx hb dX9_takeSign_0 rfl (lv_at hl 0 rfl) ?_
    refine lv_iload_n hx hb dX9_takeSign_1 rfl (lv_at hl 1 rfl) ?_
    obtain ⟨r2, hc1, hf⟩ := fxBP_e hf
    refine fx_ci hC hS (fx_runV (i := 3) (As := [.int a1]) (rest := []) hC hP hS (ctX9_isSign l hc1 D cy ad ec _) kX_3 (by decide) rfl kMV_X9_97 kC_X9_isSign hd_X9_isSign rfl ⟨(Nat.le_of_ble_eq_true rfl), (Nat.le_of_ble_eq_true rfl)⟩ ⟨Nat.le_refl 0, Nat.le_refl 0⟩ hl.1 (Nat.le_of_ble_eq_true rfl) rfl dX9_takeSign_2) (fun H locs hP hS => ?_)
    refine lv_if_ne (tgt := 14) hx hb dX9_takeSign_5 (by decide) (fun c4 => ?_) (fun c4 => ?_)
    · replace hf := fx_ie c4 hf
      refine lv_aload_n hx hb dX9_takeSign_14 rfl (lv_at hl 0 rfl) ?_
      obtain ⟨σ7, hc5, hf⟩ := fxBV_e hf
      refine fx_cv hC hS (fx_runV (i := 3) (As := []) (rest := []) hC hP hS (ctX9_advance l hc5 D cy ad ec _) kX_3 (by decide) rfl kMV_X9_31 kC_X9_advance hd_X9_advance rfl ⟨(Nat.le_of_ble_eq_true rfl), (Nat.le_of_ble_eq_true rfl)⟩ ⟨Nat.le_refl 0, Nat.le_refl 0⟩ hl.1 (Nat.le_of_ble_eq_true rfl) rfl dX9_takeSign_15) (fun H locs hP hS => ?_)
      refine lv_iconst hx hb dX9_takeSign_18 ki_1 ?_
      exact fx_zretf rfl hf hC hr hk hP hS dX9_takeSign_19
    · replace hf := fx_it c4 hf
      refine lv_aload_n hx hb dX9_takeSign_8 rfl (lv_at hl 0 rfl) ?_
      refine lv_iconst hx hb dX9_takeSign_9 ki_1 ?_
      obtain ⟨r9, σ10, hc8, hf⟩ := fxBI_e hf
      refine fx_ci hC hS (fx_runV (i := 3) (As := [.int 1]) (rest := []) hC hP hS (ctX9_wrong l hc8 D cy ad ec _) kX_3 (by decide) rfl kMV_X9_93 kC_X9_wrong hd_X9_wrong rfl ⟨(Nat.le_of_ble_eq_true rfl), (Nat.le_of_ble_eq_true rfl)⟩ ⟨Nat.le_refl 0, Nat.le_refl 0⟩ hl.1 (Nat.le_of_ble_eq_true rfl) rfl dX9_takeSign_10) (fun H locs hP hS => ?_)
      obtain ⟨h11, hf⟩ := fxG_e hf
      exact fx_zretf (fx_bon h11) hf hC hr hk hP hS dX9_takeSign_13
  exact main _ _ _ hP hS hl

set_option maxHeartbeats 4000000 in
set_option maxRecDepth 100000 in
theorem ctX9_clear (l : Launch) {σ σ' : FH} (hf : fX9_clear σ = some σ') : fx_Mv l yX9_clear cX9_clear 1 none (0) LX (fun ad ec => [.ref (ad 3)]) σ σ' := by
  unfold fX9_clear at hf
  refine fx_mv' (own := RX9) rfl (by decide +kernel) ?_
  intro p e s m args below meth c D cy ad ec A hC hr hk hP hS
  have hx := hC.1
  have hb := hC.2.1
  have hl := lv_entry ([.ref (ad 3)]) (n := 1) (Nat.le_of_ble_eq_true rfl)
  show W _ _ _ _ _ _ _ _ _ _ _ _ _ _ _ (entryFrame m ([.ref (ad 3)] : List Value).toArray 1)
  rw [lg_entry_eq]
  generalize (lg_sl ([.ref (ad 3)]) ++ List.replicate (1 - (lg_sl ([.ref (ad 3)])).length) Slot.unset).toArray = ls at hl ⊢
  have hl : lv_has ls 1 [(0, .ref (ad 3))] := hl
  have main : ∀ (H : Heap) (locs : List Loc) (ls : Array Slot), fx_P D cy LX ad σ H → va_S A s.heap H locs → lv_has ls 1 [(0, .ref (ad 3))] → W p l e (fx_R (0)) s m args below meth c H locs 0 0 (fx_Qv D cy LX ad A below args s σ') (F0 m 0 ls []) := by
    intro H locs ls hP hS hl
    refine lv_aload_n hx hb dX9_clear_0 rfl (lv_at hl 0 rfl) ?_
    refine lv_iconst hx hb dX9_clear_1 ki_0 ?_
    obtain ⟨σ1, eσ1, hf⟩ := fxL_e hf
    refine pf_X9_21 hC hP hS kX_3 dX9_clear_2 (fun H locs hP hS => ?_)
    replace hP := fx_Pe eσ1 hP
    exact fx_vretf hf hC hr hk hP hS dX9_clear_5
  exact main _ _ _ hP hS hl

set_option maxHeartbeats 4000000 in
set_option maxRecDepth 100000 in
theorem ctX9_putSign (l : Launch) {a1 : Int32} {σ σ' : FH} (hf : fX9_putSign a1 σ = some σ') : fx_Mv l yX9_putSign cX9_putSign 3 none (0) LX (fun ad ec => [.ref (ad 3), .int a1]) σ σ' := by
  unfold fX9_putSign at hf
  refine fx_mv' (own := RX9) rfl (by decide +kernel) ?_
  intro p e s m args below meth c D cy ad ec A hC hr hk hP hS
  have hx := hC.1
  have hb := hC.2.1
  have hl := lv_entry ([.ref (ad 3), .int a1]) (n := 3) (Nat.le_of_ble_eq_true rfl)
  show W _ _ _ _ _ _ _ _ _ _ _ _ _ _ _ (entryFrame m ([.ref (ad 3), .int a1] : List Value).toArray 3)
  rw [lg_entry_eq]
  generalize (lg_sl ([.ref (ad 3), .int a1]) ++ List.replicate (3 - (lg_sl ([.ref (ad 3), .int a1])).length) Slot.unset).toArray = ls at hl ⊢
  have hl : lv_has ls 3 [(0, .ref (ad 3)), (1, .int a1)] := hl
  have main : ∀ (H : Heap) (locs : List Loc) (ls : Array Slot), fx_P D cy LX ad σ H → va_S A s.heap H locs → lv_has ls 3 [(0, .ref (ad 3)), (1, .int a1)] → W p l e (fx_R (0)) s m args below meth c H locs 0 0 (fx_Qv D cy LX ad A below args s σ') (F0 m 0 ls []) := by
    intro H locs ls hP hS hl
    refine lv_iload_n hx hb dX9_putSign_0 rfl (lv_at hl 1 rfl) ?_
    refine lv_bipush hx hb dX9_putSign_1 kb_10 ?_
    obtain ⟨v1, ev1, hf⟩ := fxL_e hf
    have j_v1 : ∀ (z2 : Int32), z2 = ((if a1 = 10 then 1 else (if a1 < 32 then 0 else (if 126 < a1 then 0 else 1))) : Int32) → ∀ (ls : Array Slot), lv_has ls 3 [(0, .ref (ad 3)), (1, .int a1)] → W p l e (fx_R (0)) s m args below meth c H locs 0 0 (fx_Qv D cy LX ad A below args s σ') (F0 m 23 ls [.int z2]) := by
      intro z2 hz2 ls hl
      obtain rfl : v1 = z2 := ev1.trans hz2.symm
      refine lv_istore_n (lv' := [(2, .int v1), (0, .ref (ad 3)), (1, .int a1)]) hx hb dX9_putSign_23 rfl hl (by decide) rfl (fun ls hl => ?_)
      refine lv_iload_n hx hb dX9_putSign_24 rfl (lv_at hl 0 rfl) ?_
      refine lv_if_eq (tgt := 67) hx hb dX9_putSign_25 (by decide) (fun c6 => ?_) (fun c6 => ?_)
      · replace hf := fx_it c6 hf
        exact fx_vretf hf hC hr hk hP hS dX9_putSign_67
      · replace hf := fx_ie c6 hf
        refine lv_aload_n hx hb dX9_putSign_28 rfl (lv_at hl 1 rfl) ?_
        refine gf_X9_21 (v := .int (σ.1 3 1)) hC hP kX_3 rfl dX9_putSign_29 ?_
        refine lv_if_lt (tgt := 67) hx hb dX9_putSign_32 (by decide) (fun c7 => ?_) (fun c7 => ?_)
        · replace hf := fx_it c7 hf
          exact fx_vretf hf hC hr hk hP hS dX9_putSign_67
        · replace hf := fx_ie c7 hf
          refine lv_aload_n hx hb dX9_putSign_35 rfl (lv_at hl 1 rfl) ?_
          refine gf_X9_21 (v := .int (σ.1 3 1)) hC hP kX_3 rfl dX9_putSign_36 ?_
          refine lv_aload_n hx hb dX9_putSign_39 rfl (lv_at hl 1 rfl) ?_
          refine gf_X9_9 (v := .ref (ad 4)) hC hP kX_3 rfl dX9_putSign_40 ?_
          refine fx_alen (v := 1000) hC hP kX_4 (by decide) 2 rfl rfl (by decide) dX9_putSign_43 ?_
          refine lv_icmp_ge (tgt := 67) hx hb dX9_putSign_44 (by decide) (fun c8 => ?_) (fun c8 => ?_)
          · replace hf := fx_it c8 hf
            exact fx_vretf hf hC hr hk hP hS dX9_putSign_67
          · replace hf := fx_ie c8 hf
            refine lv_aload_n hx hb dX9_putSign_47 rfl (lv_at hl 1 rfl) ?_
            refine gf_X9_9 (v := .ref (ad 4)) hC hP kX_3 rfl dX9_putSign_48 ?_
            refine lv_aload_n hx hb dX9_putSign_51 rfl (lv_at hl 1 rfl) ?_
            refine gf_X9_21 (v := .int (σ.1 3 1)) hC hP kX_3 rfl dX9_putSign_52 ?_
            refine lv_iload_n hx hb dX9_putSign_55 rfl (lv_at hl 2 rfl) ?_
            obtain ⟨h9, hf⟩ := fxG_e hf
            obtain ⟨σ10, eσ10, hf⟩ := fxL_e hf
            refine fx_cast hC hP hS kX_4 (fx_inp h9) dX9_putSign_56 (fun H locs hP hS => ?_)
            replace hP := fx_Pe eσ10 hP
            refine lv_aload_n hx hb dX9_putSign_57 rfl (lv_at hl 1 rfl) ?_
            refine lv_dup hx hb dX9_putSign_58 rfl ?_
            refine gf_X9_21 (v := .int (σ10.1 3 1)) hC hP kX_3 rfl dX9_putSign_59 ?_
            refine lv_iconst hx hb dX9_putSign_62 ki_1 ?_
            refine lv_iadd hx hb dX9_putSign_63 ?_
            obtain ⟨σ11, eσ11, hf⟩ := fxL_e hf
            refine pf_X9_21 hC hP hS kX_3 dX9_putSign_64 (fun H locs hP hS => ?_)
            replace hP := fx_Pe eσ11 hP
            exact fx_vretf hf hC hr hk hP hS dX9_putSign_67
    refine lv_icmp_eq (tgt := 18) hx hb dX9_putSign_3 (by decide) (fun c3 => ?_) (fun c3 => ?_)
    · refine lv_iconst hx hb dX9_putSign_18 ki_1 ?_
      refine lv_goto (tgt := 23) hx hb dX9_putSign_19 (by decide) ?_
      exact j_v1 1 (if_pos c3).symm ls (lv_sub hl [0, 1] rfl)
    · refine lv_iload_n hx hb dX9_putSign_6 rfl (lv_at hl 1 rfl) ?_
      refine lv_bipush hx hb dX9_putSign_7 kb_32 ?_
      refine lv_icmp_lt (tgt := 22) hx hb dX9_putSign_9 (by decide) (fun c4 => ?_) (fun c4 => ?_)
      · refine lv_iconst hx hb dX9_putSign_22 ki_0 ?_
        exact j_v1 0 ((if_neg c3).trans (if_pos c4)).symm ls (lv_sub hl [0, 1] rfl)
      · refine lv_iload_n hx hb dX9_putSign_12 rfl (lv_at hl 1 rfl) ?_
        refine lv_bipush hx hb dX9_putSign_13 kb_126 ?_
        refine lv_icmp_gt (tgt := 22) hx hb dX9_putSign_15 (by decide) (fun c5 => ?_) (fun c5 => ?_)
        · refine lv_iconst hx hb dX9_putSign_22 ki_0 ?_
          exact j_v1 0 (((if_neg c3).trans (if_neg c4)).trans (if_pos c5)).symm ls (lv_sub hl [0, 1] rfl)
        · refine lv_iconst hx hb dX9_putSign_18 ki_1 ?_
          refine lv_goto (tgt := 23) hx hb dX9_putSign_19 (by decide) ?_
          exact j_v1 1 (((if_neg c3).trans (if_neg c4)).trans (if_neg c5)).symm ls (lv_sub hl [0, 1] rfl)
  exact main _ _ _ hP hS hl

set_option maxHeartbeats 4000000 in
set_option maxRecDepth 100000 in
theorem ctX9_putBytes (l : Launch) {a1 : Int64} {σ σ' : FH} (hf : fX9_putBytes a1 σ = some σ') : fx_Mv l yX9_putBytes cX9_putBytes 4 none (1) LX (fun ad ec => [.ref (ad 3), .long a1]) σ σ' := by
  unfold fX9_putBytes at hf
  refine fx_mv' (own := RX9) rfl (by decide +kernel) ?_
  intro p e s m args below meth c D cy ad ec A hC hr hk hP hS
  have hx := hC.1
  have hb := hC.2.1
  have hl := lv_entry ([.ref (ad 3), .long a1]) (n := 4) (Nat.le_of_ble_eq_true rfl)
  show W _ _ _ _ _ _ _ _ _ _ _ _ _ _ _ (entryFrame m ([.ref (ad 3), .long a1] : List Value).toArray 4)
  rw [lg_entry_eq]
  generalize (lg_sl ([.ref (ad 3), .long a1]) ++ List.replicate (4 - (lg_sl ([.ref (ad 3), .long a1])).length) Slot.unset).toArray = ls at hl ⊢
  have hl : lv_has ls 4 [(0, .ref (ad 3)), (1, .long a1)] := hl
  have main : ∀ (H : Heap) (locs : List Loc) (ls : Array Slot), fx_P D cy LX ad σ H → va_S A s.heap H locs → lv_has ls 4 [(0, .ref (ad 3)), (1, .long a1)] → W p l e (fx_R (1)) s m args below meth c H locs 0 0 (fx_Qv D cy LX ad A below args s σ') (F0 m 0 ls []) := by
    intro H locs ls hP hS hl
    refine lv_bipush hx hb dX9_putBytes_0 kb_56 ?_
    refine lv_istore_n (lv' := [(3, .int 56), (0, .ref (ad 3)), (1, .long a1)]) hx hb dX9_putBytes_2 rfl hl (by decide) rfl (fun ls hl => ?_)
    obtain ⟨K1, hK1, hf⟩ := fxL_e hf
    have k_K1 : ∀ (σ2 : FH) (H : Heap) (locs : List Loc) (ls : Array Slot), fx_P D cy LX ad σ2 H → va_S A s.heap H locs → lv_has ls 4 [] → K1 σ2 = some σ' → W p l e (fx_R (1)) s m args below meth c H locs 0 0 (fx_Qv D cy LX ad A below args s σ') (F0 m 26 ls []) := by
      intro σ2 H locs ls hP hS hl hf
      replace hf := fxk1 hK1 hf
      exact fx_vretf hf hC hr hk hP hS dX9_putBytes_26
    have L11 : ∀ (n6 : Nat) (w3 : Int32) (σ4 : FH) (H : Heap) (locs : List Loc) (ls : Array Slot), fx_P D cy LX ad σ4 H → va_S A s.heap H locs → lv_has ls 4 [(0, .ref (ad 3)), (1, .long a1), (3, .int w3)] → fX9_putBytes_3 a1 K1 n6 w3 σ4 = some σ' → W p l e (fx_R (1)) s m args below meth c H locs 0 0 (fx_Qv D cy LX ad A below args s σ') (F0 m 3 ls []) := by
      intro n6
      induction n6 with
      | zero =>
        intro w3 σ4 H locs ls hP hS hl hf
        rw [fX9_putBytes_3] at hf
        cases hf
      | succ n6 ih5 =>
        intro w3 σ4 H locs ls hP hS hl hf
        rw [fX9_putBytes_3] at hf
        refine lv_iload_n hx hb dX9_putBytes_3 rfl (lv_at hl 2 rfl) ?_
        refine lv_if_lt (tgt := 26) hx hb dX9_putBytes_4 (by decide) (fun c7 => ?_) (fun c7 => ?_)
        · replace hf := fx_it c7 hf
          exact k_K1 σ4 _ _ _ hP hS (lv_sub hl [] rfl) hf
        · replace hf := fx_ie c7 hf
          refine lv_aload_n hx hb dX9_putBytes_7 rfl (lv_at hl 0 rfl) ?_
          refine lv_lload_n hx hb dX9_putBytes_8 rfl (lv_at hl 1 rfl) ?_
          refine lv_iload_n hx hb dX9_putBytes_9 rfl (lv_at hl 2 rfl) ?_
          refine lv_lushr (v := ((Int64.toUInt64 a1 >>> ((Int32.toInt64 w3).toUInt64 &&& Int64.toUInt64 63)).toInt64)) hx hb dX9_putBytes_10 rfl ?_
          refine lv_ldc2 (own := RX9) (v := 255) hx hb hC.2.2.2.1 (hC.2.2.2.2.1 _ kK_X9_15) dX9_putBytes_11 ?_
          refine lv_land hx hb dX9_putBytes_14 ?_
          refine lv_l2i (v := (Int64.toInt32 (((Int64.toUInt64 a1 >>> ((Int32.toInt64 w3).toUInt64 &&& Int64.toUInt64 63)).toInt64) &&& 255))) hx hb dX9_putBytes_15 rfl ?_
          refine lv_i2c (v := ((Int32.toUInt32 (Int64.toInt32 (((Int64.toUInt64 a1 >>> ((Int32.toInt64 w3).toUInt64 &&& Int64.toUInt64 63)).toInt64) &&& 255)) % 65536).toInt32)) hx hb dX9_putBytes_16 rfl ?_
          obtain ⟨σ10, hc8, hf⟩ := fxBV_e hf
          refine fx_cv hC hS (fx_runV (i := 3) (As := [.int ((Int32.toUInt32 (Int64.toInt32 (((Int64.toUInt64 a1 >>> ((Int32.toInt64 w3).toUInt64 &&& Int64.toUInt64 63)).toInt64) &&& 255)) % 65536).toInt32)]) (rest := []) hC hP hS (ctX9_putSign l hc8 D cy ad ec _) kX_3 (by decide) rfl kMV_X9_17 kC_X9_putSign hd_X9_putSign rfl ⟨(Nat.le_of_ble_eq_true rfl), (Nat.le_of_ble_eq_true rfl)⟩ ⟨Nat.le_refl 0, Nat.le_refl 0⟩ hl.1 (Nat.le_of_ble_eq_true rfl) rfl dX9_putBytes_17) (fun H locs hP hS => ?_)
          refine lv_iinc (v := (w3 + (-8))) (lv' := [(3, .int (w3 + (-8))), (0, .ref (ad 3)), (1, .long a1)]) hx hb dX9_putBytes_20 hl (k := 2) rfl (congrArg (fun z => w3 + z) ki_m8) (by decide) rfl (fun ls hl => ?_)
          refine lv_goto (tgt := 3) hx hb dX9_putBytes_23 (by decide) ?_
          exact ih5 (w3 + (-8)) σ10 _ _ _ hP hS (lv_sub hl [1, 2, 0] rfl) hf
    exact L11 FU 56 σ _ _ _ hP hS (lv_sub hl [1, 2, 0] rfl) hf
  exact main _ _ _ hP hS hl
