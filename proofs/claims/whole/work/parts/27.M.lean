set_option maxHeartbeats 4000000 in
set_option maxRecDepth 100000 in
theorem ctX12_thrown (l : Launch) {σ : FH} {v : Int32} (hf : fX12_thrown σ = some v) : fx_Mi l yX12_thrown cX12_thrown 1 (some .int) (0) LM (fun ad ec => [.ref (ad 0)]) σ v σ := by
  unfold fX12_thrown at hf
  refine fx_mi' (own := RX12) rfl (by decide +kernel) ?_
  intro p e s m args below meth c D cy ad ec A hC hr hk hP hS
  have hx := hC.1
  have hb := hC.2.1
  have hl := lv_entry ([.ref (ad 0)]) (n := 1) (Nat.le_of_ble_eq_true rfl)
  show W _ _ _ _ _ _ _ _ _ _ _ _ _ _ _ (entryFrame m ([.ref (ad 0)] : List Value).toArray 1)
  rw [lg_entry_eq]
  generalize (lg_sl ([.ref (ad 0)]) ++ List.replicate (1 - (lg_sl ([.ref (ad 0)])).length) Slot.unset).toArray = ls at hl ⊢
  have hl : lv_has ls 1 [(0, .ref (ad 0))] := hl
  have main : ∀ (H : Heap) (locs : List Loc) (ls : Array Slot), fx_P D cy LM ad σ H → va_S A s.heap H locs → lv_has ls 1 [(0, .ref (ad 0))] → W p l e (fx_R (0)) s m args below meth c H locs 0 0 (fx_Qi D cy LM ad A below args s v σ) (F0 m 0 ls []) := by
    intro H locs ls hP hS hl
    refine lv_aload_n hx hb dX12_thrown_0 rfl (lv_at hl 0 rfl) ?_
    refine gf_X12_133 (v := .int (σ.1 0 0)) hC hP kM_0 rfl dX12_thrown_1 ?_
    exact fx_iretp hf hC hr hk hP hS dX12_thrown_4
  exact main _ _ _ hP hS hl

set_option maxHeartbeats 4000000 in
set_option maxRecDepth 100000 in
theorem ctX12_within (l : Launch) {a0 : Int32} {a1 : Int32} {a2 : Int32} {σ : FH} {v : Int32} (hf : fX12_within a0 a1 a2 σ = some v) : fx_Mi l yX12_within cX12_within 3 (some .boolean) (0) LM (fun ad ec => [.int a0, .int a1, .int a2]) σ v σ := by
  unfold fX12_within at hf
  refine fx_mi' (own := RX12) rfl (by decide +kernel) ?_
  intro p e s m args below meth c D cy ad ec A hC hr hk hP hS
  have hx := hC.1
  have hb := hC.2.1
  have hl := lv_entry ([.int a0, .int a1, .int a2]) (n := 3) (Nat.le_of_ble_eq_true rfl)
  show W _ _ _ _ _ _ _ _ _ _ _ _ _ _ _ (entryFrame m ([.int a0, .int a1, .int a2] : List Value).toArray 3)
  rw [lg_entry_eq]
  generalize (lg_sl ([.int a0, .int a1, .int a2]) ++ List.replicate (3 - (lg_sl ([.int a0, .int a1, .int a2])).length) Slot.unset).toArray = ls at hl ⊢
  have hl : lv_has ls 3 [(0, .int a0), (1, .int a1), (2, .int a2)] := hl
  have main : ∀ (H : Heap) (locs : List Loc) (ls : Array Slot), fx_P D cy LM ad σ H → va_S A s.heap H locs → lv_has ls 3 [(0, .int a0), (1, .int a1), (2, .int a2)] → W p l e (fx_R (0)) s m args below meth c H locs 0 0 (fx_Qi D cy LM ad A below args s v σ) (F0 m 0 ls []) := by
    intro H locs ls hP hS hl
    refine lv_iload_n hx hb dX12_within_0 rfl (lv_at hl 0 rfl) ?_
    refine lv_iload_n hx hb dX12_within_1 rfl (lv_at hl 1 rfl) ?_
    obtain ⟨v1, ev1, hf⟩ := fxL_e hf
    have j_v1 : ∀ (z2 : Int32), z2 = ((if a0 < a1 then 0 else (if a2 < a0 then 0 else 1)) : Int32) → ∀ (ls : Array Slot), lv_has ls 3 [] → W p l e (fx_R (0)) s m args below meth c H locs 0 0 (fx_Qi D cy LM ad A below args s v σ) (F0 m 15 ls [.int z2]) := by
      intro z2 hz2 ls hl
      obtain rfl : v1 = z2 := ev1.trans hz2.symm
      obtain ⟨h5, hf⟩ := fxG_e hf
      exact fx_zretp (fx_bon h5) hf hC hr hk hP hS dX12_within_15
    refine lv_icmp_lt (tgt := 14) hx hb dX12_within_2 (by decide) (fun c3 => ?_) (fun c3 => ?_)
    · refine lv_iconst hx hb dX12_within_14 ki_0 ?_
      exact j_v1 0 (if_pos c3).symm ls (lv_sub hl [] rfl)
    · refine lv_iload_n hx hb dX12_within_5 rfl (lv_at hl 0 rfl) ?_
      refine lv_iload_n hx hb dX12_within_6 rfl (lv_at hl 2 rfl) ?_
      refine lv_icmp_gt (tgt := 14) hx hb dX12_within_7 (by decide) (fun c4 => ?_) (fun c4 => ?_)
      · refine lv_iconst hx hb dX12_within_14 ki_0 ?_
        exact j_v1 0 ((if_neg c3).trans (if_pos c4)).symm ls (lv_sub hl [] rfl)
      · refine lv_iconst hx hb dX12_within_10 ki_1 ?_
        refine lv_goto (tgt := 15) hx hb dX12_within_11 (by decide) ?_
        exact j_v1 1 ((if_neg c3).trans (if_neg c4)).symm ls (lv_sub hl [] rfl)
  exact main _ _ _ hP hS hl

set_option maxHeartbeats 4000000 in
set_option maxRecDepth 100000 in
theorem ctX12_between (l : Launch) {a0 : Int32} {a1 : Int32} {a2 : Int32} {σ : FH} {v : Int32} (hf : fX12_between a0 a1 a2 σ = some v) : fx_Mi l yX12_between cX12_between 3 (some .int) (0) LM (fun ad ec => [.int a0, .int a1, .int a2]) σ v σ := by
  unfold fX12_between at hf
  refine fx_mi' (own := RX12) rfl (by decide +kernel) ?_
  intro p e s m args below meth c D cy ad ec A hC hr hk hP hS
  have hx := hC.1
  have hb := hC.2.1
  have hl := lv_entry ([.int a0, .int a1, .int a2]) (n := 3) (Nat.le_of_ble_eq_true rfl)
  show W _ _ _ _ _ _ _ _ _ _ _ _ _ _ _ (entryFrame m ([.int a0, .int a1, .int a2] : List Value).toArray 3)
  rw [lg_entry_eq]
  generalize (lg_sl ([.int a0, .int a1, .int a2]) ++ List.replicate (3 - (lg_sl ([.int a0, .int a1, .int a2])).length) Slot.unset).toArray = ls at hl ⊢
  have hl : lv_has ls 3 [(0, .int a0), (1, .int a1), (2, .int a2)] := hl
  have main : ∀ (H : Heap) (locs : List Loc) (ls : Array Slot), fx_P D cy LM ad σ H → va_S A s.heap H locs → lv_has ls 3 [(0, .int a0), (1, .int a1), (2, .int a2)] → W p l e (fx_R (0)) s m args below meth c H locs 0 0 (fx_Qi D cy LM ad A below args s v σ) (F0 m 0 ls []) := by
    intro H locs ls hP hS hl
    refine lv_iload_n hx hb dX12_between_0 rfl (lv_at hl 0 rfl) ?_
    refine lv_iload_n hx hb dX12_between_1 rfl (lv_at hl 1 rfl) ?_
    obtain ⟨v1, ev1, hf⟩ := fxL_e hf
    have j_v1 : ∀ (z2 : Int32), z2 = ((if a1 ≤ a0 then (if a0 ≤ a2 then a0 else a2) else a1) : Int32) → ∀ (ls : Array Slot), lv_has ls 3 [] → W p l e (fx_R (0)) s m args below meth c H locs 0 0 (fx_Qi D cy LM ad A below args s v σ) (F0 m 19 ls [.int z2]) := by
      intro z2 hz2 ls hl
      obtain rfl : v1 = z2 := ev1.trans hz2.symm
      exact fx_iretp hf hC hr hk hP hS dX12_between_19
    refine lv_icmp_ge (tgt := 9) hx hb dX12_between_2 (by decide) (fun c3 => ?_) (fun c3 => ?_)
    · refine lv_iload_n hx hb dX12_between_9 rfl (lv_at hl 0 rfl) ?_
      refine lv_iload_n hx hb dX12_between_10 rfl (lv_at hl 2 rfl) ?_
      refine lv_icmp_le (tgt := 18) hx hb dX12_between_11 (by decide) (fun c4 => ?_) (fun c4 => ?_)
      · refine lv_iload_n hx hb dX12_between_18 rfl (lv_at hl 0 rfl) ?_
        exact j_v1 a0 ((if_pos c3).trans (if_pos c4)).symm ls (lv_sub hl [] rfl)
      · refine lv_iload_n hx hb dX12_between_14 rfl (lv_at hl 2 rfl) ?_
        refine lv_goto (tgt := 19) hx hb dX12_between_15 (by decide) ?_
        exact j_v1 a2 ((if_pos c3).trans (if_neg c4)).symm ls (lv_sub hl [] rfl)
    · refine lv_iload_n hx hb dX12_between_5 rfl (lv_at hl 1 rfl) ?_
      refine lv_goto (tgt := 19) hx hb dX12_between_6 (by decide) ?_
      exact j_v1 a1 (if_neg c3).symm ls (lv_sub hl [] rfl)
  exact main _ _ _ hP hS hl

set_option maxHeartbeats 4000000 in
set_option maxRecDepth 100000 in
theorem ctX12_bits (l : Launch) {a0 : Int32} {σ : FH} {v : Int32} (hf : fX12_bits a0 σ = some v) : fx_Mi l yX12_bits cX12_bits 3 (some .int) (0) LM (fun ad ec => [.int a0]) σ v σ := by
  unfold fX12_bits at hf
  refine fx_mi' (own := RX12) rfl (by decide +kernel) ?_
  intro p e s m args below meth c D cy ad ec A hC hr hk hP hS
  have hx := hC.1
  have hb := hC.2.1
  have hl := lv_entry ([.int a0]) (n := 3) (Nat.le_of_ble_eq_true rfl)
  show W _ _ _ _ _ _ _ _ _ _ _ _ _ _ _ (entryFrame m ([.int a0] : List Value).toArray 3)
  rw [lg_entry_eq]
  generalize (lg_sl ([.int a0]) ++ List.replicate (3 - (lg_sl ([.int a0])).length) Slot.unset).toArray = ls at hl ⊢
  have hl : lv_has ls 3 [(0, .int a0)] := hl
  have main : ∀ (H : Heap) (locs : List Loc) (ls : Array Slot), fx_P D cy LM ad σ H → va_S A s.heap H locs → lv_has ls 3 [(0, .int a0)] → W p l e (fx_R (0)) s m args below meth c H locs 0 0 (fx_Qi D cy LM ad A below args s v σ) (F0 m 0 ls []) := by
    intro H locs ls hP hS hl
    refine lv_iconst hx hb dX12_bits_0 ki_0 ?_
    refine lv_istore_n (lv' := [(1, .int 0), (0, .int a0)]) hx hb dX12_bits_1 rfl hl (by decide) rfl (fun ls hl => ?_)
    refine lv_iconst hx hb dX12_bits_2 ki_0 ?_
    refine lv_istore_n (lv' := [(2, .int 0), (1, .int 0), (0, .int a0)]) hx hb dX12_bits_3 rfl hl (by decide) rfl (fun ls hl => ?_)
    obtain ⟨K1, hK1, hf⟩ := fxL_e hf
    have k_K1 : ∀ (x2 : Int32) (H : Heap) (locs : List Loc) (ls : Array Slot), fx_P D cy LM ad σ H → va_S A s.heap H locs → lv_has ls 3 [(1, .int x2)] → K1 x2 = some v → W p l e (fx_R (0)) s m args below meth c H locs 0 0 (fx_Qi D cy LM ad A below args s v σ) (F0 m 24 ls []) := by
      intro x2 H locs ls hP hS hl hf
      replace hf := fxk1 hK1 hf
      refine lv_iload_n hx hb dX12_bits_24 rfl (lv_at hl 0 rfl) ?_
      exact fx_iretp hf hC hr hk hP hS dX12_bits_25
    have L9 : ∀ (n6 : Nat) (w3 : Int32) (w4 : Int32) (H : Heap) (locs : List Loc) (ls : Array Slot), fx_P D cy LM ad σ H → va_S A s.heap H locs → lv_has ls 3 [(0, .int a0), (1, .int w3), (2, .int w4)] → fX12_bits_4 a0 K1 n6 w3 w4 = some v → W p l e (fx_R (0)) s m args below meth c H locs 0 0 (fx_Qi D cy LM ad A below args s v σ) (F0 m 4 ls []) := by
      intro n6
      induction n6 with
      | zero =>
        intro w3 w4 H locs ls hP hS hl hf
        rw [fX12_bits_4] at hf
        cases hf
      | succ n6 ih5 =>
        intro w3 w4 H locs ls hP hS hl hf
        rw [fX12_bits_4] at hf
        refine lv_iload_n hx hb dX12_bits_4 rfl (lv_at hl 2 rfl) ?_
        refine lv_bipush hx hb dX12_bits_5 kb_6 ?_
        refine lv_icmp_ge (tgt := 24) hx hb dX12_bits_7 (by decide) (fun c7 => ?_) (fun c7 => ?_)
        · replace hf := fx_it c7 hf
          exact k_K1 w3 _ _ _ hP hS (lv_sub hl [1] rfl) hf
        · replace hf := fx_ie c7 hf
          refine lv_iload_n hx hb dX12_bits_10 rfl (lv_at hl 1 rfl) ?_
          refine lv_iload_n hx hb dX12_bits_11 rfl (lv_at hl 0 rfl) ?_
          refine lv_iload_n hx hb dX12_bits_12 rfl (lv_at hl 2 rfl) ?_
          refine lv_ishr hx hb dX12_bits_13 ?_
          refine lv_iconst hx hb dX12_bits_14 ki_1 ?_
          refine lv_iand hx hb dX12_bits_15 ?_
          refine lv_iadd hx hb dX12_bits_16 ?_
          obtain ⟨v8, ev8, hf⟩ := fxL_e hf
          refine fx_ti ev8 ?_
          refine lv_istore_n (lv' := [(1, .int v8), (0, .int a0), (2, .int w4)]) hx hb dX12_bits_17 rfl hl (by decide) rfl (fun ls hl => ?_)
          refine lv_iinc (v := (w4 + 1)) (lv' := [(2, .int (w4 + 1)), (1, .int v8), (0, .int a0)]) hx hb dX12_bits_18 hl (k := 2) rfl (congrArg (fun z => w4 + z) ki_1) (by decide) rfl (fun ls hl => ?_)
          refine lv_goto (tgt := 4) hx hb dX12_bits_21 (by decide) ?_
          exact ih5 v8 (w4 + 1) _ _ _ hP hS (lv_sub hl [2, 1, 0] rfl) hf
    exact L9 FU 0 0 _ _ _ hP hS (lv_sub hl [2, 1, 0] rfl) hf
  exact main _ _ _ hP hS hl

set_option maxHeartbeats 4000000 in
set_option maxRecDepth 100000 in
theorem ctX12_feed (l : Launch) {a1 : Int64} {a3 : Int64} {a5 : Int64} {σ σ' : FH} {v : Int32} (hf : fX12_feed a1 a3 a5 σ = some (v, σ')) : fx_Mi l yX12_feed cX12_feed 11 (some .int) (0) LM (fun ad ec => [.ref (ad 0), .long a1, .long a3, .long a5]) σ v σ' := by
  unfold fX12_feed at hf
  refine fx_mi' (own := RX12) rfl (by decide +kernel) ?_
  intro p e s m args below meth c D cy ad ec A hC hr hk hP hS
  have hx := hC.1
  have hb := hC.2.1
  have hl := lv_entry ([.ref (ad 0), .long a1, .long a3, .long a5]) (n := 11) (Nat.le_of_ble_eq_true rfl)
  show W _ _ _ _ _ _ _ _ _ _ _ _ _ _ _ (entryFrame m ([.ref (ad 0), .long a1, .long a3, .long a5] : List Value).toArray 11)
  rw [lg_entry_eq]
  generalize (lg_sl ([.ref (ad 0), .long a1, .long a3, .long a5]) ++ List.replicate (11 - (lg_sl ([.ref (ad 0), .long a1, .long a3, .long a5])).length) Slot.unset).toArray = ls at hl ⊢
  have hl : lv_has ls 11 [(0, .ref (ad 0)), (1, .long a1), (3, .long a3), (5, .long a5)] := hl
  have main : ∀ (H : Heap) (locs : List Loc) (ls : Array Slot), fx_P D cy LM ad σ H → va_S A s.heap H locs → lv_has ls 11 [(0, .ref (ad 0)), (1, .long a1), (3, .long a3), (5, .long a5)] → W p l e (fx_R (0)) s m args below meth c H locs 0 0 (fx_Qi D cy LM ad A below args s v σ') (F0 m 0 ls []) := by
    intro H locs ls hP hS hl
    refine lv_aload_n hx hb dX12_feed_0 rfl (lv_at hl 0 rfl) ?_
    refine lv_iconst hx hb dX12_feed_1 ki_0 ?_
    obtain ⟨σ1, eσ1, hf⟩ := fxL_e hf
    refine pf_X12_133 hC hP hS kM_0 dX12_feed_2 (fun H locs hP hS => ?_)
    replace hP := fx_Pe eσ1 hP
    refine lv_iconst hx hb dX12_feed_5 ki_0 ?_
    refine lv_istore (lv' := [(7, .int 0), (0, .ref (ad 0)), (1, .long a1), (3, .long a3), (5, .long a5)]) hx hb dX12_feed_6 hl (by decide) rfl (fun ls hl => ?_)
    obtain ⟨K2, hK2, hf⟩ := fxL_e hf
    have k_K2 : ∀ (σ3 : FH) (H : Heap) (locs : List Loc) (ls : Array Slot), fx_P D cy LM ad σ3 H → va_S A s.heap H locs → lv_has ls 11 [(0, .ref (ad 0))] → K2 σ3 = some (v, σ') → W p l e (fx_R (0)) s m args below meth c H locs 0 0 (fx_Qi D cy LM ad A below args s v σ') (F0 m 120 ls []) := by
      intro σ3 H locs ls hP hS hl hf
      replace hf := fxk1 hK2 hf
      refine lv_aload_n hx hb dX12_feed_120 rfl (lv_at hl 0 rfl) ?_
      refine gf_X12_139 (v := .int (σ3.1 0 1)) hC hP kM_0 rfl dX12_feed_121 ?_
      exact fx_iretf hf hC hr hk hP hS dX12_feed_124
    have L22 : ∀ (n7 : Nat) (w4 : Int32) (σ5 : FH) (H : Heap) (locs : List Loc) (ls : Array Slot), fx_P D cy LM ad σ5 H → va_S A s.heap H locs → lv_has ls 11 [(0, .ref (ad 0)), (1, .long a1), (3, .long a3), (5, .long a5), (7, .int w4)] → fX12_feed_8 a1 a3 a5 K2 n7 w4 σ5 = some (v, σ') → W p l e (fx_R (0)) s m args below meth c H locs 0 0 (fx_Qi D cy LM ad A below args s v σ') (F0 m 8 ls []) := by
      intro n7
      induction n7 with
      | zero =>
        intro w4 σ5 H locs ls hP hS hl hf
        rw [fX12_feed_8] at hf
        cases hf
      | succ n7 ih6 =>
        intro w4 σ5 H locs ls hP hS hl hf
        rw [fX12_feed_8] at hf
        refine lv_iload hx hb dX12_feed_8 (lv_at hl 4 rfl) ?_
        refine lv_bipush hx hb dX12_feed_10 kb_24 ?_
        refine lv_icmp_ge (tgt := 120) hx hb dX12_feed_12 (by decide) (fun c8 => ?_) (fun c8 => ?_)
        · replace hf := fx_it c8 hf
          exact k_K2 σ5 _ _ _ hP hS (lv_sub hl [0] rfl) hf
        · replace hf := fx_ie c8 hf
          refine lv_iload hx hb dX12_feed_15 (lv_at hl 4 rfl) ?_
          refine lv_bipush hx hb dX12_feed_17 kb_8 ?_
          obtain ⟨v9, ev9, hf⟩ := fxL_e hf
          have j_v9 : ∀ (z10 : Int64), z10 = ((if 8 ≤ w4 then (if 16 ≤ w4 then a5 else a3) else a1) : Int64) → ∀ (ls : Array Slot), lv_has ls 11 [(0, .ref (ad 0)), (1, .long a1), (3, .long a3), (5, .long a5), (7, .int w4)] → W p l e (fx_R (0)) s m args below meth c H locs 0 0 (fx_Qi D cy LM ad A below args s v σ') (F0 m 39 ls [.long z10]) := by
            intro z10 hz10 ls hl
            obtain rfl : v9 = z10 := ev9.trans hz10.symm
            refine lv_lstore (lv' := [(8, .long v9), (0, .ref (ad 0)), (1, .long a1), (3, .long a3), (5, .long a5), (7, .int w4)]) hx hb dX12_feed_39 hl (by decide) rfl (fun ls hl => ?_)
            refine lv_lload hx hb dX12_feed_41 (lv_at hl 0 rfl) ?_
            refine lv_bipush hx hb dX12_feed_43 kb_56 ?_
            refine lv_bipush hx hb dX12_feed_45 kb_8 ?_
            refine lv_iload hx hb dX12_feed_47 (lv_at hl 5 rfl) ?_
            refine lv_bipush hx hb dX12_feed_49 kb_7 ?_
            refine lv_iand hx hb dX12_feed_51 ?_
            refine lv_imul hx hb dX12_feed_52 ?_
            refine lv_isub hx hb dX12_feed_53 ?_
            refine lv_lushr (v := ((Int64.toUInt64 v9 >>> ((Int32.toInt64 (56 - (8 * (w4 &&& 7)))).toUInt64 &&& Int64.toUInt64 63)).toInt64)) hx hb dX12_feed_54 rfl ?_
            refine lv_ldc2 (own := RX12) (v := 255) hx hb hC.2.2.2.1 (hC.2.2.2.2.1 _ kK_X12_137) dX12_feed_55 ?_
            refine lv_land hx hb dX12_feed_58 ?_
            refine lv_l2i (v := (Int64.toInt32 (((Int64.toUInt64 v9 >>> ((Int32.toInt64 (56 - (8 * (w4 &&& 7)))).toUInt64 &&& Int64.toUInt64 63)).toInt64) &&& 255))) hx hb dX12_feed_59 rfl ?_
            obtain ⟨v13, ev13, hf⟩ := fxL_e hf
            refine fx_ti ev13 ?_
            refine lv_istore (lv' := [(10, .int v13), (8, .long v9), (0, .ref (ad 0)), (1, .long a1), (3, .long a3), (5, .long a5), (7, .int w4)]) hx hb dX12_feed_60 hl (by decide) rfl (fun ls hl => ?_)
            refine lv_aload_n hx hb dX12_feed_62 rfl (lv_at hl 2 rfl) ?_
            refine gf_X12_139 (v := .int (σ5.1 0 1)) hC hP kM_0 rfl dX12_feed_63 ?_
            refine lv_sipush hx hb dX12_feed_66 ks_1000 ?_
            refine lv_icmp_ge (tgt := 114) hx hb dX12_feed_69 (by decide) (fun c14 => ?_) (fun c14 => ?_)
            · replace hf := fx_it c14 hf
              refine lv_iinc (v := (w4 + 1)) (lv' := [(7, .int (w4 + 1)), (10, .int v13), (8, .long v9), (0, .ref (ad 0)), (1, .long a1), (3, .long a3), (5, .long a5)]) hx hb dX12_feed_114 hl (k := 6) rfl (congrArg (fun z => w4 + z) ki_1) (by decide) rfl (fun ls hl => ?_)
              refine lv_goto (tgt := 8) hx hb dX12_feed_117 (by decide) ?_
              exact ih6 (w4 + 1) σ5 _ _ _ hP hS (lv_sub hl [3, 4, 5, 6, 0] rfl) hf
            · replace hf := fx_ie c14 hf
              refine lv_iload hx hb dX12_feed_72 (lv_at hl 0 rfl) ?_
              refine lv_bipush hx hb dX12_feed_74 kb_10 ?_
              obtain ⟨J15, hJ15, hf⟩ := fxL_e hf
              have j_J15 : ∀  (H : Heap) (locs : List Loc) (ls : Array Slot), fx_P D cy LM ad σ5 H → va_S A s.heap H locs → lv_has ls 11 [(0, .ref (ad 0)), (1, .long a1), (3, .long a3), (5, .long a5), (7, .int w4), (10, .int v13)] → J15 = some (v, σ') → W p l e (fx_R (0)) s m args below meth c H locs 0 0 (fx_Qi D cy LM ad A below args s v σ') (F0 m 93 ls []) := by
                intro  H locs ls hP hS hl hf
                replace hf := hJ15.symm.trans hf
                refine lv_aload_n hx hb dX12_feed_93 rfl (lv_at hl 0 rfl) ?_
                refine gf_X12_7 (v := .ref (ad 1)) hC hP kM_0 rfl dX12_feed_94 ?_
                refine lv_aload_n hx hb dX12_feed_97 rfl (lv_at hl 0 rfl) ?_
                refine gf_X12_139 (v := .int (σ5.1 0 1)) hC hP kM_0 rfl dX12_feed_98 ?_
                refine lv_iload hx hb dX12_feed_101 (lv_at hl 5 rfl) ?_
                obtain ⟨h16, hf⟩ := fxG_e hf
                obtain ⟨σ17, eσ17, hf⟩ := fxL_e hf
                refine fx_iast hC hP hS kM_1 (fx_inp h16) dX12_feed_103 (fun H locs hP hS => ?_)
                replace hP := fx_Pe eσ17 hP
                refine lv_aload_n hx hb dX12_feed_104 rfl (lv_at hl 0 rfl) ?_
                refine lv_dup hx hb dX12_feed_105 rfl ?_
                refine gf_X12_139 (v := .int (σ17.1 0 1)) hC hP kM_0 rfl dX12_feed_106 ?_
                refine lv_iconst hx hb dX12_feed_109 ki_1 ?_
                refine lv_iadd hx hb dX12_feed_110 ?_
                obtain ⟨σ18, eσ18, hf⟩ := fxL_e hf
                refine pf_X12_139 hC hP hS kM_0 dX12_feed_111 (fun H locs hP hS => ?_)
                replace hP := fx_Pe eσ18 hP
                refine lv_iinc (v := (w4 + 1)) (lv' := [(7, .int (w4 + 1)), (0, .ref (ad 0)), (1, .long a1), (3, .long a3), (5, .long a5), (10, .int v13)]) hx hb dX12_feed_114 hl (k := 4) rfl (congrArg (fun z => w4 + z) ki_1) (by decide) rfl (fun ls hl => ?_)
                refine lv_goto (tgt := 8) hx hb dX12_feed_117 (by decide) ?_
                exact ih6 (w4 + 1) σ18 _ _ _ hP hS (lv_sub hl [1, 2, 3, 4, 0] rfl) hf
              refine lv_icmp_eq (tgt := 93) hx hb dX12_feed_76 (by decide) (fun c19 => ?_) (fun c19 => ?_)
              · replace hf := fx_it c19 hf
                exact j_J15  _ _ _ hP hS (lv_sub hl [2, 3, 4, 5, 6, 0] rfl) hf
              · replace hf := fx_ie c19 hf
                refine lv_iload hx hb dX12_feed_79 (lv_at hl 0 rfl) ?_
                refine lv_bipush hx hb dX12_feed_81 kb_32 ?_
                refine lv_icmp_lt (tgt := 114) hx hb dX12_feed_83 (by decide) (fun c20 => ?_) (fun c20 => ?_)
                · replace hf := fx_it c20 hf
                  refine lv_iinc (v := (w4 + 1)) (lv' := [(7, .int (w4 + 1)), (10, .int v13), (8, .long v9), (0, .ref (ad 0)), (1, .long a1), (3, .long a3), (5, .long a5)]) hx hb dX12_feed_114 hl (k := 6) rfl (congrArg (fun z => w4 + z) ki_1) (by decide) rfl (fun ls hl => ?_)
                  refine lv_goto (tgt := 8) hx hb dX12_feed_117 (by decide) ?_
                  exact ih6 (w4 + 1) σ5 _ _ _ hP hS (lv_sub hl [3, 4, 5, 6, 0] rfl) hf
                · replace hf := fx_ie c20 hf
                  refine lv_iload hx hb dX12_feed_86 (lv_at hl 0 rfl) ?_
                  refine lv_bipush hx hb dX12_feed_88 kb_126 ?_
                  refine lv_icmp_gt (tgt := 114) hx hb dX12_feed_90 (by decide) (fun c21 => ?_) (fun c21 => ?_)
                  · replace hf := fx_it c21 hf
                    refine lv_iinc (v := (w4 + 1)) (lv' := [(7, .int (w4 + 1)), (10, .int v13), (8, .long v9), (0, .ref (ad 0)), (1, .long a1), (3, .long a3), (5, .long a5)]) hx hb dX12_feed_114 hl (k := 6) rfl (congrArg (fun z => w4 + z) ki_1) (by decide) rfl (fun ls hl => ?_)
                    refine lv_goto (tgt := 8) hx hb dX12_feed_117 (by decide) ?_
                    exact ih6 (w4 + 1) σ5 _ _ _ hP hS (lv_sub hl [3, 4, 5, 6, 0] rfl) hf
                  · replace hf := fx_ie c21 hf
                    exact j_J15  _ _ _ hP hS (lv_sub hl [2, 3, 4, 5, 6, 0] rfl) hf
          refine lv_icmp_ge (tgt := 26) hx hb dX12_feed_19 (by decide) (fun c11 => ?_) (fun c11 => ?_)
          · refine lv_iload hx hb dX12_feed_26 (lv_at hl 4 rfl) ?_
            refine lv_bipush hx hb dX12_feed_28 kb_16 ?_
            refine lv_icmp_ge (tgt := 37) hx hb dX12_feed_30 (by decide) (fun c12 => ?_) (fun c12 => ?_)
            · refine lv_lload hx hb dX12_feed_37 (lv_at hl 3 rfl) ?_
              exact j_v9 a5 ((if_pos c11).trans (if_pos c12)).symm ls (lv_sub hl [0, 1, 2, 3, 4] rfl)
            · refine lv_lload_n hx hb dX12_feed_33 rfl (lv_at hl 2 rfl) ?_
              refine lv_goto (tgt := 39) hx hb dX12_feed_34 (by decide) ?_
              exact j_v9 a3 ((if_pos c11).trans (if_neg c12)).symm ls (lv_sub hl [0, 1, 2, 3, 4] rfl)
          · refine lv_lload_n hx hb dX12_feed_22 rfl (lv_at hl 1 rfl) ?_
            refine lv_goto (tgt := 39) hx hb dX12_feed_23 (by decide) ?_
            exact j_v9 a1 (if_neg c11).symm ls (lv_sub hl [0, 1, 2, 3, 4] rfl)
    exact L22 FU 0 σ1 _ _ _ hP hS (lv_sub hl [1, 2, 3, 4, 0] rfl) hf
  exact main _ _ _ hP hS hl

set_option maxHeartbeats 4000000 in
set_option maxRecDepth 100000 in
theorem ctX12_signAt (l : Launch) {a1 : Int32} {σ : FH} {v : Int32} (hf : fX12_signAt a1 σ = some v) : fx_Mi l yX12_signAt cX12_signAt 2 (some .int) (0) LM (fun ad ec => [.ref (ad 0), .int a1]) σ v σ := by
  unfold fX12_signAt at hf
  refine fx_mi' (own := RX12) rfl (by decide +kernel) ?_
  intro p e s m args below meth c D cy ad ec A hC hr hk hP hS
  have hx := hC.1
  have hb := hC.2.1
  have hl := lv_entry ([.ref (ad 0), .int a1]) (n := 2) (Nat.le_of_ble_eq_true rfl)
  show W _ _ _ _ _ _ _ _ _ _ _ _ _ _ _ (entryFrame m ([.ref (ad 0), .int a1] : List Value).toArray 2)
  rw [lg_entry_eq]
  generalize (lg_sl ([.ref (ad 0), .int a1]) ++ List.replicate (2 - (lg_sl ([.ref (ad 0), .int a1])).length) Slot.unset).toArray = ls at hl ⊢
  have hl : lv_has ls 2 [(0, .ref (ad 0)), (1, .int a1)] := hl
  have main : ∀ (H : Heap) (locs : List Loc) (ls : Array Slot), fx_P D cy LM ad σ H → va_S A s.heap H locs → lv_has ls 2 [(0, .ref (ad 0)), (1, .int a1)] → W p l e (fx_R (0)) s m args below meth c H locs 0 0 (fx_Qi D cy LM ad A below args s v σ) (F0 m 0 ls []) := by
    intro H locs ls hP hS hl
    refine lv_iload_n hx hb dX12_signAt_0 rfl (lv_at hl 1 rfl) ?_
    refine lv_aload_n hx hb dX12_signAt_1 rfl (lv_at hl 0 rfl) ?_
    refine gf_X12_142 (v := .int (σ.1 0 3)) hC hP kM_0 rfl dX12_signAt_2 ?_
    refine lv_icmp_ge (tgt := 17) hx hb dX12_signAt_5 (by decide) (fun c1 => ?_) (fun c1 => ?_)
    · replace hf := fx_it c1 hf
      refine lv_iconst hx hb dX12_signAt_17 ki_0 ?_
      exact fx_iretp hf hC hr hk hP hS dX12_signAt_18
    · replace hf := fx_ie c1 hf
      refine lv_aload_n hx hb dX12_signAt_8 rfl (lv_at hl 0 rfl) ?_
      refine gf_X12_7 (v := .ref (ad 1)) hC hP kM_0 rfl dX12_signAt_9 ?_
      refine lv_iload_n hx hb dX12_signAt_12 rfl (lv_at hl 1 rfl) ?_
      obtain ⟨h2, hf⟩ := fxG_e hf
      refine fx_iald hC hP kM_1 (fx_inp h2) dX12_signAt_13 ?_
      refine lv_goto (tgt := 18) hx hb dX12_signAt_14 (by decide) ?_
      exact fx_iretp hf hC hr hk hP hS dX12_signAt_18
  exact main _ _ _ hP hS hl

set_option maxHeartbeats 4000000 in
set_option maxRecDepth 100000 in
theorem ctX12_nextToken (l : Launch) {σ σ' : FH} (hf : fX12_nextToken σ = some σ') : fx_Mv l yX12_nextToken cX12_nextToken 2 none (1) LM (fun ad ec => [.ref (ad 0)]) σ σ' := by
  unfold fX12_nextToken at hf
  refine fx_mv' (own := RX12) rfl (by decide +kernel) ?_
  intro p e s m args below meth c D cy ad ec A hC hr hk hP hS
  have hx := hC.1
  have hb := hC.2.1
  have hl := lv_entry ([.ref (ad 0)]) (n := 2) (Nat.le_of_ble_eq_true rfl)
  show W _ _ _ _ _ _ _ _ _ _ _ _ _ _ _ (entryFrame m ([.ref (ad 0)] : List Value).toArray 2)
  rw [lg_entry_eq]
  generalize (lg_sl ([.ref (ad 0)]) ++ List.replicate (2 - (lg_sl ([.ref (ad 0)])).length) Slot.unset).toArray = ls at hl ⊢
  have hl : lv_has ls 2 [(0, .ref (ad 0))] := hl
  have main : ∀ (H : Heap) (locs : List Loc) (ls : Array Slot), fx_P D cy LM ad σ H → va_S A s.heap H locs → lv_has ls 2 [(0, .ref (ad 0))] → W p l e (fx_R (1)) s m args below meth c H locs 0 0 (fx_Qv D cy LM ad A below args s σ') (F0 m 0 ls []) := by
    intro H locs ls hP hS hl
    obtain ⟨K1, hK1, hf⟩ := fxL_e hf
    have k_K1 : ∀ (σ2 : FH) (H : Heap) (locs : List Loc) (ls : Array Slot), fx_P D cy LM ad σ2 H → va_S A s.heap H locs → lv_has ls 2 [(0, .ref (ad 0))] → K1 σ2 = some σ' → W p l e (fx_R (1)) s m args below meth c H locs 0 0 (fx_Qv D cy LM ad A below args s σ') (F0 m 52 ls []) := by
      intro σ2 H locs ls hP hS hl hf
      replace hf := fxk1 hK1 hf
      refine lv_aload_n hx hb dX12_nextToken_52 rfl (lv_at hl 0 rfl) ?_
      refine lv_aload_n hx hb dX12_nextToken_53 rfl (lv_at hl 0 rfl) ?_
      refine gf_X12_145 (v := .int (σ2.1 0 4)) hC hP kM_0 rfl dX12_nextToken_54 ?_
      obtain ⟨σ3, eσ3, hf⟩ := fxL_e hf
      refine pf_X12_148 hC hP hS kM_0 dX12_nextToken_57 (fun H locs hP hS => ?_)
      replace hP := fx_Pe eσ3 hP
      refine lv_aload_n hx hb dX12_nextToken_60 rfl (lv_at hl 0 rfl) ?_
      refine lv_lconst (v := 0) hx hb dX12_nextToken_61 rfl ?_
      obtain ⟨σ4, eσ4, hf⟩ := fxL_e hf
      refine pf_X12_151 hC hP hS kM_0 dX12_nextToken_62 (fun H locs hP hS => ?_)
      replace hP := fx_Pe eσ4 hP
      refine lv_aload_n hx hb dX12_nextToken_65 rfl (lv_at hl 0 rfl) ?_
      refine lv_iconst hx hb dX12_nextToken_66 ki_0 ?_
      obtain ⟨σ5, eσ5, hf⟩ := fxL_e hf
      refine pf_X12_155 hC hP hS kM_0 dX12_nextToken_67 (fun H locs hP hS => ?_)
      replace hP := fx_Pe eσ5 hP
      refine lv_aload_n hx hb dX12_nextToken_70 rfl (lv_at hl 0 rfl) ?_
      refine gf_X12_145 (v := .int (σ5.1 0 4)) hC hP kM_0 rfl dX12_nextToken_71 ?_
      refine lv_aload_n hx hb dX12_nextToken_74 rfl (lv_at hl 0 rfl) ?_
      refine gf_X12_142 (v := .int (σ5.1 0 3)) hC hP kM_0 rfl dX12_nextToken_75 ?_
      refine lv_icmp_ne (tgt := 87) hx hb dX12_nextToken_78 (by decide) (fun c6 => ?_) (fun c6 => ?_)
      · replace hf := fx_ie c6 hf
        refine lv_aload_n hx hb dX12_nextToken_87 rfl (lv_at hl 0 rfl) ?_
        refine gf_X12_7 (v := .ref (ad 1)) hC hP kM_0 rfl dX12_nextToken_88 ?_
        refine lv_aload_n hx hb dX12_nextToken_91 rfl (lv_at hl 0 rfl) ?_
        refine gf_X12_145 (v := .int (σ5.1 0 4)) hC hP kM_0 rfl dX12_nextToken_92 ?_
        obtain ⟨h7, hf⟩ := fxG_e hf
        refine fx_iald hC hP kM_1 (fx_inp h7) dX12_nextToken_95 ?_
        obtain ⟨v8, ev8, hf⟩ := fxL_e hf
        refine fx_ti ev8 ?_
        refine lv_istore_n (lv' := [(1, .int v8), (0, .ref (ad 0))]) hx hb dX12_nextToken_96 rfl hl (by decide) rfl (fun ls hl => ?_)
        refine lv_iload_n hx hb dX12_nextToken_97 rfl (lv_at hl 0 rfl) ?_
        refine lv_bipush hx hb dX12_nextToken_98 kb_97 ?_
        obtain ⟨J9, hJ9, hf⟩ := fxL_e hf
        have j_J9 : ∀  (H : Heap) (locs : List Loc) (ls : Array Slot), fx_P D cy LM ad σ5 H → va_S A s.heap H locs → lv_has ls 2 [(0, .ref (ad 0)), (1, .int v8)] → J9 = some σ' → W p l e (fx_R (1)) s m args below meth c H locs 0 0 (fx_Qv D cy LM ad A below args s σ') (F0 m 212 ls []) := by
          intro  H locs ls hP hS hl hf
          replace hf := hJ9.symm.trans hf
          refine lv_iload_n hx hb dX12_nextToken_212 rfl (lv_at hl 1 rfl) ?_
          refine lv_bipush hx hb dX12_nextToken_213 kb_48 ?_
          obtain ⟨J10, hJ10, hf⟩ := fxL_e hf
          have j_J10 : ∀  (H : Heap) (locs : List Loc) (ls : Array Slot), fx_P D cy LM ad σ5 H → va_S A s.heap H locs → lv_has ls 2 [(0, .ref (ad 0)), (1, .int v8)] → J10 = some σ' → W p l e (fx_R (1)) s m args below meth c H locs 0 0 (fx_Qv D cy LM ad A below args s σ') (F0 m 322 ls []) := by
            intro  H locs ls hP hS hl hf
            replace hf := hJ10.symm.trans hf
            refine lv_aload_n hx hb dX12_nextToken_322 rfl (lv_at hl 0 rfl) ?_
            refine lv_dup hx hb dX12_nextToken_323 rfl ?_
            refine gf_X12_145 (v := .int (σ5.1 0 4)) hC hP kM_0 rfl dX12_nextToken_324 ?_
            refine lv_iconst hx hb dX12_nextToken_327 ki_1 ?_
            refine lv_iadd hx hb dX12_nextToken_328 ?_
            obtain ⟨σ11, eσ11, hf⟩ := fxL_e hf
            refine pf_X12_145 hC hP hS kM_0 dX12_nextToken_329 (fun H locs hP hS => ?_)
            replace hP := fx_Pe eσ11 hP
            refine lv_aload_n hx hb dX12_nextToken_332 rfl (lv_at hl 0 rfl) ?_
            refine lv_iload_n hx hb dX12_nextToken_333 rfl (lv_at hl 1 rfl) ?_
            refine lv_bipush hx hb dX12_nextToken_334 kb_40 ?_
            obtain ⟨v12, ev12, hf⟩ := fxL_e hf
            have j_v12 : ∀ (z13 : Int32), z13 = ((if v8 < 40 then (if v8 = 45 then 3 else (if v8 < 59 then 4 else (if 61 < v8 then 4 else 3))) else (if v8 ≤ 43 then 3 else (if v8 = 45 then 3 else (if v8 < 59 then 4 else (if 61 < v8 then 4 else 3))))) : Int32) → ∀ (ls : Array Slot), lv_has ls 2 [] → W p l e (fx_R (1)) s m args below meth c H locs 0 0 (fx_Qv D cy LM ad A below args s σ') (F0 m 368 ls [.int z13, .ref (ad 0)]) := by
              intro z13 hz13 ls hl
              obtain rfl : v12 = z13 := ev12.trans hz13.symm
              obtain ⟨σ22, eσ22, hf⟩ := fxL_e hf
              refine pf_X12_158 hC hP hS kM_0 dX12_nextToken_368 (fun H locs hP hS => ?_)
              replace hP := fx_Pe eσ22 hP
              exact fx_vretf hf hC hr hk hP hS dX12_nextToken_371
            refine lv_icmp_lt (tgt := 345) hx hb dX12_nextToken_336 (by decide) (fun c14 => ?_) (fun c14 => ?_)
            · refine lv_iload_n hx hb dX12_nextToken_345 rfl (lv_at hl 1 rfl) ?_
              refine lv_bipush hx hb dX12_nextToken_346 kb_45 ?_
              refine lv_icmp_eq (tgt := 363) hx hb dX12_nextToken_348 (by decide) (fun c15 => ?_) (fun c15 => ?_)
              · refine lv_iconst hx hb dX12_nextToken_363 ki_3 ?_
                refine lv_goto (tgt := 368) hx hb dX12_nextToken_364 (by decide) ?_
                exact j_v12 3 ((if_pos c14).trans (if_pos c15)).symm ls (lv_sub hl [] rfl)
              · refine lv_iload_n hx hb dX12_nextToken_351 rfl (lv_at hl 1 rfl) ?_
                refine lv_bipush hx hb dX12_nextToken_352 kb_59 ?_
                refine lv_icmp_lt (tgt := 367) hx hb dX12_nextToken_354 (by decide) (fun c16 => ?_) (fun c16 => ?_)
                · refine lv_iconst hx hb dX12_nextToken_367 ki_4 ?_
                  exact j_v12 4 (((if_pos c14).trans (if_neg c15)).trans (if_pos c16)).symm ls (lv_sub hl [] rfl)
                · refine lv_iload_n hx hb dX12_nextToken_357 rfl (lv_at hl 1 rfl) ?_
                  refine lv_bipush hx hb dX12_nextToken_358 kb_61 ?_
                  refine lv_icmp_gt (tgt := 367) hx hb dX12_nextToken_360 (by decide) (fun c17 => ?_) (fun c17 => ?_)
                  · refine lv_iconst hx hb dX12_nextToken_367 ki_4 ?_
                    exact j_v12 4 ((((if_pos c14).trans (if_neg c15)).trans (if_neg c16)).trans (if_pos c17)).symm ls (lv_sub hl [] rfl)
                  · refine lv_iconst hx hb dX12_nextToken_363 ki_3 ?_
                    refine lv_goto (tgt := 368) hx hb dX12_nextToken_364 (by decide) ?_
                    exact j_v12 3 ((((if_pos c14).trans (if_neg c15)).trans (if_neg c16)).trans (if_neg c17)).symm ls (lv_sub hl [] rfl)
            · refine lv_iload_n hx hb dX12_nextToken_339 rfl (lv_at hl 1 rfl) ?_
              refine lv_bipush hx hb dX12_nextToken_340 kb_43 ?_
              refine lv_icmp_le (tgt := 363) hx hb dX12_nextToken_342 (by decide) (fun c18 => ?_) (fun c18 => ?_)
              · refine lv_iconst hx hb dX12_nextToken_363 ki_3 ?_
                refine lv_goto (tgt := 368) hx hb dX12_nextToken_364 (by decide) ?_
                exact j_v12 3 ((if_neg c14).trans (if_pos c18)).symm ls (lv_sub hl [] rfl)
              · refine lv_iload_n hx hb dX12_nextToken_345 rfl (lv_at hl 1 rfl) ?_
                refine lv_bipush hx hb dX12_nextToken_346 kb_45 ?_
                refine lv_icmp_eq (tgt := 363) hx hb dX12_nextToken_348 (by decide) (fun c19 => ?_) (fun c19 => ?_)
                · refine lv_iconst hx hb dX12_nextToken_363 ki_3 ?_
                  refine lv_goto (tgt := 368) hx hb dX12_nextToken_364 (by decide) ?_
                  exact j_v12 3 (((if_neg c14).trans (if_neg c18)).trans (if_pos c19)).symm ls (lv_sub hl [] rfl)
                · refine lv_iload_n hx hb dX12_nextToken_351 rfl (lv_at hl 1 rfl) ?_
                  refine lv_bipush hx hb dX12_nextToken_352 kb_59 ?_
                  refine lv_icmp_lt (tgt := 367) hx hb dX12_nextToken_354 (by decide) (fun c20 => ?_) (fun c20 => ?_)
                  · refine lv_iconst hx hb dX12_nextToken_367 ki_4 ?_
                    exact j_v12 4 ((((if_neg c14).trans (if_neg c18)).trans (if_neg c19)).trans (if_pos c20)).symm ls (lv_sub hl [] rfl)
                  · refine lv_iload_n hx hb dX12_nextToken_357 rfl (lv_at hl 1 rfl) ?_
                    refine lv_bipush hx hb dX12_nextToken_358 kb_61 ?_
                    refine lv_icmp_gt (tgt := 367) hx hb dX12_nextToken_360 (by decide) (fun c21 => ?_) (fun c21 => ?_)
                    · refine lv_iconst hx hb dX12_nextToken_367 ki_4 ?_
                      exact j_v12 4 (((((if_neg c14).trans (if_neg c18)).trans (if_neg c19)).trans (if_neg c20)).trans (if_pos c21)).symm ls (lv_sub hl [] rfl)
                    · refine lv_iconst hx hb dX12_nextToken_363 ki_3 ?_
                      refine lv_goto (tgt := 368) hx hb dX12_nextToken_364 (by decide) ?_
                      exact j_v12 3 (((((if_neg c14).trans (if_neg c18)).trans (if_neg c19)).trans (if_neg c20)).trans (if_neg c21)).symm ls (lv_sub hl [] rfl)
          refine lv_icmp_lt (tgt := 322) hx hb dX12_nextToken_215 (by decide) (fun c23 => ?_) (fun c23 => ?_)
          · replace hf := fx_it c23 hf
            exact j_J10  _ _ _ hP hS (lv_sub hl [0, 1] rfl) hf
          · replace hf := fx_ie c23 hf
            refine lv_iload_n hx hb dX12_nextToken_218 rfl (lv_at hl 1 rfl) ?_
            refine lv_bipush hx hb dX12_nextToken_219 kb_57 ?_
            refine lv_icmp_gt (tgt := 322) hx hb dX12_nextToken_221 (by decide) (fun c24 => ?_) (fun c24 => ?_)
            · replace hf := fx_it c24 hf
              exact j_J10  _ _ _ hP hS (lv_sub hl [0, 1] rfl) hf
            · replace hf := fx_ie c24 hf
              obtain ⟨K25, hK25, hf⟩ := fxL_e hf
              have k_K25 : ∀ (σ26 : FH) (H : Heap) (locs : List Loc) (ls : Array Slot), fx_P D cy LM ad σ26 H → va_S A s.heap H locs → lv_has ls 2 [(0, .ref (ad 0))] → K25 σ26 = some σ' → W p l e (fx_R (1)) s m args below meth c H locs 0 0 (fx_Qv D cy LM ad A below args s σ') (F0 m 299 ls []) := by
                intro σ26 H locs ls hP hS hl hf
                replace hf := fxk1 hK25 hf
                refine lv_aload_n hx hb dX12_nextToken_299 rfl (lv_at hl 0 rfl) ?_
                refine lv_aload_n hx hb dX12_nextToken_300 rfl (lv_at hl 0 rfl) ?_
                refine gf_X12_145 (v := .int (σ26.1 0 4)) hC hP kM_0 rfl dX12_nextToken_301 ?_
                refine lv_aload_n hx hb dX12_nextToken_304 rfl (lv_at hl 0 rfl) ?_
                refine gf_X12_148 (v := .int (σ26.1 0 5)) hC hP kM_0 rfl dX12_nextToken_305 ?_
                refine lv_isub hx hb dX12_nextToken_308 ?_
                refine lv_iconst hx hb dX12_nextToken_309 ki_4 ?_
                obtain ⟨v27, ev27, hf⟩ := fxL_e hf
                have j_v27 : ∀ (z28 : Int32), z28 = ((if ((σ26.1 0 4) - (σ26.1 0 5)) ≤ 4 then 2 else 4) : Int32) → ∀ (ls : Array Slot), lv_has ls 2 [] → W p l e (fx_R (1)) s m args below meth c H locs 0 0 (fx_Qv D cy LM ad A below args s σ') (F0 m 318 ls [.int z28, .ref (ad 0)]) := by
                  intro z28 hz28 ls hl
                  obtain rfl : v27 = z28 := ev27.trans hz28.symm
                  obtain ⟨σ30, eσ30, hf⟩ := fxL_e hf
                  refine pf_X12_158 hC hP hS kM_0 dX12_nextToken_318 (fun H locs hP hS => ?_)
                  replace hP := fx_Pe eσ30 hP
                  exact fx_vretf hf hC hr hk hP hS dX12_nextToken_321
                refine lv_icmp_le (tgt := 317) hx hb dX12_nextToken_310 (by decide) (fun c29 => ?_) (fun c29 => ?_)
                · refine lv_iconst hx hb dX12_nextToken_317 ki_2 ?_
                  exact j_v27 2 (if_pos c29).symm ls (lv_sub hl [] rfl)
                · refine lv_iconst hx hb dX12_nextToken_313 ki_4 ?_
                  refine lv_goto (tgt := 318) hx hb dX12_nextToken_314 (by decide) ?_
                  exact j_v27 4 (if_neg c29).symm ls (lv_sub hl [] rfl)
              have L50 : ∀ (n33 : Nat) (σ31 : FH) (H : Heap) (locs : List Loc) (ls : Array Slot), fx_P D cy LM ad σ31 H → va_S A s.heap H locs → lv_has ls 2 [(0, .ref (ad 0))] → fX12_nextToken_224 K25 n33 σ31 = some σ' → W p l e (fx_R (1)) s m args below meth c H locs 0 0 (fx_Qv D cy LM ad A below args s σ') (F0 m 224 ls []) := by
                intro n33
                induction n33 with
                | zero =>
                  intro σ31 H locs ls hP hS hl hf
                  rw [fX12_nextToken_224] at hf
                  cases hf
                | succ n33 ih32 =>
                  intro σ31 H locs ls hP hS hl hf
                  rw [fX12_nextToken_224] at hf
                  refine lv_aload_n hx hb dX12_nextToken_224 rfl (lv_at hl 0 rfl) ?_
                  refine lv_aload_n hx hb dX12_nextToken_225 rfl (lv_at hl 0 rfl) ?_
                  refine gf_X12_145 (v := .int (σ31.1 0 4)) hC hP kM_0 rfl dX12_nextToken_226 ?_
                  obtain ⟨r35, hc34, hf⟩ := fxBP_e hf
                  refine fx_ci hC hS (fx_runV (i := 0) (As := [.int (σ31.1 0 4)]) (rest := []) hC hP hS (ctX12_signAt l hc34 D cy ad ec _) kM_0 (by decide) rfl kMV_X12_161 kC_X12_signAt hd_X12_signAt rfl ⟨(Nat.le_of_ble_eq_true rfl), (Nat.le_of_ble_eq_true rfl)⟩ ⟨Nat.le_refl 0, Nat.le_refl 0⟩ hl.1 (Nat.le_of_ble_eq_true rfl) rfl dX12_nextToken_229) (fun H locs hP hS => ?_)
                  refine lv_bipush hx hb dX12_nextToken_232 kb_48 ?_
                  refine lv_icmp_lt (tgt := 299) hx hb dX12_nextToken_234 (by decide) (fun c37 => ?_) (fun c37 => ?_)
                  · replace hf := fx_it c37 hf
                    exact k_K25 σ31 _ _ _ hP hS (lv_sub hl [0] rfl) hf
                  · replace hf := fx_ie c37 hf
                    refine lv_aload_n hx hb dX12_nextToken_237 rfl (lv_at hl 0 rfl) ?_
                    refine lv_aload_n hx hb dX12_nextToken_238 rfl (lv_at hl 0 rfl) ?_
                    refine gf_X12_145 (v := .int (σ31.1 0 4)) hC hP kM_0 rfl dX12_nextToken_239 ?_
                    obtain ⟨r39, hc38, hf⟩ := fxBP_e hf
                    refine fx_ci hC hS (fx_runV (i := 0) (As := [.int (σ31.1 0 4)]) (rest := []) hC hP hS (ctX12_signAt l hc38 D cy ad ec _) kM_0 (by decide) rfl kMV_X12_161 kC_X12_signAt hd_X12_signAt rfl ⟨(Nat.le_of_ble_eq_true rfl), (Nat.le_of_ble_eq_true rfl)⟩ ⟨Nat.le_refl 0, Nat.le_refl 0⟩ hl.1 (Nat.le_of_ble_eq_true rfl) rfl dX12_nextToken_242) (fun H locs hP hS => ?_)
                    refine lv_bipush hx hb dX12_nextToken_245 kb_57 ?_
                    refine lv_icmp_gt (tgt := 299) hx hb dX12_nextToken_247 (by decide) (fun c41 => ?_) (fun c41 => ?_)
                    · replace hf := fx_it c41 hf
                      exact k_K25 σ31 _ _ _ hP hS (lv_sub hl [0] rfl) hf
                    · replace hf := fx_ie c41 hf
                      refine lv_aload_n hx hb dX12_nextToken_250 rfl (lv_at hl 0 rfl) ?_
                      refine gf_X12_145 (v := .int (σ31.1 0 4)) hC hP kM_0 rfl dX12_nextToken_251 ?_
                      refine lv_aload_n hx hb dX12_nextToken_254 rfl (lv_at hl 0 rfl) ?_
                      refine gf_X12_148 (v := .int (σ31.1 0 5)) hC hP kM_0 rfl dX12_nextToken_255 ?_
                      refine lv_isub hx hb dX12_nextToken_258 ?_
                      refine lv_iconst hx hb dX12_nextToken_259 ki_4 ?_
                      obtain ⟨J42, hJ42, hf⟩ := fxL_e hf
                      have j_J42 : ∀ (σ43 : FH) (H : Heap) (locs : List Loc) (ls : Array Slot), fx_P D cy LM ad σ43 H → va_S A s.heap H locs → lv_has ls 2 [(0, .ref (ad 0))] → J42 σ43 = some σ' → W p l e (fx_R (1)) s m args below meth c H locs 0 0 (fx_Qv D cy LM ad A below args s σ') (F0 m 286 ls []) := by
                        intro σ43 H locs ls hP hS hl hf
                        replace hf := fxk1 hJ42 hf
                        refine lv_aload_n hx hb dX12_nextToken_286 rfl (lv_at hl 0 rfl) ?_
                        refine lv_dup hx hb dX12_nextToken_287 rfl ?_
                        refine gf_X12_145 (v := .int (σ43.1 0 4)) hC hP kM_0 rfl dX12_nextToken_288 ?_
                        refine lv_iconst hx hb dX12_nextToken_291 ki_1 ?_
                        refine lv_iadd hx hb dX12_nextToken_292 ?_
                        obtain ⟨σ44, eσ44, hf⟩ := fxL_e hf
                        refine pf_X12_145 hC hP hS kM_0 dX12_nextToken_293 (fun H locs hP hS => ?_)
                        replace hP := fx_Pe eσ44 hP
                        refine lv_goto (tgt := 224) hx hb dX12_nextToken_296 (by decide) ?_
                        exact ih32 σ44 _ _ _ hP hS (lv_sub hl [0] rfl) hf
                      refine lv_icmp_ge (tgt := 286) hx hb dX12_nextToken_260 (by decide) (fun c45 => ?_) (fun c45 => ?_)
                      · replace hf := fx_it c45 hf
                        exact j_J42 σ31 _ _ _ hP hS (lv_sub hl [0] rfl) hf
                      · replace hf := fx_ie c45 hf
                        refine lv_aload_n hx hb dX12_nextToken_263 rfl (lv_at hl 0 rfl) ?_
                        refine lv_aload_n hx hb dX12_nextToken_264 rfl (lv_at hl 0 rfl) ?_
                        refine gf_X12_155 (v := .int (σ31.1 0 8)) hC hP kM_0 rfl dX12_nextToken_265 ?_
                        refine lv_bipush hx hb dX12_nextToken_268 kb_10 ?_
                        refine lv_imul hx hb dX12_nextToken_270 ?_
                        refine lv_aload_n hx hb dX12_nextToken_271 rfl (lv_at hl 0 rfl) ?_
                        refine lv_aload_n hx hb dX12_nextToken_272 rfl (lv_at hl 0 rfl) ?_
                        refine gf_X12_145 (v := .int (σ31.1 0 4)) hC hP kM_0 rfl dX12_nextToken_273 ?_
                        obtain ⟨r47, hc46, hf⟩ := fxBP_e hf
                        refine fx_ci hC hS (fx_runV (i := 0) (As := [.int (σ31.1 0 4)]) (rest := [.int ((σ31.1 0 8) * 10), .ref (ad 0)]) hC hP hS (ctX12_signAt l hc46 D cy ad ec _) kM_0 (by decide) rfl kMV_X12_161 kC_X12_signAt hd_X12_signAt rfl ⟨(Nat.le_of_ble_eq_true rfl), (Nat.le_of_ble_eq_true rfl)⟩ ⟨Nat.le_refl 0, Nat.le_refl 0⟩ hl.1 (Nat.le_of_ble_eq_true rfl) rfl dX12_nextToken_276) (fun H locs hP hS => ?_)
                        refine lv_iadd hx hb dX12_nextToken_279 ?_
                        refine lv_bipush hx hb dX12_nextToken_280 kb_48 ?_
                        refine lv_isub hx hb dX12_nextToken_282 ?_
                        obtain ⟨σ49, eσ49, hf⟩ := fxL_e hf
                        refine pf_X12_155 hC hP hS kM_0 dX12_nextToken_283 (fun H locs hP hS => ?_)
                        replace hP := fx_Pe eσ49 hP
                        exact j_J42 σ49 _ _ _ hP hS (lv_sub hl [0] rfl) hf
              exact L50 FU σ5 _ _ _ hP hS (lv_sub hl [0] rfl) hf
        refine lv_icmp_lt (tgt := 212) hx hb dX12_nextToken_100 (by decide) (fun c51 => ?_) (fun c51 => ?_)
        · replace hf := fx_it c51 hf
          exact j_J9  _ _ _ hP hS (lv_sub hl [1, 0] rfl) hf
        · replace hf := fx_ie c51 hf
          refine lv_iload_n hx hb dX12_nextToken_103 rfl (lv_at hl 0 rfl) ?_
          refine lv_bipush hx hb dX12_nextToken_104 kb_122 ?_
          refine lv_icmp_gt (tgt := 212) hx hb dX12_nextToken_106 (by decide) (fun c52 => ?_) (fun c52 => ?_)
          · replace hf := fx_it c52 hf
            exact j_J9  _ _ _ hP hS (lv_sub hl [1, 0] rfl) hf
          · replace hf := fx_ie c52 hf
            obtain ⟨K53, hK53, hf⟩ := fxL_e hf
            have k_K53 : ∀ (σ54 : FH) (H : Heap) (locs : List Loc) (ls : Array Slot), fx_P D cy LM ad σ54 H → va_S A s.heap H locs → lv_has ls 2 [(0, .ref (ad 0))] → K53 σ54 = some σ' → W p l e (fx_R (1)) s m args below meth c H locs 0 0 (fx_Qv D cy LM ad A below args s σ') (F0 m 188 ls []) := by
              intro σ54 H locs ls hP hS hl hf
              replace hf := fxk1 hK53 hf
              refine lv_aload_n hx hb dX12_nextToken_188 rfl (lv_at hl 0 rfl) ?_
              refine lv_aload_n hx hb dX12_nextToken_189 rfl (lv_at hl 0 rfl) ?_
              refine gf_X12_145 (v := .int (σ54.1 0 4)) hC hP kM_0 rfl dX12_nextToken_190 ?_
              refine lv_aload_n hx hb dX12_nextToken_193 rfl (lv_at hl 0 rfl) ?_
              refine gf_X12_148 (v := .int (σ54.1 0 5)) hC hP kM_0 rfl dX12_nextToken_194 ?_
              refine lv_isub hx hb dX12_nextToken_197 ?_
              refine lv_bipush hx hb dX12_nextToken_198 kb_8 ?_
              obtain ⟨v55, ev55, hf⟩ := fxL_e hf
              have j_v55 : ∀ (z56 : Int32), z56 = ((if ((σ54.1 0 4) - (σ54.1 0 5)) ≤ 8 then 1 else 4) : Int32) → ∀ (ls : Array Slot), lv_has ls 2 [] → W p l e (fx_R (1)) s m args below meth c H locs 0 0 (fx_Qv D cy LM ad A below args s σ') (F0 m 208 ls [.int z56, .ref (ad 0)]) := by
                intro z56 hz56 ls hl
                obtain rfl : v55 = z56 := ev55.trans hz56.symm
                obtain ⟨σ58, eσ58, hf⟩ := fxL_e hf
                refine pf_X12_158 hC hP hS kM_0 dX12_nextToken_208 (fun H locs hP hS => ?_)
                replace hP := fx_Pe eσ58 hP
                exact fx_vretf hf hC hr hk hP hS dX12_nextToken_211
              refine lv_icmp_le (tgt := 207) hx hb dX12_nextToken_200 (by decide) (fun c57 => ?_) (fun c57 => ?_)
              · refine lv_iconst hx hb dX12_nextToken_207 ki_1 ?_
                exact j_v55 1 (if_pos c57).symm ls (lv_sub hl [] rfl)
              · refine lv_iconst hx hb dX12_nextToken_203 ki_4 ?_
                refine lv_goto (tgt := 208) hx hb dX12_nextToken_204 (by decide) ?_
                exact j_v55 4 (if_neg c57).symm ls (lv_sub hl [] rfl)
            have L78 : ∀ (n61 : Nat) (σ59 : FH) (H : Heap) (locs : List Loc) (ls : Array Slot), fx_P D cy LM ad σ59 H → va_S A s.heap H locs → lv_has ls 2 [(0, .ref (ad 0))] → fX12_nextToken_109 K53 n61 σ59 = some σ' → W p l e (fx_R (1)) s m args below meth c H locs 0 0 (fx_Qv D cy LM ad A below args s σ') (F0 m 109 ls []) := by
              intro n61
              induction n61 with
              | zero =>
                intro σ59 H locs ls hP hS hl hf
                rw [fX12_nextToken_109] at hf
                cases hf
              | succ n61 ih60 =>
                intro σ59 H locs ls hP hS hl hf
                rw [fX12_nextToken_109] at hf
                refine lv_aload_n hx hb dX12_nextToken_109 rfl (lv_at hl 0 rfl) ?_
                refine lv_aload_n hx hb dX12_nextToken_110 rfl (lv_at hl 0 rfl) ?_
                refine gf_X12_145 (v := .int (σ59.1 0 4)) hC hP kM_0 rfl dX12_nextToken_111 ?_
                obtain ⟨r63, hc62, hf⟩ := fxBP_e hf
                refine fx_ci hC hS (fx_runV (i := 0) (As := [.int (σ59.1 0 4)]) (rest := []) hC hP hS (ctX12_signAt l hc62 D cy ad ec _) kM_0 (by decide) rfl kMV_X12_161 kC_X12_signAt hd_X12_signAt rfl ⟨(Nat.le_of_ble_eq_true rfl), (Nat.le_of_ble_eq_true rfl)⟩ ⟨Nat.le_refl 0, Nat.le_refl 0⟩ hl.1 (Nat.le_of_ble_eq_true rfl) rfl dX12_nextToken_114) (fun H locs hP hS => ?_)
                refine lv_bipush hx hb dX12_nextToken_117 kb_97 ?_
                refine lv_icmp_lt (tgt := 188) hx hb dX12_nextToken_119 (by decide) (fun c65 => ?_) (fun c65 => ?_)
                · replace hf := fx_it c65 hf
                  exact k_K53 σ59 _ _ _ hP hS (lv_sub hl [0] rfl) hf
                · replace hf := fx_ie c65 hf
                  refine lv_aload_n hx hb dX12_nextToken_122 rfl (lv_at hl 0 rfl) ?_
                  refine lv_aload_n hx hb dX12_nextToken_123 rfl (lv_at hl 0 rfl) ?_
                  refine gf_X12_145 (v := .int (σ59.1 0 4)) hC hP kM_0 rfl dX12_nextToken_124 ?_
                  obtain ⟨r67, hc66, hf⟩ := fxBP_e hf
                  refine fx_ci hC hS (fx_runV (i := 0) (As := [.int (σ59.1 0 4)]) (rest := []) hC hP hS (ctX12_signAt l hc66 D cy ad ec _) kM_0 (by decide) rfl kMV_X12_161 kC_X12_signAt hd_X12_signAt rfl ⟨(Nat.le_of_ble_eq_true rfl), (Nat.le_of_ble_eq_true rfl)⟩ ⟨Nat.le_refl 0, Nat.le_refl 0⟩ hl.1 (Nat.le_of_ble_eq_true rfl) rfl dX12_nextToken_127) (fun H locs hP hS => ?_)
                  refine lv_bipush hx hb dX12_nextToken_130 kb_122 ?_
                  refine lv_icmp_gt (tgt := 188) hx hb dX12_nextToken_132 (by decide) (fun c69 => ?_) (fun c69 => ?_)
                  · replace hf := fx_it c69 hf
                    exact k_K53 σ59 _ _ _ hP hS (lv_sub hl [0] rfl) hf
                  · replace hf := fx_ie c69 hf
                    refine lv_aload_n hx hb dX12_nextToken_135 rfl (lv_at hl 0 rfl) ?_
                    refine gf_X12_145 (v := .int (σ59.1 0 4)) hC hP kM_0 rfl dX12_nextToken_136 ?_
                    refine lv_aload_n hx hb dX12_nextToken_139 rfl (lv_at hl 0 rfl) ?_
                    refine gf_X12_148 (v := .int (σ59.1 0 5)) hC hP kM_0 rfl dX12_nextToken_140 ?_
                    refine lv_isub hx hb dX12_nextToken_143 ?_
                    refine lv_bipush hx hb dX12_nextToken_144 kb_8 ?_
                    obtain ⟨J70, hJ70, hf⟩ := fxL_e hf
                    have j_J70 : ∀ (σ71 : FH) (H : Heap) (locs : List Loc) (ls : Array Slot), fx_P D cy LM ad σ71 H → va_S A s.heap H locs → lv_has ls 2 [(0, .ref (ad 0))] → J70 σ71 = some σ' → W p l e (fx_R (1)) s m args below meth c H locs 0 0 (fx_Qv D cy LM ad A below args s σ') (F0 m 175 ls []) := by
                      intro σ71 H locs ls hP hS hl hf
                      replace hf := fxk1 hJ70 hf
                      refine lv_aload_n hx hb dX12_nextToken_175 rfl (lv_at hl 0 rfl) ?_
                      refine lv_dup hx hb dX12_nextToken_176 rfl ?_
                      refine gf_X12_145 (v := .int (σ71.1 0 4)) hC hP kM_0 rfl dX12_nextToken_177 ?_
                      refine lv_iconst hx hb dX12_nextToken_180 ki_1 ?_
                      refine lv_iadd hx hb dX12_nextToken_181 ?_
                      obtain ⟨σ72, eσ72, hf⟩ := fxL_e hf
                      refine pf_X12_145 hC hP hS kM_0 dX12_nextToken_182 (fun H locs hP hS => ?_)
                      replace hP := fx_Pe eσ72 hP
                      refine lv_goto (tgt := 109) hx hb dX12_nextToken_185 (by decide) ?_
                      exact ih60 σ72 _ _ _ hP hS (lv_sub hl [0] rfl) hf
                    refine lv_icmp_ge (tgt := 175) hx hb dX12_nextToken_146 (by decide) (fun c73 => ?_) (fun c73 => ?_)
                    · replace hf := fx_it c73 hf
                      exact j_J70 σ59 _ _ _ hP hS (lv_sub hl [0] rfl) hf
                    · replace hf := fx_ie c73 hf
                      refine lv_aload_n hx hb dX12_nextToken_149 rfl (lv_at hl 0 rfl) ?_
                      refine lv_aload_n hx hb dX12_nextToken_150 rfl (lv_at hl 0 rfl) ?_
                      refine gf_X12_151 (v := .long (σ59.2.1 0 7)) hC hP kM_0 rfl dX12_nextToken_151 ?_
                      refine lv_ldc2 (own := RX12) (v := 27) hx hb hC.2.2.2.1 (hC.2.2.2.2.1 _ kK_X12_165) dX12_nextToken_154 ?_
                      refine lv_lmul hx hb dX12_nextToken_157 ?_
                      refine lv_aload_n hx hb dX12_nextToken_158 rfl (lv_at hl 0 rfl) ?_
                      refine lv_aload_n hx hb dX12_nextToken_159 rfl (lv_at hl 0 rfl) ?_
                      refine gf_X12_145 (v := .int (σ59.1 0 4)) hC hP kM_0 rfl dX12_nextToken_160 ?_
                      obtain ⟨r75, hc74, hf⟩ := fxBP_e hf
                      refine fx_ci hC hS (fx_runV (i := 0) (As := [.int (σ59.1 0 4)]) (rest := [.long ((σ59.2.1 0 7) * 27), .ref (ad 0)]) hC hP hS (ctX12_signAt l hc74 D cy ad ec _) kM_0 (by decide) rfl kMV_X12_161 kC_X12_signAt hd_X12_signAt rfl ⟨(Nat.le_of_ble_eq_true rfl), (Nat.le_of_ble_eq_true rfl)⟩ ⟨Nat.le_refl 0, Nat.le_refl 0⟩ hl.1 (Nat.le_of_ble_eq_true rfl) rfl dX12_nextToken_163) (fun H locs hP hS => ?_)
                      refine lv_i2l (v := (Int32.toInt64 r75)) hx hb dX12_nextToken_166 rfl ?_
                      refine lv_ladd hx hb dX12_nextToken_167 ?_
                      refine lv_ldc2 (own := RX12) (v := 96) hx hb hC.2.2.2.1 (hC.2.2.2.2.1 _ kK_X12_167) dX12_nextToken_168 ?_
                      refine lv_lsub hx hb dX12_nextToken_171 ?_
                      obtain ⟨σ77, eσ77, hf⟩ := fxL_e hf
                      refine pf_X12_151 hC hP hS kM_0 dX12_nextToken_172 (fun H locs hP hS => ?_)
                      replace hP := fx_Pe eσ77 hP
                      exact j_J70 σ77 _ _ _ hP hS (lv_sub hl [0] rfl) hf
            exact L78 FU σ5 _ _ _ hP hS (lv_sub hl [1] rfl) hf
      · replace hf := fx_it c6 hf
        refine lv_aload_n hx hb dX12_nextToken_81 rfl (lv_at hl 0 rfl) ?_
        refine lv_iconst hx hb dX12_nextToken_82 ki_0 ?_
        obtain ⟨σ79, eσ79, hf⟩ := fxL_e hf
        refine pf_X12_158 hC hP hS kM_0 dX12_nextToken_83 (fun H locs hP hS => ?_)
        replace hP := fx_Pe eσ79 hP
        exact fx_vretf hf hC hr hk hP hS dX12_nextToken_86
    have L90 : ∀ (n82 : Nat) (σ80 : FH) (H : Heap) (locs : List Loc) (ls : Array Slot), fx_P D cy LM ad σ80 H → va_S A s.heap H locs → lv_has ls 2 [(0, .ref (ad 0))] → fX12_nextToken_0 K1 n82 σ80 = some σ' → W p l e (fx_R (1)) s m args below meth c H locs 0 0 (fx_Qv D cy LM ad A below args s σ') (F0 m 0 ls []) := by
      intro n82
      induction n82 with
      | zero =>
        intro σ80 H locs ls hP hS hl hf
        rw [fX12_nextToken_0] at hf
        cases hf
      | succ n82 ih81 =>
        intro σ80 H locs ls hP hS hl hf
        rw [fX12_nextToken_0] at hf
        refine lv_aload_n hx hb dX12_nextToken_0 rfl (lv_at hl 0 rfl) ?_
        refine gf_X12_145 (v := .int (σ80.1 0 4)) hC hP kM_0 rfl dX12_nextToken_1 ?_
        refine lv_aload_n hx hb dX12_nextToken_4 rfl (lv_at hl 0 rfl) ?_
        refine gf_X12_142 (v := .int (σ80.1 0 3)) hC hP kM_0 rfl dX12_nextToken_5 ?_
        refine lv_icmp_ge (tgt := 52) hx hb dX12_nextToken_8 (by decide) (fun c83 => ?_) (fun c83 => ?_)
        · replace hf := fx_it c83 hf
          exact k_K1 σ80 _ _ _ hP hS (lv_sub hl [0] rfl) hf
        · replace hf := fx_ie c83 hf
          refine lv_aload_n hx hb dX12_nextToken_11 rfl (lv_at hl 0 rfl) ?_
          refine gf_X12_7 (v := .ref (ad 1)) hC hP kM_0 rfl dX12_nextToken_12 ?_
          refine lv_aload_n hx hb dX12_nextToken_15 rfl (lv_at hl 0 rfl) ?_
          refine gf_X12_145 (v := .int (σ80.1 0 4)) hC hP kM_0 rfl dX12_nextToken_16 ?_
          obtain ⟨h84, hf⟩ := fxG_e hf
          refine fx_iald hC hP kM_1 (fx_inp h84) dX12_nextToken_19 ?_
          refine lv_bipush hx hb dX12_nextToken_20 kb_32 ?_
          obtain ⟨J85, hJ85, hf⟩ := fxL_e hf
          have j_J85 : ∀  (H : Heap) (locs : List Loc) (ls : Array Slot), fx_P D cy LM ad σ80 H → va_S A s.heap H locs → lv_has ls 2 [(0, .ref (ad 0))] → J85 = some σ' → W p l e (fx_R (1)) s m args below meth c H locs 0 0 (fx_Qv D cy LM ad A below args s σ') (F0 m 39 ls []) := by
            intro  H locs ls hP hS hl hf
            replace hf := hJ85.symm.trans hf
            refine lv_aload_n hx hb dX12_nextToken_39 rfl (lv_at hl 0 rfl) ?_
            refine lv_dup hx hb dX12_nextToken_40 rfl ?_
            refine gf_X12_145 (v := .int (σ80.1 0 4)) hC hP kM_0 rfl dX12_nextToken_41 ?_
            refine lv_iconst hx hb dX12_nextToken_44 ki_1 ?_
            refine lv_iadd hx hb dX12_nextToken_45 ?_
            obtain ⟨σ86, eσ86, hf⟩ := fxL_e hf
            refine pf_X12_145 hC hP hS kM_0 dX12_nextToken_46 (fun H locs hP hS => ?_)
            replace hP := fx_Pe eσ86 hP
            refine lv_goto (tgt := 0) hx hb dX12_nextToken_49 (by decide) ?_
            exact ih81 σ86 _ _ _ hP hS (lv_sub hl [0] rfl) hf
          refine lv_icmp_eq (tgt := 39) hx hb dX12_nextToken_22 (by decide) (fun c87 => ?_) (fun c87 => ?_)
          · replace hf := fx_it c87 hf
            exact j_J85  _ _ _ hP hS (lv_sub hl [0] rfl) hf
          · replace hf := fx_ie c87 hf
            refine lv_aload_n hx hb dX12_nextToken_25 rfl (lv_at hl 0 rfl) ?_
            refine gf_X12_7 (v := .ref (ad 1)) hC hP kM_0 rfl dX12_nextToken_26 ?_
            refine lv_aload_n hx hb dX12_nextToken_29 rfl (lv_at hl 0 rfl) ?_
            refine gf_X12_145 (v := .int (σ80.1 0 4)) hC hP kM_0 rfl dX12_nextToken_30 ?_
            obtain ⟨h88, hf⟩ := fxG_e hf
            refine fx_iald hC hP kM_1 (fx_inp h88) dX12_nextToken_33 ?_
            refine lv_bipush hx hb dX12_nextToken_34 kb_10 ?_
            refine lv_icmp_ne (tgt := 52) hx hb dX12_nextToken_36 (by decide) (fun c89 => ?_) (fun c89 => ?_)
            · replace hf := fx_ie c89 hf
              exact k_K1 σ80 _ _ _ hP hS (lv_sub hl [0] rfl) hf
            · replace hf := fx_it c89 hf
              exact j_J85  _ _ _ hP hS (lv_sub hl [0] rfl) hf
    exact L90 FU σ _ _ _ hP hS (lv_sub hl [0] rfl) hf
  exact main _ _ _ hP hS hl

set_option maxHeartbeats 4000000 in
set_option maxRecDepth 100000 in
theorem ctX12_isWord (l : Launch) {a1 : Int64} {σ : FH} {v : Int32} (hf : fX12_isWord a1 σ = some v) : fx_Mi l yX12_isWord cX12_isWord 3 (some .boolean) (0) LM (fun ad ec => [.ref (ad 0), .long a1]) σ v σ := by
  unfold fX12_isWord at hf
  refine fx_mi' (own := RX12) rfl (by decide +kernel) ?_
  intro p e s m args below meth c D cy ad ec A hC hr hk hP hS
  have hx := hC.1
  have hb := hC.2.1
  have hl := lv_entry ([.ref (ad 0), .long a1]) (n := 3) (Nat.le_of_ble_eq_true rfl)
  show W _ _ _ _ _ _ _ _ _ _ _ _ _ _ _ (entryFrame m ([.ref (ad 0), .long a1] : List Value).toArray 3)
  rw [lg_entry_eq]
  generalize (lg_sl ([.ref (ad 0), .long a1]) ++ List.replicate (3 - (lg_sl ([.ref (ad 0), .long a1])).length) Slot.unset).toArray = ls at hl ⊢
  have hl : lv_has ls 3 [(0, .ref (ad 0)), (1, .long a1)] := hl
  have main : ∀ (H : Heap) (locs : List Loc) (ls : Array Slot), fx_P D cy LM ad σ H → va_S A s.heap H locs → lv_has ls 3 [(0, .ref (ad 0)), (1, .long a1)] → W p l e (fx_R (0)) s m args below meth c H locs 0 0 (fx_Qi D cy LM ad A below args s v σ) (F0 m 0 ls []) := by
    intro H locs ls hP hS hl
    refine lv_aload_n hx hb dX12_isWord_0 rfl (lv_at hl 0 rfl) ?_
    refine gf_X12_158 (v := .int (σ.1 0 6)) hC hP kM_0 rfl dX12_isWord_1 ?_
    refine lv_iconst hx hb dX12_isWord_4 ki_1 ?_
    obtain ⟨v1, ev1, hf⟩ := fxL_e hf
    have j_v1 : ∀ (z2 : Int32), z2 = ((if (σ.1 0 6) = 1 then (if (lg_cmp (σ.2.1 0 7) a1) = 0 then 1 else 0) else 0) : Int32) → ∀ (ls : Array Slot), lv_has ls 3 [] → W p l e (fx_R (0)) s m args below meth c H locs 0 0 (fx_Qi D cy LM ad A below args s v σ) (F0 m 22 ls [.int z2]) := by
      intro z2 hz2 ls hl
      obtain rfl : v1 = z2 := ev1.trans hz2.symm
      obtain ⟨h5, hf⟩ := fxG_e hf
      exact fx_zretp (fx_bon h5) hf hC hr hk hP hS dX12_isWord_22
    refine lv_icmp_ne (tgt := 21) hx hb dX12_isWord_5 (by decide) (fun c3 => ?_) (fun c3 => ?_)
    · refine lv_iconst hx hb dX12_isWord_21 ki_0 ?_
      exact j_v1 0 (if_neg c3).symm ls (lv_sub hl [] rfl)
    · refine lv_aload_n hx hb dX12_isWord_8 rfl (lv_at hl 0 rfl) ?_
      refine gf_X12_151 (v := .long (σ.2.1 0 7)) hC hP kM_0 rfl dX12_isWord_9 ?_
      refine lv_lload_n hx hb dX12_isWord_12 rfl (lv_at hl 1 rfl) ?_
      refine W.lcmp hx hb dX12_isWord_13 ?_
      refine lv_if_ne (tgt := 21) hx hb dX12_isWord_14 (by decide) (fun c4 => ?_) (fun c4 => ?_)
      · refine lv_iconst hx hb dX12_isWord_21 ki_0 ?_
        exact j_v1 0 ((if_pos c3).trans (if_neg c4)).symm ls (lv_sub hl [] rfl)
      · refine lv_iconst hx hb dX12_isWord_17 ki_1 ?_
        refine lv_goto (tgt := 22) hx hb dX12_isWord_18 (by decide) ?_
        exact j_v1 1 ((if_pos c3).trans (if_pos c4)).symm ls (lv_sub hl [] rfl)
  exact main _ _ _ hP hS hl

set_option maxHeartbeats 4000000 in
set_option maxRecDepth 100000 in
theorem ctX12_isSign (l : Launch) {a1 : Int32} {σ : FH} {v : Int32} (hf : fX12_isSign a1 σ = some v) : fx_Mi l yX12_isSign cX12_isSign 2 (some .boolean) (0) LM (fun ad ec => [.ref (ad 0), .int a1]) σ v σ := by
  unfold fX12_isSign at hf
  refine fx_mi' (own := RX12) rfl (by decide +kernel) ?_
  intro p e s m args below meth c D cy ad ec A hC hr hk hP hS
  have hx := hC.1
  have hb := hC.2.1
  have hl := lv_entry ([.ref (ad 0), .int a1]) (n := 2) (Nat.le_of_ble_eq_true rfl)
  show W _ _ _ _ _ _ _ _ _ _ _ _ _ _ _ (entryFrame m ([.ref (ad 0), .int a1] : List Value).toArray 2)
  rw [lg_entry_eq]
  generalize (lg_sl ([.ref (ad 0), .int a1]) ++ List.replicate (2 - (lg_sl ([.ref (ad 0), .int a1])).length) Slot.unset).toArray = ls at hl ⊢
  have hl : lv_has ls 2 [(0, .ref (ad 0)), (1, .int a1)] := hl
  have main : ∀ (H : Heap) (locs : List Loc) (ls : Array Slot), fx_P D cy LM ad σ H → va_S A s.heap H locs → lv_has ls 2 [(0, .ref (ad 0)), (1, .int a1)] → W p l e (fx_R (0)) s m args below meth c H locs 0 0 (fx_Qi D cy LM ad A below args s v σ) (F0 m 0 ls []) := by
    intro H locs ls hP hS hl
    refine lv_aload_n hx hb dX12_isSign_0 rfl (lv_at hl 0 rfl) ?_
    refine gf_X12_158 (v := .int (σ.1 0 6)) hC hP kM_0 rfl dX12_isSign_1 ?_
    refine lv_iconst hx hb dX12_isSign_4 ki_3 ?_
    refine lv_icmp_ne (tgt := 25) hx hb dX12_isSign_5 (by decide) (fun c1 => ?_) (fun c1 => ?_)
    · replace hf := fx_ie c1 hf
      refine lv_iconst hx hb dX12_isSign_25 ki_0 ?_
      exact fx_zretp rfl hf hC hr hk hP hS dX12_isSign_26
    · replace hf := fx_it c1 hf
      refine lv_aload_n hx hb dX12_isSign_8 rfl (lv_at hl 0 rfl) ?_
      refine gf_X12_7 (v := .ref (ad 1)) hC hP kM_0 rfl dX12_isSign_9 ?_
      refine lv_aload_n hx hb dX12_isSign_12 rfl (lv_at hl 0 rfl) ?_
      refine gf_X12_148 (v := .int (σ.1 0 5)) hC hP kM_0 rfl dX12_isSign_13 ?_
      obtain ⟨h2, hf⟩ := fxG_e hf
      refine fx_iald hC hP kM_1 (fx_inp h2) dX12_isSign_16 ?_
      refine lv_iload_n hx hb dX12_isSign_17 rfl (lv_at hl 1 rfl) ?_
      refine lv_icmp_ne (tgt := 25) hx hb dX12_isSign_18 (by decide) (fun c3 => ?_) (fun c3 => ?_)
      · replace hf := fx_ie c3 hf
        refine lv_iconst hx hb dX12_isSign_25 ki_0 ?_
        exact fx_zretp rfl hf hC hr hk hP hS dX12_isSign_26
      · replace hf := fx_it c3 hf
        refine lv_iconst hx hb dX12_isSign_21 ki_1 ?_
        refine lv_goto (tgt := 26) hx hb dX12_isSign_22 (by decide) ?_
        exact fx_zretp rfl hf hC hr hk hP hS dX12_isSign_26
  exact main _ _ _ hP hS hl

set_option maxHeartbeats 4000000 in
set_option maxRecDepth 100000 in
theorem ctX12_fails (l : Launch) {a1 : Int32} {σ σ' : FH} {v : Int32} (hf : fX12_fails a1 σ = some (v, σ')) : fx_Mi l yX12_fails cX12_fails 2 (some .boolean) (0) LM (fun ad ec => [.ref (ad 0), .int a1]) σ v σ' := by
  unfold fX12_fails at hf
  refine fx_mi' (own := RX12) rfl (by decide +kernel) ?_
  intro p e s m args below meth c D cy ad ec A hC hr hk hP hS
  have hx := hC.1
  have hb := hC.2.1
  have hl := lv_entry ([.ref (ad 0), .int a1]) (n := 2) (Nat.le_of_ble_eq_true rfl)
  show W _ _ _ _ _ _ _ _ _ _ _ _ _ _ _ (entryFrame m ([.ref (ad 0), .int a1] : List Value).toArray 2)
  rw [lg_entry_eq]
  generalize (lg_sl ([.ref (ad 0), .int a1]) ++ List.replicate (2 - (lg_sl ([.ref (ad 0), .int a1])).length) Slot.unset).toArray = ls at hl ⊢
  have hl : lv_has ls 2 [(0, .ref (ad 0)), (1, .int a1)] := hl
  have main : ∀ (H : Heap) (locs : List Loc) (ls : Array Slot), fx_P D cy LM ad σ H → va_S A s.heap H locs → lv_has ls 2 [(0, .ref (ad 0)), (1, .int a1)] → W p l e (fx_R (0)) s m args below meth c H locs 0 0 (fx_Qi D cy LM ad A below args s v σ') (F0 m 0 ls []) := by
    intro H locs ls hP hS hl
    refine lv_aload_n hx hb dX12_fails_0 rfl (lv_at hl 0 rfl) ?_
    refine lv_iload_n hx hb dX12_fails_1 rfl (lv_at hl 1 rfl) ?_
    refine lv_bipush hx hb dX12_fails_2 kb_16 ?_
    refine lv_aload_n hx hb dX12_fails_4 rfl (lv_at hl 0 rfl) ?_
    refine gf_X12_148 (v := .int (σ.1 0 5)) hC hP kM_0 rfl dX12_fails_5 ?_
    refine lv_imul hx hb dX12_fails_8 ?_
    refine lv_iadd hx hb dX12_fails_9 ?_
    obtain ⟨σ1, eσ1, hf⟩ := fxL_e hf
    refine pf_X12_169 hC hP hS kM_0 dX12_fails_10 (fun H locs hP hS => ?_)
    replace hP := fx_Pe eσ1 hP
    refine lv_iconst hx hb dX12_fails_13 ki_0 ?_
    exact fx_zretf rfl hf hC hr hk hP hS dX12_fails_14
  exact main _ _ _ hP hS hl

set_option maxHeartbeats 4000000 in
set_option maxRecDepth 100000 in
theorem ctX12_usual (l : Launch) {a1 : Int32} {σ σ' : FH} (hf : fX12_usual a1 σ = some σ') : fx_Mv l yX12_usual cX12_usual 2 none (0) LM (fun ad ec => [.ref (ad 0), .int a1]) σ σ' := by
  unfold fX12_usual at hf
  refine fx_mv' (own := RX12) rfl (by decide +kernel) ?_
  intro p e s m args below meth c D cy ad ec A hC hr hk hP hS
  have hx := hC.1
  have hb := hC.2.1
  have hl := lv_entry ([.ref (ad 0), .int a1]) (n := 2) (Nat.le_of_ble_eq_true rfl)
  show W _ _ _ _ _ _ _ _ _ _ _ _ _ _ _ (entryFrame m ([.ref (ad 0), .int a1] : List Value).toArray 2)
  rw [lg_entry_eq]
  generalize (lg_sl ([.ref (ad 0), .int a1]) ++ List.replicate (2 - (lg_sl ([.ref (ad 0), .int a1])).length) Slot.unset).toArray = ls at hl ⊢
  have hl : lv_has ls 2 [(0, .ref (ad 0)), (1, .int a1)] := hl
  have main : ∀ (H : Heap) (locs : List Loc) (ls : Array Slot), fx_P D cy LM ad σ H → va_S A s.heap H locs → lv_has ls 2 [(0, .ref (ad 0)), (1, .int a1)] → W p l e (fx_R (0)) s m args below meth c H locs 0 0 (fx_Qv D cy LM ad A below args s σ') (F0 m 0 ls []) := by
    intro H locs ls hP hS hl
    refine lv_aload_n hx hb dX12_usual_0 rfl (lv_at hl 0 rfl) ?_
    refine gf_X12_13 (v := .ref (ad 2)) hC hP kM_0 rfl dX12_usual_1 ?_
    refine lv_iconst hx hb dX12_usual_4 ki_3 ?_
    refine lv_iload_n hx hb dX12_usual_5 rfl (lv_at hl 1 rfl) ?_
    refine lv_imul hx hb dX12_usual_6 ?_
    refine lv_iconst hx hb dX12_usual_7 ki_0 ?_
    refine lv_iadd hx hb dX12_usual_8 ?_
    refine lv_iconst hx hb dX12_usual_9 ki_0 ?_
    obtain ⟨h1, hf⟩ := fxG_e hf
    obtain ⟨σ2, eσ2, hf⟩ := fxL_e hf
    refine fx_iast hC hP hS kM_2 (fx_inp h1) dX12_usual_10 (fun H locs hP hS => ?_)
    replace hP := fx_Pe eσ2 hP
    refine lv_aload_n hx hb dX12_usual_11 rfl (lv_at hl 0 rfl) ?_
    refine gf_X12_13 (v := .ref (ad 2)) hC hP kM_0 rfl dX12_usual_12 ?_
    refine lv_iconst hx hb dX12_usual_15 ki_3 ?_
    refine lv_iload_n hx hb dX12_usual_16 rfl (lv_at hl 1 rfl) ?_
    refine lv_imul hx hb dX12_usual_17 ?_
    refine lv_iconst hx hb dX12_usual_18 ki_1 ?_
    refine lv_iadd hx hb dX12_usual_19 ?_
    refine lv_iconst hx hb dX12_usual_20 ki_0 ?_
    obtain ⟨h3, hf⟩ := fxG_e hf
    obtain ⟨σ4, eσ4, hf⟩ := fxL_e hf
    refine fx_iast hC hP hS kM_2 (fx_inp h3) dX12_usual_21 (fun H locs hP hS => ?_)
    replace hP := fx_Pe eσ4 hP
    refine lv_aload_n hx hb dX12_usual_22 rfl (lv_at hl 0 rfl) ?_
    refine gf_X12_13 (v := .ref (ad 2)) hC hP kM_0 rfl dX12_usual_23 ?_
    refine lv_iconst hx hb dX12_usual_26 ki_3 ?_
    refine lv_iload_n hx hb dX12_usual_27 rfl (lv_at hl 1 rfl) ?_
    refine lv_imul hx hb dX12_usual_28 ?_
    refine lv_iconst hx hb dX12_usual_29 ki_2 ?_
    refine lv_iadd hx hb dX12_usual_30 ?_
    refine lv_iconst hx hb dX12_usual_31 ki_2 ?_
    obtain ⟨h5, hf⟩ := fxG_e hf
    obtain ⟨σ6, eσ6, hf⟩ := fxL_e hf
    refine fx_iast hC hP hS kM_2 (fx_inp h5) dX12_usual_32 (fun H locs hP hS => ?_)
    replace hP := fx_Pe eσ6 hP
    exact fx_vretf hf hC hr hk hP hS dX12_usual_33
  exact main _ _ _ hP hS hl

set_option maxHeartbeats 4000000 in
set_option maxRecDepth 100000 in
theorem ctX12_puts (l : Launch) {a1 : Int32} {σ σ' : FH} (hf : fX12_puts a1 σ = some σ') : fx_Mv l yX12_puts cX12_puts 2 none (0) LM (fun ad ec => [.ref (ad 0), .int a1]) σ σ' := by
  unfold fX12_puts at hf
  refine fx_mv' (own := RX12) rfl (by decide +kernel) ?_
  intro p e s m args below meth c D cy ad ec A hC hr hk hP hS
  have hx := hC.1
  have hb := hC.2.1
  have hl := lv_entry ([.ref (ad 0), .int a1]) (n := 2) (Nat.le_of_ble_eq_true rfl)
  show W _ _ _ _ _ _ _ _ _ _ _ _ _ _ _ (entryFrame m ([.ref (ad 0), .int a1] : List Value).toArray 2)
  rw [lg_entry_eq]
  generalize (lg_sl ([.ref (ad 0), .int a1]) ++ List.replicate (2 - (lg_sl ([.ref (ad 0), .int a1])).length) Slot.unset).toArray = ls at hl ⊢
  have hl : lv_has ls 2 [(0, .ref (ad 0)), (1, .int a1)] := hl
  have main : ∀ (H : Heap) (locs : List Loc) (ls : Array Slot), fx_P D cy LM ad σ H → va_S A s.heap H locs → lv_has ls 2 [(0, .ref (ad 0)), (1, .int a1)] → W p l e (fx_R (0)) s m args below meth c H locs 0 0 (fx_Qv D cy LM ad A below args s σ') (F0 m 0 ls []) := by
    intro H locs ls hP hS hl
    refine lv_aload_n hx hb dX12_puts_0 rfl (lv_at hl 0 rfl) ?_
    refine gf_X12_44 (v := .ref (ad 12)) hC hP kM_0 rfl dX12_puts_1 ?_
    refine lv_aload_n hx hb dX12_puts_4 rfl (lv_at hl 0 rfl) ?_
    refine gf_X12_172 (v := .int (σ.1 0 21)) hC hP kM_0 rfl dX12_puts_5 ?_
    refine lv_iload_n hx hb dX12_puts_8 rfl (lv_at hl 1 rfl) ?_
    obtain ⟨h1, hf⟩ := fxG_e hf
    obtain ⟨σ2, eσ2, hf⟩ := fxL_e hf
    refine fx_iast hC hP hS kM_12 (fx_inp h1) dX12_puts_9 (fun H locs hP hS => ?_)
    replace hP := fx_Pe eσ2 hP
    refine lv_aload_n hx hb dX12_puts_10 rfl (lv_at hl 0 rfl) ?_
    refine lv_dup hx hb dX12_puts_11 rfl ?_
    refine gf_X12_172 (v := .int (σ2.1 0 21)) hC hP kM_0 rfl dX12_puts_12 ?_
    refine lv_iconst hx hb dX12_puts_15 ki_1 ?_
    refine lv_iadd hx hb dX12_puts_16 ?_
    obtain ⟨σ3, eσ3, hf⟩ := fxL_e hf
    refine pf_X12_172 hC hP hS kM_0 dX12_puts_17 (fun H locs hP hS => ?_)
    replace hP := fx_Pe eσ3 hP
    exact fx_vretf hf hC hr hk hP hS dX12_puts_20
  exact main _ _ _ hP hS hl

set_option maxHeartbeats 4000000 in
set_option maxRecDepth 100000 in
theorem ctX12_fact (l : Launch) {σ : FH} {v : Int32} (hf : fX12_fact σ = some v) : fx_Mi l yX12_fact cX12_fact 1 (some .int) (0) LM (fun ad ec => [.ref (ad 0)]) σ v σ := by
  unfold fX12_fact at hf
  refine fx_mi' (own := RX12) rfl (by decide +kernel) ?_
  intro p e s m args below meth c D cy ad ec A hC hr hk hP hS
  have hx := hC.1
  have hb := hC.2.1
  have hl := lv_entry ([.ref (ad 0)]) (n := 1) (Nat.le_of_ble_eq_true rfl)
  show W _ _ _ _ _ _ _ _ _ _ _ _ _ _ _ (entryFrame m ([.ref (ad 0)] : List Value).toArray 1)
  rw [lg_entry_eq]
  generalize (lg_sl ([.ref (ad 0)]) ++ List.replicate (1 - (lg_sl ([.ref (ad 0)])).length) Slot.unset).toArray = ls at hl ⊢
  have hl : lv_has ls 1 [(0, .ref (ad 0))] := hl
  have main : ∀ (H : Heap) (locs : List Loc) (ls : Array Slot), fx_P D cy LM ad σ H → va_S A s.heap H locs → lv_has ls 1 [(0, .ref (ad 0))] → W p l e (fx_R (0)) s m args below meth c H locs 0 0 (fx_Qi D cy LM ad A below args s v σ) (F0 m 0 ls []) := by
    intro H locs ls hP hS hl
    refine lv_aload_n hx hb dX12_fact_0 rfl (lv_at hl 0 rfl) ?_
    refine gf_X12_158 (v := .int (σ.1 0 6)) hC hP kM_0 rfl dX12_fact_1 ?_
    refine lv_iconst hx hb dX12_fact_4 ki_1 ?_
    refine lv_icmp_eq (tgt := 10) hx hb dX12_fact_5 (by decide) (fun c1 => ?_) (fun c1 => ?_)
    · replace hf := fx_it c1 hf
      refine lv_aload_n hx hb dX12_fact_10 rfl (lv_at hl 0 rfl) ?_
      refine gf_X12_151 (v := .long (σ.2.1 0 7)) hC hP kM_0 rfl dX12_fact_11 ?_
      refine lv_ldc2 (own := RX12) (v := 528) hx hb hC.2.2.2.1 (hC.2.2.2.2.1 _ kK_X12_175) dX12_fact_14 ?_
      refine W.lcmp hx hb dX12_fact_17 ?_
      refine lv_if_ne (tgt := 23) hx hb dX12_fact_18 (by decide) (fun c2 => ?_) (fun c2 => ?_)
      · replace hf := fx_ie c2 hf
        refine lv_aload_n hx hb dX12_fact_23 rfl (lv_at hl 0 rfl) ?_
        refine gf_X12_151 (v := .long (σ.2.1 0 7)) hC hP kM_0 rfl dX12_fact_24 ?_
        refine lv_ldc2 (own := RX12) (v := 158523) hx hb hC.2.2.2.1 (hC.2.2.2.2.1 _ kK_X12_177) dX12_fact_27 ?_
        refine W.lcmp hx hb dX12_fact_30 ?_
        refine lv_if_ne (tgt := 36) hx hb dX12_fact_31 (by decide) (fun c3 => ?_) (fun c3 => ?_)
        · replace hf := fx_ie c3 hf
          refine lv_aload_n hx hb dX12_fact_36 rfl (lv_at hl 0 rfl) ?_
          refine gf_X12_151 (v := .long (σ.2.1 0 7)) hC hP kM_0 rfl dX12_fact_37 ?_
          refine lv_ldc2 (own := RX12) (v := 12001681) hx hb hC.2.2.2.1 (hC.2.2.2.2.1 _ kK_X12_179) dX12_fact_40 ?_
          refine W.lcmp hx hb dX12_fact_43 ?_
          obtain ⟨v4, ev4, hf⟩ := fxL_e hf
          have j_v4 : ∀ (z5 : Int32), z5 = ((if (lg_cmp (σ.2.1 0 7) 12001681) = 0 then 3 else (if (lg_cmp (σ.2.1 0 7) 80006) = 0 then 4 else 0)) : Int32) → ∀ (ls : Array Slot), lv_has ls 1 [] → W p l e (fx_R (0)) s m args below meth c H locs 0 0 (fx_Qi D cy LM ad A below args s v σ) (F0 m 67 ls [.int z5]) := by
            intro z5 hz5 ls hl
            obtain rfl : v4 = z5 := ev4.trans hz5.symm
            exact fx_iretp hf hC hr hk hP hS dX12_fact_67
          refine lv_if_ne (tgt := 51) hx hb dX12_fact_44 (by decide) (fun c6 => ?_) (fun c6 => ?_)
          · refine lv_aload_n hx hb dX12_fact_51 rfl (lv_at hl 0 rfl) ?_
            refine gf_X12_151 (v := .long (σ.2.1 0 7)) hC hP kM_0 rfl dX12_fact_52 ?_
            refine lv_ldc2 (own := RX12) (v := 80006) hx hb hC.2.2.2.1 (hC.2.2.2.2.1 _ kK_X12_181) dX12_fact_55 ?_
            refine W.lcmp hx hb dX12_fact_58 ?_
            refine lv_if_ne (tgt := 66) hx hb dX12_fact_59 (by decide) (fun c7 => ?_) (fun c7 => ?_)
            · refine lv_iconst hx hb dX12_fact_66 ki_0 ?_
              exact j_v4 0 ((if_neg c6).trans (if_neg c7)).symm ls (lv_sub hl [] rfl)
            · refine lv_iconst hx hb dX12_fact_62 ki_4 ?_
              refine lv_goto (tgt := 67) hx hb dX12_fact_63 (by decide) ?_
              exact j_v4 4 ((if_neg c6).trans (if_pos c7)).symm ls (lv_sub hl [] rfl)
          · refine lv_iconst hx hb dX12_fact_47 ki_3 ?_
            refine lv_goto (tgt := 67) hx hb dX12_fact_48 (by decide) ?_
            exact j_v4 3 (if_pos c6).symm ls (lv_sub hl [] rfl)
        · replace hf := fx_it c3 hf
          refine lv_iconst hx hb dX12_fact_34 ki_2 ?_
          exact fx_iretp hf hC hr hk hP hS dX12_fact_35
      · replace hf := fx_it c2 hf
        refine lv_iconst hx hb dX12_fact_21 ki_1 ?_
        exact fx_iretp hf hC hr hk hP hS dX12_fact_22
    · replace hf := fx_ie c1 hf
      refine lv_iconst hx hb dX12_fact_8 ki_0 ?_
      exact fx_iretp hf hC hr hk hP hS dX12_fact_9
  exact main _ _ _ hP hS hl

set_option maxHeartbeats 4000000 in
set_option maxRecDepth 100000 in
theorem ctX12_reads (l : Launch) {σ σ' : FH} {v : Int32} (hf : fX12_reads σ = some (v, σ')) : fx_Mi l yX12_reads cX12_reads 6 (some .boolean) (2) LM (fun ad ec => [.ref (ad 0)]) σ v σ' := by
  unfold fX12_reads at hf
  refine fx_mi' (own := RX12) rfl (by decide +kernel) ?_
  intro p e s m args below meth c D cy ad ec A hC hr hk hP hS
  have hx := hC.1
  have hb := hC.2.1
  have hl := lv_entry ([.ref (ad 0)]) (n := 6) (Nat.le_of_ble_eq_true rfl)
  show W _ _ _ _ _ _ _ _ _ _ _ _ _ _ _ (entryFrame m ([.ref (ad 0)] : List Value).toArray 6)
  rw [lg_entry_eq]
  generalize (lg_sl ([.ref (ad 0)]) ++ List.replicate (6 - (lg_sl ([.ref (ad 0)])).length) Slot.unset).toArray = ls at hl ⊢
  have hl : lv_has ls 6 [(0, .ref (ad 0))] := hl
  have main : ∀ (H : Heap) (locs : List Loc) (ls : Array Slot), fx_P D cy LM ad σ H → va_S A s.heap H locs → lv_has ls 6 [(0, .ref (ad 0))] → W p l e (fx_R (2)) s m args below meth c H locs 0 0 (fx_Qi D cy LM ad A below args s v σ') (F0 m 0 ls []) := by
    intro H locs ls hP hS hl
    refine lv_iconst hx hb dX12_reads_0 ki_0 ?_
    refine lv_istore_n (lv' := [(1, .int 0), (0, .ref (ad 0))]) hx hb dX12_reads_1 rfl hl (by decide) rfl (fun ls hl => ?_)
    refine lv_iconst hx hb dX12_reads_2 ki_1 ?_
    refine lv_istore_n (lv' := [(2, .int 1), (1, .int 0), (0, .ref (ad 0))]) hx hb dX12_reads_3 rfl hl (by decide) rfl (fun ls hl => ?_)
    refine lv_aload_n hx hb dX12_reads_4 rfl (lv_at hl 2 rfl) ?_
    refine gf_X12_50 (v := .ref (ad 14)) hC hP kM_0 rfl dX12_reads_5 ?_
    refine lv_iconst hx hb dX12_reads_8 ki_0 ?_
    refine lv_iconst hx hb dX12_reads_9 ki_0 ?_
    obtain ⟨h1, hf⟩ := fxG_e hf
    obtain ⟨σ2, eσ2, hf⟩ := fxL_e hf
    refine fx_zast hC hP hS kM_14 (fx_inp h1) dX12_reads_10 (fun H locs hP hS => ?_)
    replace hP := fx_Pe eσ2 hP
    have L183 : ∀ (n7 : Nat) (w3 : Int32) (w4 : Int32) (σ5 : FH) (H : Heap) (locs : List Loc) (ls : Array Slot), fx_P D cy LM ad σ5 H → va_S A s.heap H locs → lv_has ls 6 [(0, .ref (ad 0)), (1, .int w3), (2, .int w4)] → fX12_reads_11 n7 w3 w4 σ5 = some (v, σ') → W p l e (fx_R (2)) s m args below meth c H locs 0 0 (fx_Qi D cy LM ad A below args s v σ') (F0 m 11 ls []) := by
      intro n7
      induction n7 with
      | zero =>
        intro w3 w4 σ5 H locs ls hP hS hl hf
        rw [fX12_reads_11] at hf
        cases hf
      | succ n7 ih6 =>
        intro w3 w4 σ5 H locs ls hP hS hl hf
        rw [fX12_reads_11] at hf
        refine lv_iload_n hx hb dX12_reads_11 rfl (lv_at hl 2 rfl) ?_
        refine lv_if_eq (tgt := 179) hx hb dX12_reads_12 (by decide) (fun c8 => ?_) (fun c8 => ?_)
        · replace hf := fx_it c8 hf
          refine lv_aload_n hx hb dX12_reads_179 rfl (lv_at hl 0 rfl) ?_
          refine lv_bipush hx hb dX12_reads_180 kb_43 ?_
          obtain ⟨r10, hc9, hf⟩ := fxBP_e hf
          refine fx_ci hC hS (fx_runV (i := 0) (As := [.int 43]) (rest := []) hC hP hS (ctX12_isSign l hc9 D cy ad ec _) kM_0 (by decide) rfl kMV_X12_193 kC_X12_isSign hd_X12_isSign rfl ⟨(Nat.le_of_ble_eq_true rfl), (Nat.le_of_ble_eq_true rfl)⟩ ⟨Nat.le_refl 0, Nat.le_refl 0⟩ hl.1 (Nat.le_of_ble_eq_true rfl) rfl dX12_reads_182) (fun H locs hP hS => ?_)
          obtain ⟨J12, hJ12, hf⟩ := fxL_e hf
          have j_J12 : ∀ (x13 : Int32) (x14 : Int32) (σ15 : FH) (H : Heap) (locs : List Loc) (ls : Array Slot), fx_P D cy LM ad σ15 H → va_S A s.heap H locs → lv_has ls 6 [(0, .ref (ad 0)), (1, .int x13), (2, .int x14)] → J12 x13 x14 σ15 = some (v, σ') → W p l e (fx_R (2)) s m args below meth c H locs 0 0 (fx_Qi D cy LM ad A below args s v σ') (F0 m 424 ls []) := by
            intro x13 x14 σ15 H locs ls hP hS hl hf
            replace hf := fxk3 hJ12 hf
            refine lv_aload_n hx hb dX12_reads_424 rfl (lv_at hl 0 rfl) ?_
            obtain ⟨σ18, hc16, hf⟩ := fxBV_e hf
            refine fx_cv hC hS (fx_runV (i := 0) (As := []) (rest := []) hC hP hS (ctX12_nextToken l hc16 D cy ad ec _) kM_0 (by decide) rfl kMV_X12_203 kC_X12_nextToken hd_X12_nextToken rfl ⟨(Nat.le_of_ble_eq_true rfl), (Nat.le_of_ble_eq_true rfl)⟩ ⟨Nat.le_refl 0, Nat.le_refl 0⟩ hl.1 (Nat.le_of_ble_eq_true rfl) rfl dX12_reads_425) (fun H locs hP hS => ?_)
            refine lv_goto (tgt := 11) hx hb dX12_reads_428 (by decide) ?_
            exact ih6 x13 x14 σ18 _ _ _ hP hS (lv_sub hl [0, 1, 2] rfl) hf
          obtain ⟨J19, hJ19, hf⟩ := fxL_e hf
          have j_J19 : ∀  (H : Heap) (locs : List Loc) (ls : Array Slot), fx_P D cy LM ad σ5 H → va_S A s.heap H locs → lv_has ls 6 [(0, .ref (ad 0)), (1, .int w3)] → J19 = some (v, σ') → W p l e (fx_R (2)) s m args below meth c H locs 0 0 (fx_Qi D cy LM ad A below args s v σ') (F0 m 206 ls []) := by
            intro  H locs ls hP hS hl hf
            replace hf := hJ19.symm.trans hf
            refine lv_aload_n hx hb dX12_reads_206 rfl (lv_at hl 0 rfl) ?_
            refine lv_aload_n hx hb dX12_reads_207 rfl (lv_at hl 0 rfl) ?_
            refine lv_bipush hx hb dX12_reads_208 kb_43 ?_
            obtain ⟨r21, hc20, hf⟩ := fxBP_e hf
            refine fx_ci hC hS (fx_runV (i := 0) (As := [.int 43]) (rest := [.ref (ad 0)]) hC hP hS (ctX12_isSign l hc20 D cy ad ec _) kM_0 (by decide) rfl kMV_X12_193 kC_X12_isSign hd_X12_isSign rfl ⟨(Nat.le_of_ble_eq_true rfl), (Nat.le_of_ble_eq_true rfl)⟩ ⟨Nat.le_refl 0, Nat.le_refl 0⟩ hl.1 (Nat.le_of_ble_eq_true rfl) rfl dX12_reads_210) (fun H locs hP hS => ?_)
            obtain ⟨J23, hJ23, hf⟩ := fxL_e hf
            have j_J23 : ∀ (y24 : Int32) (H : Heap) (locs : List Loc) (ls : Array Slot), fx_P D cy LM ad σ5 H → va_S A s.heap H locs → lv_has ls 6 [(0, .ref (ad 0)), (1, .int w3)] → J23 y24 = some (v, σ') → W p l e (fx_R (2)) s m args below meth c H locs 0 0 (fx_Qi D cy LM ad A below args s v σ') (F0 m 237 ls [.int y24, .ref (ad 0)]) := by
              intro y24 H locs ls hP hS hl hf
              replace hf := fxk1 hJ23 hf
              obtain ⟨σ27, hc25, hf⟩ := fxBV_e hf
              refine fx_cv hC hS (fx_runV (i := 0) (As := [.int y24]) (rest := []) hC hP hS (ctX12_puts l hc25 D cy ad ec _) kM_0 (by decide) rfl kMV_X12_200 kC_X12_puts hd_X12_puts rfl ⟨(Nat.le_of_ble_eq_true rfl), (Nat.le_of_ble_eq_true rfl)⟩ ⟨Nat.le_refl 0, Nat.le_refl 0⟩ hl.1 (Nat.le_of_ble_eq_true rfl) rfl dX12_reads_237) (fun H locs hP hS => ?_)
              refine lv_iconst hx hb dX12_reads_240 ki_1 ?_
              refine lv_istore_n (lv' := [(2, .int 1), (0, .ref (ad 0)), (1, .int w3)]) hx hb dX12_reads_241 rfl hl (by decide) rfl (fun ls hl => ?_)
              refine lv_goto (tgt := 424) hx hb dX12_reads_242 (by decide) ?_
              exact j_J12 w3 1 σ27 _ _ _ hP hS (lv_sub hl [1, 2, 0] rfl) hf
            refine lv_if_eq (tgt := 221) hx hb dX12_reads_213 (by decide) (fun c28 => ?_) (fun c28 => ?_)
            · replace hf := fx_it c28 hf
              refine lv_aload_n hx hb dX12_reads_221 rfl (lv_at hl 0 rfl) ?_
              refine lv_bipush hx hb dX12_reads_222 kb_45 ?_
              obtain ⟨r30, hc29, hf⟩ := fxBP_e hf
              refine fx_ci hC hS (fx_runV (i := 0) (As := [.int 45]) (rest := [.ref (ad 0)]) hC hP hS (ctX12_isSign l hc29 D cy ad ec _) kM_0 (by decide) rfl kMV_X12_193 kC_X12_isSign hd_X12_isSign rfl ⟨(Nat.le_of_ble_eq_true rfl), (Nat.le_of_ble_eq_true rfl)⟩ ⟨Nat.le_refl 0, Nat.le_refl 0⟩ hl.1 (Nat.le_of_ble_eq_true rfl) rfl dX12_reads_224) (fun H locs hP hS => ?_)
              refine lv_if_eq (tgt := 235) hx hb dX12_reads_227 (by decide) (fun c32 => ?_) (fun c32 => ?_)
              · replace hf := fx_it c32 hf
                refine lv_bipush hx hb dX12_reads_235 kb_22 ?_
                exact j_J23 22 _ _ _ hP hS (lv_sub hl [0, 1] rfl) hf
              · replace hf := fx_ie c32 hf
                refine lv_bipush hx hb dX12_reads_230 kb_21 ?_
                refine lv_goto (tgt := 237) hx hb dX12_reads_232 (by decide) ?_
                exact j_J23 21 _ _ _ hP hS (lv_sub hl [0, 1] rfl) hf
            · replace hf := fx_ie c28 hf
              refine lv_bipush hx hb dX12_reads_216 kb_20 ?_
              refine lv_goto (tgt := 237) hx hb dX12_reads_218 (by decide) ?_
              exact j_J23 20 _ _ _ hP hS (lv_sub hl [0, 1] rfl) hf
          refine lv_if_ne (tgt := 206) hx hb dX12_reads_185 (by decide) (fun c33 => ?_) (fun c33 => ?_)
          · replace hf := fx_ie c33 hf
            exact j_J19  _ _ _ hP hS (lv_sub hl [0, 1] rfl) hf
          · replace hf := fx_it c33 hf
            refine lv_aload_n hx hb dX12_reads_188 rfl (lv_at hl 0 rfl) ?_
            refine lv_bipush hx hb dX12_reads_189 kb_45 ?_
            obtain ⟨r35, hc34, hf⟩ := fxBP_e hf
            refine fx_ci hC hS (fx_runV (i := 0) (As := [.int 45]) (rest := []) hC hP hS (ctX12_isSign l hc34 D cy ad ec _) kM_0 (by decide) rfl kMV_X12_193 kC_X12_isSign hd_X12_isSign rfl ⟨(Nat.le_of_ble_eq_true rfl), (Nat.le_of_ble_eq_true rfl)⟩ ⟨Nat.le_refl 0, Nat.le_refl 0⟩ hl.1 (Nat.le_of_ble_eq_true rfl) rfl dX12_reads_191) (fun H locs hP hS => ?_)
            refine lv_if_ne (tgt := 206) hx hb dX12_reads_194 (by decide) (fun c37 => ?_) (fun c37 => ?_)
            · replace hf := fx_ie c37 hf
              exact j_J19  _ _ _ hP hS (lv_sub hl [0, 1] rfl) hf
            · replace hf := fx_it c37 hf
              refine lv_aload_n hx hb dX12_reads_197 rfl (lv_at hl 0 rfl) ?_
              refine lv_bipush hx hb dX12_reads_198 kb_42 ?_
              obtain ⟨r39, hc38, hf⟩ := fxBP_e hf
              refine fx_ci hC hS (fx_runV (i := 0) (As := [.int 42]) (rest := []) hC hP hS (ctX12_isSign l hc38 D cy ad ec _) kM_0 (by decide) rfl kMV_X12_193 kC_X12_isSign hd_X12_isSign rfl ⟨(Nat.le_of_ble_eq_true rfl), (Nat.le_of_ble_eq_true rfl)⟩ ⟨Nat.le_refl 0, Nat.le_refl 0⟩ hl.1 (Nat.le_of_ble_eq_true rfl) rfl dX12_reads_200) (fun H locs hP hS => ?_)
              refine lv_if_eq (tgt := 245) hx hb dX12_reads_203 (by decide) (fun c41 => ?_) (fun c41 => ?_)
              · replace hf := fx_it c41 hf
                refine lv_aload_n hx hb dX12_reads_245 rfl (lv_at hl 0 rfl) ?_
                refine lv_bipush hx hb dX12_reads_246 kb_60 ?_
                obtain ⟨r43, hc42, hf⟩ := fxBP_e hf
                refine fx_ci hC hS (fx_runV (i := 0) (As := [.int 60]) (rest := []) hC hP hS (ctX12_isSign l hc42 D cy ad ec _) kM_0 (by decide) rfl kMV_X12_193 kC_X12_isSign hd_X12_isSign rfl ⟨(Nat.le_of_ble_eq_true rfl), (Nat.le_of_ble_eq_true rfl)⟩ ⟨Nat.le_refl 0, Nat.le_refl 0⟩ hl.1 (Nat.le_of_ble_eq_true rfl) rfl dX12_reads_248) (fun H locs hP hS => ?_)
                obtain ⟨J45, hJ45, hf⟩ := fxL_e hf
                have j_J45 : ∀  (H : Heap) (locs : List Loc) (ls : Array Slot), fx_P D cy LM ad σ5 H → va_S A s.heap H locs → lv_has ls 6 [(0, .ref (ad 0)), (1, .int w3), (2, .int w4)] → J45 = some (v, σ') → W p l e (fx_R (2)) s m args below meth c H locs 0 0 (fx_Qi D cy LM ad A below args s v σ') (F0 m 304 ls []) := by
                  intro  H locs ls hP hS hl hf
                  replace hf := hJ45.symm.trans hf
                  refine lv_aload_n hx hb dX12_reads_304 rfl (lv_at hl 0 rfl) ?_
                  refine lv_ldc2 (own := RX12) (v := 1111) hx hb hC.2.2.2.1 (hC.2.2.2.2.1 _ kK_X12_206) dX12_reads_305 ?_
                  obtain ⟨r47, hc46, hf⟩ := fxBP_e hf
                  refine fx_ci hC hS (fx_runV (i := 0) (As := [.long 1111]) (rest := []) hC hP hS (ctX12_isWord l hc46 D cy ad ec _) kM_0 (by decide) rfl kMV_X12_189 kC_X12_isWord hd_X12_isWord rfl ⟨(Nat.le_of_ble_eq_true rfl), (Nat.le_of_ble_eq_true rfl)⟩ ⟨Nat.le_refl 0, Nat.le_refl 0⟩ hl.1 (Nat.le_of_ble_eq_true rfl) rfl dX12_reads_308) (fun H locs hP hS => ?_)
                  obtain ⟨J49, hJ49, hf⟩ := fxL_e hf
                  have j_J49 : ∀  (H : Heap) (locs : List Loc) (ls : Array Slot), fx_P D cy LM ad σ5 H → va_S A s.heap H locs → lv_has ls 6 [(0, .ref (ad 0)), (1, .int w3)] → J49 = some (v, σ') → W p l e (fx_R (2)) s m args below meth c H locs 0 0 (fx_Qi D cy LM ad A below args s v σ') (F0 m 324 ls []) := by
                    intro  H locs ls hP hS hl hf
                    replace hf := hJ49.symm.trans hf
                    refine lv_aload_n hx hb dX12_reads_324 rfl (lv_at hl 0 rfl) ?_
                    refine lv_aload_n hx hb dX12_reads_325 rfl (lv_at hl 0 rfl) ?_
                    refine lv_ldc2 (own := RX12) (v := 1111) hx hb hC.2.2.2.1 (hC.2.2.2.2.1 _ kK_X12_206) dX12_reads_326 ?_
                    obtain ⟨r51, hc50, hf⟩ := fxBP_e hf
                    refine fx_ci hC hS (fx_runV (i := 0) (As := [.long 1111]) (rest := [.ref (ad 0)]) hC hP hS (ctX12_isWord l hc50 D cy ad ec _) kM_0 (by decide) rfl kMV_X12_189 kC_X12_isWord hd_X12_isWord rfl ⟨(Nat.le_of_ble_eq_true rfl), (Nat.le_of_ble_eq_true rfl)⟩ ⟨Nat.le_refl 0, Nat.le_refl 0⟩ hl.1 (Nat.le_of_ble_eq_true rfl) rfl dX12_reads_329) (fun H locs hP hS => ?_)
                    obtain ⟨v53, ev53, hf⟩ := fxL_e hf
                    have j_v53 : ∀ (z54 : Int32), z54 = ((if r51 = 0 then 27 else 26) : Int32) → ∀ (ls : Array Slot), lv_has ls 6 [(0, .ref (ad 0)), (1, .int w3)] → W p l e (fx_R (2)) s m args below meth c H locs 0 0 (fx_Qi D cy LM ad A below args s v σ') (F0 m 342 ls [.int z54, .ref (ad 0)]) := by
                      intro z54 hz54 ls hl
                      obtain rfl : v53 = z54 := ev53.trans hz54.symm
                      obtain ⟨σ58, hc56, hf⟩ := fxBV_e hf
                      refine fx_cv hC hS (fx_runV (i := 0) (As := [.int v53]) (rest := []) hC hP hS (ctX12_puts l hc56 D cy ad ec _) kM_0 (by decide) rfl kMV_X12_200 kC_X12_puts hd_X12_puts rfl ⟨(Nat.le_of_ble_eq_true rfl), (Nat.le_of_ble_eq_true rfl)⟩ ⟨Nat.le_refl 0, Nat.le_refl 0⟩ hl.1 (Nat.le_of_ble_eq_true rfl) rfl dX12_reads_342) (fun H locs hP hS => ?_)
                      refine lv_aload_n hx hb dX12_reads_345 rfl (lv_at hl 0 rfl) ?_
                      refine gf_X12_50 (v := .ref (ad 14)) hC hP kM_0 rfl dX12_reads_346 ?_
                      refine lv_iload_n hx hb dX12_reads_349 rfl (lv_at hl 1 rfl) ?_
                      refine lv_iconst hx hb dX12_reads_350 ki_0 ?_
                      obtain ⟨h59, hf⟩ := fxG_e hf
                      obtain ⟨σ60, eσ60, hf⟩ := fxL_e hf
                      refine fx_zast hC hP hS kM_14 (fx_inp h59) dX12_reads_351 (fun H locs hP hS => ?_)
                      replace hP := fx_Pe eσ60 hP
                      refine lv_iconst hx hb dX12_reads_352 ki_1 ?_
                      refine lv_istore_n (lv' := [(2, .int 1), (0, .ref (ad 0)), (1, .int w3)]) hx hb dX12_reads_353 rfl hl (by decide) rfl (fun ls hl => ?_)
                      refine lv_goto (tgt := 424) hx hb dX12_reads_354 (by decide) ?_
                      exact j_J12 w3 1 σ60 _ _ _ hP hS (lv_sub hl [1, 2, 0] rfl) hf
                    refine lv_if_eq (tgt := 340) hx hb dX12_reads_332 (by decide) (fun c55 => ?_) (fun c55 => ?_)
                    · refine lv_bipush hx hb dX12_reads_340 kb_27 ?_
                      exact j_v53 27 (if_pos c55).symm ls (lv_sub hl [0, 1] rfl)
                    · refine lv_bipush hx hb dX12_reads_335 kb_26 ?_
                      refine lv_goto (tgt := 342) hx hb dX12_reads_337 (by decide) ?_
                      exact j_v53 26 (if_neg c55).symm ls (lv_sub hl [0, 1] rfl)
                  refine lv_if_ne (tgt := 324) hx hb dX12_reads_311 (by decide) (fun c61 => ?_) (fun c61 => ?_)
                  · replace hf := fx_ie c61 hf
                    exact j_J49  _ _ _ hP hS (lv_sub hl [0, 1] rfl) hf
                  · replace hf := fx_it c61 hf
                    refine lv_aload_n hx hb dX12_reads_314 rfl (lv_at hl 0 rfl) ?_
                    refine lv_ldc2 (own := RX12) (v := 423) hx hb hC.2.2.2.1 (hC.2.2.2.2.1 _ kK_X12_208) dX12_reads_315 ?_
                    obtain ⟨r63, hc62, hf⟩ := fxBP_e hf
                    refine fx_ci hC hS (fx_runV (i := 0) (As := [.long 423]) (rest := []) hC hP hS (ctX12_isWord l hc62 D cy ad ec _) kM_0 (by decide) rfl kMV_X12_189 kC_X12_isWord hd_X12_isWord rfl ⟨(Nat.le_of_ble_eq_true rfl), (Nat.le_of_ble_eq_true rfl)⟩ ⟨Nat.le_refl 0, Nat.le_refl 0⟩ hl.1 (Nat.le_of_ble_eq_true rfl) rfl dX12_reads_318) (fun H locs hP hS => ?_)
                    refine lv_if_eq (tgt := 357) hx hb dX12_reads_321 (by decide) (fun c65 => ?_) (fun c65 => ?_)
                    · replace hf := fx_it c65 hf
                      refine lv_aload_n hx hb dX12_reads_357 rfl (lv_at hl 0 rfl) ?_
                      refine lv_bipush hx hb dX12_reads_358 kb_41 ?_
                      obtain ⟨r67, hc66, hf⟩ := fxBP_e hf
                      refine fx_ci hC hS (fx_runV (i := 0) (As := [.int 41]) (rest := []) hC hP hS (ctX12_isSign l hc66 D cy ad ec _) kM_0 (by decide) rfl kMV_X12_193 kC_X12_isSign hd_X12_isSign rfl ⟨(Nat.le_of_ble_eq_true rfl), (Nat.le_of_ble_eq_true rfl)⟩ ⟨Nat.le_refl 0, Nat.le_refl 0⟩ hl.1 (Nat.le_of_ble_eq_true rfl) rfl dX12_reads_360) (fun H locs hP hS => ?_)
                      obtain ⟨J69, hJ69, hf⟩ := fxL_e hf
                      have j_J69 : ∀  (H : Heap) (locs : List Loc) (ls : Array Slot), fx_P D cy LM ad σ5 H → va_S A s.heap H locs → lv_has ls 6 [(0, .ref (ad 0)), (1, .int w3)] → J69 = some (v, σ') → W p l e (fx_R (2)) s m args below meth c H locs 0 0 (fx_Qi D cy LM ad A below args s v σ') (F0 m 399 ls []) := by
                        intro  H locs ls hP hS hl hf
                        replace hf := hJ69.symm.trans hf
                        refine lv_iload_n hx hb dX12_reads_399 rfl (lv_at hl 1 rfl) ?_
                        obtain ⟨J70, hJ70, hf⟩ := fxL_e hf
                        have j_J70 : ∀  (H : Heap) (locs : List Loc) (ls : Array Slot), fx_P D cy LM ad σ5 H → va_S A s.heap H locs → lv_has ls 6 [(0, .ref (ad 0))] → J70 = some (v, σ') → W p l e (fx_R (2)) s m args below meth c H locs 0 0 (fx_Qi D cy LM ad A below args s v σ') (F0 m 418 ls []) := by
                          intro  H locs ls hP hS hl hf
                          replace hf := hJ70.symm.trans hf
                          refine lv_aload_n hx hb dX12_reads_418 rfl (lv_at hl 0 rfl) ?_
                          refine lv_iconst hx hb dX12_reads_419 ki_1 ?_
                          obtain ⟨r72, σ73, hc71, hf⟩ := fxBI_e hf
                          refine fx_ci hC hS (fx_runV (i := 0) (As := [.int 1]) (rest := []) hC hP hS (ctX12_fails l hc71 D cy ad ec _) kM_0 (by decide) rfl kMV_X12_197 kC_X12_fails hd_X12_fails rfl ⟨(Nat.le_of_ble_eq_true rfl), (Nat.le_of_ble_eq_true rfl)⟩ ⟨Nat.le_refl 0, Nat.le_refl 0⟩ hl.1 (Nat.le_of_ble_eq_true rfl) rfl dX12_reads_420) (fun H locs hP hS => ?_)
                          obtain ⟨h74, hf⟩ := fxG_e hf
                          exact fx_zretf (fx_bon h74) hf hC hr hk hP hS dX12_reads_423
                        refine lv_if_ne (tgt := 418) hx hb dX12_reads_400 (by decide) (fun c75 => ?_) (fun c75 => ?_)
                        · replace hf := fx_ie c75 hf
                          exact j_J70  _ _ _ hP hS (lv_sub hl [0] rfl) hf
                        · replace hf := fx_it c75 hf
                          refine lv_aload_n hx hb dX12_reads_403 rfl (lv_at hl 0 rfl) ?_
                          refine lv_bipush hx hb dX12_reads_404 kb_59 ?_
                          obtain ⟨r77, hc76, hf⟩ := fxBP_e hf
                          refine fx_ci hC hS (fx_runV (i := 0) (As := [.int 59]) (rest := []) hC hP hS (ctX12_isSign l hc76 D cy ad ec _) kM_0 (by decide) rfl kMV_X12_193 kC_X12_isSign hd_X12_isSign rfl ⟨(Nat.le_of_ble_eq_true rfl), (Nat.le_of_ble_eq_true rfl)⟩ ⟨Nat.le_refl 0, Nat.le_refl 0⟩ hl.1 (Nat.le_of_ble_eq_true rfl) rfl dX12_reads_406) (fun H locs hP hS => ?_)
                          refine lv_if_eq (tgt := 418) hx hb dX12_reads_409 (by decide) (fun c79 => ?_) (fun c79 => ?_)
                          · replace hf := fx_it c79 hf
                            exact j_J70  _ _ _ hP hS (lv_sub hl [0] rfl) hf
                          · replace hf := fx_ie c79 hf
                            refine lv_aload_n hx hb dX12_reads_412 rfl (lv_at hl 0 rfl) ?_
                            obtain ⟨σ82, hc80, hf⟩ := fxBV_e hf
                            refine fx_cv hC hS (fx_runV (i := 0) (As := []) (rest := []) hC hP hS (ctX12_nextToken l hc80 D cy ad ec _) kM_0 (by decide) rfl kMV_X12_203 kC_X12_nextToken hd_X12_nextToken rfl ⟨(Nat.le_of_ble_eq_true rfl), (Nat.le_of_ble_eq_true rfl)⟩ ⟨Nat.le_refl 0, Nat.le_refl 0⟩ hl.1 (Nat.le_of_ble_eq_true rfl) rfl dX12_reads_413) (fun H locs hP hS => ?_)
                            refine lv_iconst hx hb dX12_reads_416 ki_1 ?_
                            exact fx_zretf rfl hf hC hr hk hP hS dX12_reads_417
                      refine lv_if_eq (tgt := 399) hx hb dX12_reads_363 (by decide) (fun c83 => ?_) (fun c83 => ?_)
                      · replace hf := fx_it c83 hf
                        exact j_J69  _ _ _ hP hS (lv_sub hl [0, 1] rfl) hf
                      · replace hf := fx_ie c83 hf
                        refine lv_iload_n hx hb dX12_reads_366 rfl (lv_at hl 1 rfl) ?_
                        refine lv_if_le (tgt := 399) hx hb dX12_reads_367 (by decide) (fun c84 => ?_) (fun c84 => ?_)
                        · replace hf := fx_it c84 hf
                          exact j_J69  _ _ _ hP hS (lv_sub hl [0, 1] rfl) hf
                        · replace hf := fx_ie c84 hf
                          refine lv_aload_n hx hb dX12_reads_370 rfl (lv_at hl 0 rfl) ?_
                          refine lv_bipush hx hb dX12_reads_371 kb_29 ?_
                          obtain ⟨σ87, hc85, hf⟩ := fxBV_e hf
                          refine fx_cv hC hS (fx_runV (i := 0) (As := [.int 29]) (rest := []) hC hP hS (ctX12_puts l hc85 D cy ad ec _) kM_0 (by decide) rfl kMV_X12_200 kC_X12_puts hd_X12_puts rfl ⟨(Nat.le_of_ble_eq_true rfl), (Nat.le_of_ble_eq_true rfl)⟩ ⟨Nat.le_refl 0, Nat.le_refl 0⟩ hl.1 (Nat.le_of_ble_eq_true rfl) rfl dX12_reads_373) (fun H locs hP hS => ?_)
                          refine lv_iinc (v := (w3 + (-1))) (lv' := [(1, .int (w3 + (-1))), (0, .ref (ad 0)), (2, .int w4)]) hx hb dX12_reads_376 hl (k := 1) rfl (congrArg (fun z => w3 + z) ki_m1) (by decide) rfl (fun ls hl => ?_)
                          obtain ⟨K88, hK88, hf⟩ := fxL_e hf
                          have k_K88 : ∀ (x89 : Int32) (H : Heap) (locs : List Loc) (ls : Array Slot), fx_P D cy LM ad σ87 H → va_S A s.heap H locs → lv_has ls 6 [(0, .ref (ad 0)), (1, .int x89), (2, .int w4)] → K88 x89 = some (v, σ') → W p l e (fx_R (2)) s m args below meth c H locs 0 0 (fx_Qi D cy LM ad A below args s v σ') (F0 m 424 ls []) := by
                            intro x89 H locs ls hP hS hl hf
                            replace hf := fxk1 hK88 hf
                            refine lv_aload_n hx hb dX12_reads_424 rfl (lv_at hl 0 rfl) ?_
                            obtain ⟨σ92, hc90, hf⟩ := fxBV_e hf
                            refine fx_cv hC hS (fx_runV (i := 0) (As := []) (rest := []) hC hP hS (ctX12_nextToken l hc90 D cy ad ec _) kM_0 (by decide) rfl kMV_X12_203 kC_X12_nextToken hd_X12_nextToken rfl ⟨(Nat.le_of_ble_eq_true rfl), (Nat.le_of_ble_eq_true rfl)⟩ ⟨Nat.le_refl 0, Nat.le_refl 0⟩ hl.1 (Nat.le_of_ble_eq_true rfl) rfl dX12_reads_425) (fun H locs hP hS => ?_)
                            refine lv_goto (tgt := 11) hx hb dX12_reads_428 (by decide) ?_
                            exact ih6 x89 w4 σ92 _ _ _ hP hS (lv_sub hl [0, 1, 2] rfl) hf
                          have L99 : ∀ (n95 : Nat) (w93 : Int32) (H : Heap) (locs : List Loc) (ls : Array Slot), fx_P D cy LM ad σ87 H → va_S A s.heap H locs → lv_has ls 6 [(0, .ref (ad 0)), (1, .int w93), (2, .int w4)] → fX12_reads_379 σ87 K88 n95 w93 = some (v, σ') → W p l e (fx_R (2)) s m args below meth c H locs 0 0 (fx_Qi D cy LM ad A below args s v σ') (F0 m 379 ls []) := by
                            intro n95
                            induction n95 with
                            | zero =>
                              intro w93 H locs ls hP hS hl hf
                              rw [fX12_reads_379] at hf
                              cases hf
                            | succ n95 ih94 =>
                              intro w93 H locs ls hP hS hl hf
                              rw [fX12_reads_379] at hf
                              refine lv_iload_n hx hb dX12_reads_379 rfl (lv_at hl 1 rfl) ?_
                              refine lv_if_le (tgt := 424) hx hb dX12_reads_380 (by decide) (fun c96 => ?_) (fun c96 => ?_)
                              · replace hf := fx_it c96 hf
                                exact k_K88 w93 _ _ _ hP hS (lv_sub hl [0, 1, 2] rfl) hf
                              · replace hf := fx_ie c96 hf
                                refine lv_aload_n hx hb dX12_reads_383 rfl (lv_at hl 0 rfl) ?_
                                refine gf_X12_47 (v := .ref (ad 13)) hC hP kM_0 rfl dX12_reads_384 ?_
                                refine lv_iload_n hx hb dX12_reads_387 rfl (lv_at hl 1 rfl) ?_
                                obtain ⟨h97, hf⟩ := fxG_e hf
                                refine fx_iald hC hP kM_13 (fx_inp h97) dX12_reads_388 ?_
                                refine lv_iconst hx hb dX12_reads_389 ki_1 ?_
                                refine lv_icmp_ne (tgt := 424) hx hb dX12_reads_390 (by decide) (fun c98 => ?_) (fun c98 => ?_)
                                · replace hf := fx_ie c98 hf
                                  exact k_K88 w93 _ _ _ hP hS (lv_sub hl [0, 1, 2] rfl) hf
                                · replace hf := fx_it c98 hf
                                  refine lv_iinc (v := (w93 + (-1))) (lv' := [(1, .int (w93 + (-1))), (0, .ref (ad 0)), (2, .int w4)]) hx hb dX12_reads_393 hl (k := 1) rfl (congrArg (fun z => w93 + z) ki_m1) (by decide) rfl (fun ls hl => ?_)
                                  refine lv_goto (tgt := 379) hx hb dX12_reads_396 (by decide) ?_
                                  exact ih94 (w93 + (-1)) _ _ _ hP hS (lv_sub hl [1, 0, 2] rfl) hf
                          exact L99 FU (w3 + (-1)) _ _ _ hP hS (lv_sub hl [1, 0, 2] rfl) hf
                    · replace hf := fx_ie c65 hf
                      exact j_J49  _ _ _ hP hS (lv_sub hl [0, 1] rfl) hf
                obtain ⟨J100, hJ100, hf⟩ := fxL_e hf
                have j_J100 : ∀  (H : Heap) (locs : List Loc) (ls : Array Slot), fx_P D cy LM ad σ5 H → va_S A s.heap H locs → lv_has ls 6 [(0, .ref (ad 0)), (1, .int w3), (2, .int w4)] → J100 = some (v, σ') → W p l e (fx_R (2)) s m args below meth c H locs 0 0 (fx_Qi D cy LM ad A below args s v σ') (F0 m 263 ls []) := by
                  intro  H locs ls hP hS hl hf
                  replace hf := hJ100.symm.trans hf
                  refine lv_aload_n hx hb dX12_reads_263 rfl (lv_at hl 0 rfl) ?_
                  refine gf_X12_50 (v := .ref (ad 14)) hC hP kM_0 rfl dX12_reads_264 ?_
                  refine lv_iload_n hx hb dX12_reads_267 rfl (lv_at hl 1 rfl) ?_
                  obtain ⟨h101, hf⟩ := fxG_e hf
                  refine fx_zald hC hP kM_14 (fx_inp h101) dX12_reads_268 ?_
                  refine lv_if_ne (tgt := 304) hx hb dX12_reads_269 (by decide) (fun c102 => ?_) (fun c102 => ?_)
                  · replace hf := fx_ie c102 hf
                    exact j_J45  _ _ _ hP hS (lv_sub hl [0, 1, 2] rfl) hf
                  · replace hf := fx_it c102 hf
                    refine lv_aload_n hx hb dX12_reads_272 rfl (lv_at hl 0 rfl) ?_
                    refine lv_aload_n hx hb dX12_reads_273 rfl (lv_at hl 0 rfl) ?_
                    refine lv_bipush hx hb dX12_reads_274 kb_60 ?_
                    obtain ⟨r104, hc103, hf⟩ := fxBP_e hf
                    refine fx_ci hC hS (fx_runV (i := 0) (As := [.int 60]) (rest := [.ref (ad 0)]) hC hP hS (ctX12_isSign l hc103 D cy ad ec _) kM_0 (by decide) rfl kMV_X12_193 kC_X12_isSign hd_X12_isSign rfl ⟨(Nat.le_of_ble_eq_true rfl), (Nat.le_of_ble_eq_true rfl)⟩ ⟨Nat.le_refl 0, Nat.le_refl 0⟩ hl.1 (Nat.le_of_ble_eq_true rfl) rfl dX12_reads_276) (fun H locs hP hS => ?_)
                    obtain ⟨v106, ev106, hf⟩ := fxL_e hf
                    have j_v106 : ∀ (z107 : Int32), z107 = ((if r104 = 0 then 25 else 24) : Int32) → ∀ (ls : Array Slot), lv_has ls 6 [(0, .ref (ad 0)), (1, .int w3)] → W p l e (fx_R (2)) s m args below meth c H locs 0 0 (fx_Qi D cy LM ad A below args s v σ') (F0 m 289 ls [.int z107, .ref (ad 0)]) := by
                      intro z107 hz107 ls hl
                      obtain rfl : v106 = z107 := ev106.trans hz107.symm
                      obtain ⟨σ111, hc109, hf⟩ := fxBV_e hf
                      refine fx_cv hC hS (fx_runV (i := 0) (As := [.int v106]) (rest := []) hC hP hS (ctX12_puts l hc109 D cy ad ec _) kM_0 (by decide) rfl kMV_X12_200 kC_X12_puts hd_X12_puts rfl ⟨(Nat.le_of_ble_eq_true rfl), (Nat.le_of_ble_eq_true rfl)⟩ ⟨Nat.le_refl 0, Nat.le_refl 0⟩ hl.1 (Nat.le_of_ble_eq_true rfl) rfl dX12_reads_289) (fun H locs hP hS => ?_)
                      refine lv_aload_n hx hb dX12_reads_292 rfl (lv_at hl 0 rfl) ?_
                      refine gf_X12_50 (v := .ref (ad 14)) hC hP kM_0 rfl dX12_reads_293 ?_
                      refine lv_iload_n hx hb dX12_reads_296 rfl (lv_at hl 1 rfl) ?_
                      refine lv_iconst hx hb dX12_reads_297 ki_1 ?_
                      obtain ⟨h112, hf⟩ := fxG_e hf
                      obtain ⟨σ113, eσ113, hf⟩ := fxL_e hf
                      refine fx_zast hC hP hS kM_14 (fx_inp h112) dX12_reads_298 (fun H locs hP hS => ?_)
                      replace hP := fx_Pe eσ113 hP
                      refine lv_iconst hx hb dX12_reads_299 ki_1 ?_
                      refine lv_istore_n (lv' := [(2, .int 1), (0, .ref (ad 0)), (1, .int w3)]) hx hb dX12_reads_300 rfl hl (by decide) rfl (fun ls hl => ?_)
                      refine lv_goto (tgt := 424) hx hb dX12_reads_301 (by decide) ?_
                      exact j_J12 w3 1 σ113 _ _ _ hP hS (lv_sub hl [1, 2, 0] rfl) hf
                    refine lv_if_eq (tgt := 287) hx hb dX12_reads_279 (by decide) (fun c108 => ?_) (fun c108 => ?_)
                    · refine lv_bipush hx hb dX12_reads_287 kb_25 ?_
                      exact j_v106 25 (if_pos c108).symm ls (lv_sub hl [0, 1] rfl)
                    · refine lv_bipush hx hb dX12_reads_282 kb_24 ?_
                      refine lv_goto (tgt := 289) hx hb dX12_reads_284 (by decide) ?_
                      exact j_v106 24 (if_neg c108).symm ls (lv_sub hl [0, 1] rfl)
                refine lv_if_ne (tgt := 263) hx hb dX12_reads_251 (by decide) (fun c114 => ?_) (fun c114 => ?_)
                · replace hf := fx_ie c114 hf
                  exact j_J100  _ _ _ hP hS (lv_sub hl [0, 1, 2] rfl) hf
                · replace hf := fx_it c114 hf
                  refine lv_aload_n hx hb dX12_reads_254 rfl (lv_at hl 0 rfl) ?_
                  refine lv_bipush hx hb dX12_reads_255 kb_61 ?_
                  obtain ⟨r116, hc115, hf⟩ := fxBP_e hf
                  refine fx_ci hC hS (fx_runV (i := 0) (As := [.int 61]) (rest := []) hC hP hS (ctX12_isSign l hc115 D cy ad ec _) kM_0 (by decide) rfl kMV_X12_193 kC_X12_isSign hd_X12_isSign rfl ⟨(Nat.le_of_ble_eq_true rfl), (Nat.le_of_ble_eq_true rfl)⟩ ⟨Nat.le_refl 0, Nat.le_refl 0⟩ hl.1 (Nat.le_of_ble_eq_true rfl) rfl dX12_reads_257) (fun H locs hP hS => ?_)
                  refine lv_if_eq (tgt := 304) hx hb dX12_reads_260 (by decide) (fun c118 => ?_) (fun c118 => ?_)
                  · replace hf := fx_it c118 hf
                    exact j_J45  _ _ _ hP hS (lv_sub hl [0, 1, 2] rfl) hf
                  · replace hf := fx_ie c118 hf
                    exact j_J100  _ _ _ hP hS (lv_sub hl [0, 1, 2] rfl) hf
              · replace hf := fx_ie c41 hf
                exact j_J19  _ _ _ hP hS (lv_sub hl [0, 1] rfl) hf
        · replace hf := fx_ie c8 hf
          refine lv_aload_n hx hb dX12_reads_15 rfl (lv_at hl 0 rfl) ?_
          obtain ⟨r120, hc119, hf⟩ := fxBP_e hf
          refine fx_ci hC hS (fx_runV (i := 0) (As := []) (rest := []) hC hP hS (ctX12_fact l hc119 D cy ad ec _) kM_0 (by decide) rfl kMV_X12_183 kC_X12_fact hd_X12_fact rfl ⟨(Nat.le_of_ble_eq_true rfl), (Nat.le_of_ble_eq_true rfl)⟩ ⟨Nat.le_refl 0, Nat.le_refl 0⟩ hl.1 (Nat.le_of_ble_eq_true rfl) rfl dX12_reads_16) (fun H locs hP hS => ?_)
          refine lv_istore_n (lv' := [(3, .int r120), (0, .ref (ad 0)), (1, .int w3), (2, .int w4)]) hx hb dX12_reads_19 rfl hl (by decide) rfl (fun ls hl => ?_)
          refine lv_aload_n hx hb dX12_reads_20 rfl (lv_at hl 1 rfl) ?_
          refine lv_ldc2 (own := RX12) (v := 10631) hx hb hC.2.2.2.1 (hC.2.2.2.2.1 _ kK_X12_187) dX12_reads_21 ?_
          obtain ⟨r123, hc122, hf⟩ := fxBP_e hf
          refine fx_ci hC hS (fx_runV (i := 0) (As := [.long 10631]) (rest := []) hC hP hS (ctX12_isWord l hc122 D cy ad ec _) kM_0 (by decide) rfl kMV_X12_189 kC_X12_isWord hd_X12_isWord rfl ⟨(Nat.le_of_ble_eq_true rfl), (Nat.le_of_ble_eq_true rfl)⟩ ⟨Nat.le_refl 0, Nat.le_refl 0⟩ hl.1 (Nat.le_of_ble_eq_true rfl) rfl dX12_reads_24) (fun H locs hP hS => ?_)
          refine lv_istore (lv' := [(4, .int r123), (3, .int r120), (0, .ref (ad 0)), (1, .int w3), (2, .int w4)]) hx hb dX12_reads_27 hl (by decide) rfl (fun ls hl => ?_)
          refine lv_aload_n hx hb dX12_reads_29 rfl (lv_at hl 2 rfl) ?_
          refine lv_bipush hx hb dX12_reads_30 kb_40 ?_
          obtain ⟨r126, hc125, hf⟩ := fxBP_e hf
          refine fx_ci hC hS (fx_runV (i := 0) (As := [.int 40]) (rest := []) hC hP hS (ctX12_isSign l hc125 D cy ad ec _) kM_0 (by decide) rfl kMV_X12_193 kC_X12_isSign hd_X12_isSign rfl ⟨(Nat.le_of_ble_eq_true rfl), (Nat.le_of_ble_eq_true rfl)⟩ ⟨Nat.le_refl 0, Nat.le_refl 0⟩ hl.1 (Nat.le_of_ble_eq_true rfl) rfl dX12_reads_32) (fun H locs hP hS => ?_)
          refine lv_istore (lv' := [(5, .int r126), (4, .int r123), (3, .int r120), (0, .ref (ad 0)), (1, .int w3), (2, .int w4)]) hx hb dX12_reads_35 hl (by decide) rfl (fun ls hl => ?_)
          refine lv_iload_n hx hb dX12_reads_37 rfl (lv_at hl 2 rfl) ?_
          obtain ⟨J128, hJ128, hf⟩ := fxL_e hf
          have j_J128 : ∀  (H : Heap) (locs : List Loc) (ls : Array Slot), fx_P D cy LM ad σ5 H → va_S A s.heap H locs → lv_has ls 6 [(0, .ref (ad 0)), (1, .int w3), (2, .int w4), (3, .int r120), (4, .int r123), (5, .int r126)] → J128 = some (v, σ') → W p l e (fx_R (2)) s m args below meth c H locs 0 0 (fx_Qi D cy LM ad A below args s v σ') (F0 m 65 ls []) := by
            intro  H locs ls hP hS hl hf
            replace hf := hJ128.symm.trans hf
            refine lv_iload_n hx hb dX12_reads_65 rfl (lv_at hl 1 rfl) ?_
            refine lv_iconst hx hb dX12_reads_66 ki_5 ?_
            refine lv_icmp_ne (tgt := 76) hx hb dX12_reads_67 (by decide) (fun c129 => ?_) (fun c129 => ?_)
            · replace hf := fx_ie c129 hf
              refine lv_iload hx hb dX12_reads_76 (lv_at hl 4 rfl) ?_
              obtain ⟨J130, hJ130, hf⟩ := fxL_e hf
              have j_J130 : ∀ (x131 : Int32) (x132 : Int32) (σ133 : FH) (H : Heap) (locs : List Loc) (ls : Array Slot), fx_P D cy LM ad σ133 H → va_S A s.heap H locs → lv_has ls 6 [(0, .ref (ad 0)), (1, .int x131), (2, .int x132)] → J130 x131 x132 σ133 = some (v, σ') → W p l e (fx_R (2)) s m args below meth c H locs 0 0 (fx_Qi D cy LM ad A below args s v σ') (F0 m 172 ls []) := by
                intro x131 x132 σ133 H locs ls hP hS hl hf
                replace hf := fxk3 hJ130 hf
                refine lv_aload_n hx hb dX12_reads_172 rfl (lv_at hl 0 rfl) ?_
                obtain ⟨σ136, hc134, hf⟩ := fxBV_e hf
                refine fx_cv hC hS (fx_runV (i := 0) (As := []) (rest := []) hC hP hS (ctX12_nextToken l hc134 D cy ad ec _) kM_0 (by decide) rfl kMV_X12_203 kC_X12_nextToken hd_X12_nextToken rfl ⟨(Nat.le_of_ble_eq_true rfl), (Nat.le_of_ble_eq_true rfl)⟩ ⟨Nat.le_refl 0, Nat.le_refl 0⟩ hl.1 (Nat.le_of_ble_eq_true rfl) rfl dX12_reads_173) (fun H locs hP hS => ?_)
                refine lv_goto (tgt := 11) hx hb dX12_reads_176 (by decide) ?_
                exact ih6 x131 x132 σ136 _ _ _ hP hS (lv_sub hl [0, 1, 2] rfl) hf
              obtain ⟨J137, hJ137, hf⟩ := fxL_e hf
              have j_J137 : ∀  (H : Heap) (locs : List Loc) (ls : Array Slot), fx_P D cy LM ad σ5 H → va_S A s.heap H locs → lv_has ls 6 [(0, .ref (ad 0)), (1, .int w3), (2, .int w4), (4, .int r123)] → J137 = some (v, σ') → W p l e (fx_R (2)) s m args below meth c H locs 0 0 (fx_Qi D cy LM ad A below args s v σ') (F0 m 86 ls []) := by
                intro  H locs ls hP hS hl hf
                replace hf := hJ137.symm.trans hf
                refine lv_aload_n hx hb dX12_reads_86 rfl (lv_at hl 0 rfl) ?_
                refine lv_iload hx hb dX12_reads_87 (lv_at hl 3 rfl) ?_
                obtain ⟨v138, ev138, hf⟩ := fxL_e hf
                have j_v138 : ∀ (z139 : Int32), z139 = ((if r123 = 0 then 28 else 30) : Int32) → ∀ (ls : Array Slot), lv_has ls 6 [(0, .ref (ad 0)), (1, .int w3), (2, .int w4), (4, .int r123)] → W p l e (fx_R (2)) s m args below meth c H locs 0 0 (fx_Qi D cy LM ad A below args s v σ') (F0 m 99 ls [.int z139, .ref (ad 0)]) := by
                  intro z139 hz139 ls hl
                  obtain rfl : v138 = z139 := ev138.trans hz139.symm
                  obtain ⟨σ143, hc141, hf⟩ := fxBV_e hf
                  refine fx_cv hC hS (fx_runV (i := 0) (As := [.int v138]) (rest := []) hC hP hS (ctX12_puts l hc141 D cy ad ec _) kM_0 (by decide) rfl kMV_X12_200 kC_X12_puts hd_X12_puts rfl ⟨(Nat.le_of_ble_eq_true rfl), (Nat.le_of_ble_eq_true rfl)⟩ ⟨Nat.le_refl 0, Nat.le_refl 0⟩ hl.1 (Nat.le_of_ble_eq_true rfl) rfl dX12_reads_99) (fun H locs hP hS => ?_)
                  refine lv_iinc (v := (w3 + 1)) (lv' := [(1, .int (w3 + 1)), (0, .ref (ad 0)), (2, .int w4), (4, .int r123)]) hx hb dX12_reads_102 hl (k := 1) rfl (congrArg (fun z => w3 + z) ki_1) (by decide) rfl (fun ls hl => ?_)
                  refine lv_aload_n hx hb dX12_reads_105 rfl (lv_at hl 1 rfl) ?_
                  refine gf_X12_47 (v := .ref (ad 13)) hC hP kM_0 rfl dX12_reads_106 ?_
                  refine lv_iload_n hx hb dX12_reads_109 rfl (lv_at hl 0 rfl) ?_
                  refine lv_iload hx hb dX12_reads_110 (lv_at hl 3 rfl) ?_
                  obtain ⟨v144, ev144, hf⟩ := fxL_e hf
                  have j_v144 : ∀ (z145 : Int32), z145 = ((if r123 = 0 then 2 else 1) : Int32) → ∀ (ls : Array Slot), lv_has ls 6 [(0, .ref (ad 0)), (1, .int (w3 + 1)), (2, .int w4)] → W p l e (fx_R (2)) s m args below meth c H locs 0 0 (fx_Qi D cy LM ad A below args s v σ') (F0 m 120 ls [.int z145, .int (w3 + 1), .ref (ad 13)]) := by
                    intro z145 hz145 ls hl
                    obtain rfl : v144 = z145 := ev144.trans hz145.symm
                    obtain ⟨h147, hf⟩ := fxG_e hf
                    obtain ⟨σ148, eσ148, hf⟩ := fxL_e hf
                    refine fx_iast hC hP hS kM_13 (fx_inp h147) dX12_reads_120 (fun H locs hP hS => ?_)
                    replace hP := fx_Pe eσ148 hP
                    refine lv_aload_n hx hb dX12_reads_121 rfl (lv_at hl 0 rfl) ?_
                    refine gf_X12_50 (v := .ref (ad 14)) hC hP kM_0 rfl dX12_reads_122 ?_
                    refine lv_iload_n hx hb dX12_reads_125 rfl (lv_at hl 1 rfl) ?_
                    refine lv_iconst hx hb dX12_reads_126 ki_0 ?_
                    obtain ⟨h149, hf⟩ := fxG_e hf
                    obtain ⟨σ150, eσ150, hf⟩ := fxL_e hf
                    refine fx_zast hC hP hS kM_14 (fx_inp h149) dX12_reads_127 (fun H locs hP hS => ?_)
                    replace hP := fx_Pe eσ150 hP
                    refine lv_goto (tgt := 172) hx hb dX12_reads_128 (by decide) ?_
                    exact j_J130 (w3 + 1) w4 σ150 _ _ _ hP hS (lv_sub hl [0, 1, 2] rfl) hf
                  refine lv_if_eq (tgt := 119) hx hb dX12_reads_112 (by decide) (fun c146 => ?_) (fun c146 => ?_)
                  · refine lv_iconst hx hb dX12_reads_119 ki_2 ?_
                    exact j_v144 2 (if_pos c146).symm ls (lv_sub hl [1, 0, 2] rfl)
                  · refine lv_iconst hx hb dX12_reads_115 ki_1 ?_
                    refine lv_goto (tgt := 120) hx hb dX12_reads_116 (by decide) ?_
                    exact j_v144 1 (if_neg c146).symm ls (lv_sub hl [1, 0, 2] rfl)
                refine lv_if_eq (tgt := 97) hx hb dX12_reads_89 (by decide) (fun c140 => ?_) (fun c140 => ?_)
                · refine lv_bipush hx hb dX12_reads_97 kb_28 ?_
                  exact j_v138 28 (if_pos c140).symm ls (lv_sub hl [0, 1, 2, 3] rfl)
                · refine lv_bipush hx hb dX12_reads_92 kb_30 ?_
                  refine lv_goto (tgt := 99) hx hb dX12_reads_94 (by decide) ?_
                  exact j_v138 30 (if_neg c140).symm ls (lv_sub hl [0, 1, 2, 3] rfl)
              refine lv_if_ne (tgt := 86) hx hb dX12_reads_78 (by decide) (fun c151 => ?_) (fun c151 => ?_)
              · replace hf := fx_ie c151 hf
                exact j_J137  _ _ _ hP hS (lv_sub hl [0, 1, 2, 4] rfl) hf
              · replace hf := fx_it c151 hf
                refine lv_iload hx hb dX12_reads_81 (lv_at hl 5 rfl) ?_
                refine lv_if_eq (tgt := 131) hx hb dX12_reads_83 (by decide) (fun c152 => ?_) (fun c152 => ?_)
                · replace hf := fx_it c152 hf
                  refine lv_aload_n hx hb dX12_reads_131 rfl (lv_at hl 0 rfl) ?_
                  refine lv_iload_n hx hb dX12_reads_132 rfl (lv_at hl 3 rfl) ?_
                  obtain ⟨v153, ev153, hf⟩ := fxL_e hf
                  have j_v153 : ∀ (z154 : Int32), z154 = ((if r120 ≤ 0 then (100 + (σ5.1 0 8)) else r120) : Int32) → ∀ (ls : Array Slot), lv_has ls 6 [(0, .ref (ad 0)), (1, .int w3)] → W p l e (fx_R (2)) s m args below meth c H locs 0 0 (fx_Qi D cy LM ad A below args s v σ') (F0 m 147 ls [.int z154, .ref (ad 0)]) := by
                    intro z154 hz154 ls hl
                    obtain rfl : v153 = z154 := ev153.trans hz154.symm
                    obtain ⟨σ158, hc156, hf⟩ := fxBV_e hf
                    refine fx_cv hC hS (fx_runV (i := 0) (As := [.int v153]) (rest := []) hC hP hS (ctX12_puts l hc156 D cy ad ec _) kM_0 (by decide) rfl kMV_X12_200 kC_X12_puts hd_X12_puts rfl ⟨(Nat.le_of_ble_eq_true rfl), (Nat.le_of_ble_eq_true rfl)⟩ ⟨Nat.le_refl 0, Nat.le_refl 0⟩ hl.1 (Nat.le_of_ble_eq_true rfl) rfl dX12_reads_147) (fun H locs hP hS => ?_)
                    refine lv_iconst hx hb dX12_reads_150 ki_0 ?_
                    refine lv_istore_n (lv' := [(2, .int 0), (0, .ref (ad 0)), (1, .int w3)]) hx hb dX12_reads_151 rfl hl (by decide) rfl (fun ls hl => ?_)
                    obtain ⟨K159, hK159, hf⟩ := fxL_e hf
                    have k_K159 : ∀ (x160 : Int32) (H : Heap) (locs : List Loc) (ls : Array Slot), fx_P D cy LM ad σ158 H → va_S A s.heap H locs → lv_has ls 6 [(0, .ref (ad 0)), (1, .int x160), (2, .int 0)] → K159 x160 = some (v, σ') → W p l e (fx_R (2)) s m args below meth c H locs 0 0 (fx_Qi D cy LM ad A below args s v σ') (F0 m 172 ls []) := by
                      intro x160 H locs ls hP hS hl hf
                      replace hf := fxk1 hK159 hf
                      refine lv_aload_n hx hb dX12_reads_172 rfl (lv_at hl 0 rfl) ?_
                      obtain ⟨σ163, hc161, hf⟩ := fxBV_e hf
                      refine fx_cv hC hS (fx_runV (i := 0) (As := []) (rest := []) hC hP hS (ctX12_nextToken l hc161 D cy ad ec _) kM_0 (by decide) rfl kMV_X12_203 kC_X12_nextToken hd_X12_nextToken rfl ⟨(Nat.le_of_ble_eq_true rfl), (Nat.le_of_ble_eq_true rfl)⟩ ⟨Nat.le_refl 0, Nat.le_refl 0⟩ hl.1 (Nat.le_of_ble_eq_true rfl) rfl dX12_reads_173) (fun H locs hP hS => ?_)
                      refine lv_goto (tgt := 11) hx hb dX12_reads_176 (by decide) ?_
                      exact ih6 x160 0 σ163 _ _ _ hP hS (lv_sub hl [0, 1, 2] rfl) hf
                    have L170 : ∀ (n166 : Nat) (w164 : Int32) (H : Heap) (locs : List Loc) (ls : Array Slot), fx_P D cy LM ad σ158 H → va_S A s.heap H locs → lv_has ls 6 [(0, .ref (ad 0)), (1, .int w164), (2, .int 0)] → fX12_reads_152 σ158 K159 n166 w164 = some (v, σ') → W p l e (fx_R (2)) s m args below meth c H locs 0 0 (fx_Qi D cy LM ad A below args s v σ') (F0 m 152 ls []) := by
                      intro n166
                      induction n166 with
                      | zero =>
                        intro w164 H locs ls hP hS hl hf
                        rw [fX12_reads_152] at hf
                        cases hf
                      | succ n166 ih165 =>
                        intro w164 H locs ls hP hS hl hf
                        rw [fX12_reads_152] at hf
                        refine lv_iload_n hx hb dX12_reads_152 rfl (lv_at hl 1 rfl) ?_
                        refine lv_if_le (tgt := 172) hx hb dX12_reads_153 (by decide) (fun c167 => ?_) (fun c167 => ?_)
                        · replace hf := fx_it c167 hf
                          exact k_K159 w164 _ _ _ hP hS (lv_sub hl [0, 1, 2] rfl) hf
                        · replace hf := fx_ie c167 hf
                          refine lv_aload_n hx hb dX12_reads_156 rfl (lv_at hl 0 rfl) ?_
                          refine gf_X12_47 (v := .ref (ad 13)) hC hP kM_0 rfl dX12_reads_157 ?_
                          refine lv_iload_n hx hb dX12_reads_160 rfl (lv_at hl 1 rfl) ?_
                          obtain ⟨h168, hf⟩ := fxG_e hf
                          refine fx_iald hC hP kM_13 (fx_inp h168) dX12_reads_161 ?_
                          refine lv_iconst hx hb dX12_reads_162 ki_1 ?_
                          refine lv_icmp_ne (tgt := 172) hx hb dX12_reads_163 (by decide) (fun c169 => ?_) (fun c169 => ?_)
                          · replace hf := fx_ie c169 hf
                            exact k_K159 w164 _ _ _ hP hS (lv_sub hl [0, 1, 2] rfl) hf
                          · replace hf := fx_it c169 hf
                            refine lv_iinc (v := (w164 + (-1))) (lv' := [(1, .int (w164 + (-1))), (0, .ref (ad 0)), (2, .int 0)]) hx hb dX12_reads_166 hl (k := 1) rfl (congrArg (fun z => w164 + z) ki_m1) (by decide) rfl (fun ls hl => ?_)
                            refine lv_goto (tgt := 152) hx hb dX12_reads_169 (by decide) ?_
                            exact ih165 (w164 + (-1)) _ _ _ hP hS (lv_sub hl [1, 0, 2] rfl) hf
                    exact L170 FU w3 _ _ _ hP hS (lv_sub hl [1, 2, 0] rfl) hf
                  refine lv_if_le (tgt := 140) hx hb dX12_reads_133 (by decide) (fun c155 => ?_) (fun c155 => ?_)
                  · refine lv_bipush hx hb dX12_reads_140 kb_100 ?_
                    refine lv_aload_n hx hb dX12_reads_142 rfl (lv_at hl 0 rfl) ?_
                    refine gf_X12_155 (v := .int (σ5.1 0 8)) hC hP kM_0 rfl dX12_reads_143 ?_
                    refine lv_iadd hx hb dX12_reads_146 ?_
                    exact j_v153 (100 + (σ5.1 0 8)) (if_pos c155).symm ls (lv_sub hl [0, 1] rfl)
                  · refine lv_iload_n hx hb dX12_reads_136 rfl (lv_at hl 3 rfl) ?_
                    refine lv_goto (tgt := 147) hx hb dX12_reads_137 (by decide) ?_
                    exact j_v153 r120 (if_neg c155).symm ls (lv_sub hl [0, 1] rfl)
                · replace hf := fx_ie c152 hf
                  exact j_J137  _ _ _ hP hS (lv_sub hl [0, 1, 2, 4] rfl) hf
            · replace hf := fx_it c129 hf
              refine lv_aload_n hx hb dX12_reads_70 rfl (lv_at hl 0 rfl) ?_
              refine lv_iconst hx hb dX12_reads_71 ki_5 ?_
              obtain ⟨r172, σ173, hc171, hf⟩ := fxBI_e hf
              refine fx_ci hC hS (fx_runV (i := 0) (As := [.int 5]) (rest := []) hC hP hS (ctX12_fails l hc171 D cy ad ec _) kM_0 (by decide) rfl kMV_X12_197 kC_X12_fails hd_X12_fails rfl ⟨(Nat.le_of_ble_eq_true rfl), (Nat.le_of_ble_eq_true rfl)⟩ ⟨Nat.le_refl 0, Nat.le_refl 0⟩ hl.1 (Nat.le_of_ble_eq_true rfl) rfl dX12_reads_72) (fun H locs hP hS => ?_)
              obtain ⟨h174, hf⟩ := fxG_e hf
              exact fx_zretf (fx_bon h174) hf hC hr hk hP hS dX12_reads_75
          refine lv_if_ne (tgt := 65) hx hb dX12_reads_38 (by decide) (fun c175 => ?_) (fun c175 => ?_)
          · replace hf := fx_ie c175 hf
            exact j_J128  _ _ _ hP hS (lv_sub hl [3, 4, 5, 2, 1, 0] rfl) hf
          · replace hf := fx_it c175 hf
            refine lv_iload hx hb dX12_reads_41 (lv_at hl 1 rfl) ?_
            refine lv_if_ne (tgt := 65) hx hb dX12_reads_43 (by decide) (fun c176 => ?_) (fun c176 => ?_)
            · replace hf := fx_ie c176 hf
              exact j_J128  _ _ _ hP hS (lv_sub hl [3, 4, 5, 2, 1, 0] rfl) hf
            · replace hf := fx_it c176 hf
              refine lv_iload hx hb dX12_reads_46 (lv_at hl 0 rfl) ?_
              refine lv_if_ne (tgt := 65) hx hb dX12_reads_48 (by decide) (fun c177 => ?_) (fun c177 => ?_)
              · replace hf := fx_ie c177 hf
                exact j_J128  _ _ _ hP hS (lv_sub hl [3, 4, 5, 2, 1, 0] rfl) hf
              · replace hf := fx_it c177 hf
                refine lv_aload_n hx hb dX12_reads_51 rfl (lv_at hl 3 rfl) ?_
                refine gf_X12_158 (v := .int (σ5.1 0 6)) hC hP kM_0 rfl dX12_reads_52 ?_
                refine lv_iconst hx hb dX12_reads_55 ki_2 ?_
                refine lv_icmp_eq (tgt := 65) hx hb dX12_reads_56 (by decide) (fun c178 => ?_) (fun c178 => ?_)
                · replace hf := fx_it c178 hf
                  exact j_J128  _ _ _ hP hS (lv_sub hl [3, 4, 5, 2, 1, 0] rfl) hf
                · replace hf := fx_ie c178 hf
                  refine lv_aload_n hx hb dX12_reads_59 rfl (lv_at hl 3 rfl) ?_
                  refine lv_iconst hx hb dX12_reads_60 ki_1 ?_
                  obtain ⟨r180, σ181, hc179, hf⟩ := fxBI_e hf
                  refine fx_ci hC hS (fx_runV (i := 0) (As := [.int 1]) (rest := []) hC hP hS (ctX12_fails l hc179 D cy ad ec _) kM_0 (by decide) rfl kMV_X12_197 kC_X12_fails hd_X12_fails rfl ⟨(Nat.le_of_ble_eq_true rfl), (Nat.le_of_ble_eq_true rfl)⟩ ⟨Nat.le_refl 0, Nat.le_refl 0⟩ hl.1 (Nat.le_of_ble_eq_true rfl) rfl dX12_reads_61) (fun H locs hP hS => ?_)
                  obtain ⟨h182, hf⟩ := fxG_e hf
                  exact fx_zretf (fx_bon h182) hf hC hr hk hP hS dX12_reads_64
    exact L183 FU 0 1 σ2 _ _ _ hP hS (lv_sub hl [2, 1, 0] rfl) hf
  exact main _ _ _ hP hS hl

set_option maxHeartbeats 4000000 in
set_option maxRecDepth 100000 in
theorem ctX12_opens (l : Launch) {a1 : Int32} {σ σ' : FH} (hf : fX12_opens a1 σ = some σ') : fx_Mv l yX12_opens cX12_opens 2 none (0) LM (fun ad ec => [.ref (ad 0), .int a1]) σ σ' := by
  unfold fX12_opens at hf
  refine fx_mv' (own := RX12) rfl (by decide +kernel) ?_
  intro p e s m args below meth c D cy ad ec A hC hr hk hP hS
  have hx := hC.1
  have hb := hC.2.1
  have hl := lv_entry ([.ref (ad 0), .int a1]) (n := 2) (Nat.le_of_ble_eq_true rfl)
  show W _ _ _ _ _ _ _ _ _ _ _ _ _ _ _ (entryFrame m ([.ref (ad 0), .int a1] : List Value).toArray 2)
  rw [lg_entry_eq]
  generalize (lg_sl ([.ref (ad 0), .int a1]) ++ List.replicate (2 - (lg_sl ([.ref (ad 0), .int a1])).length) Slot.unset).toArray = ls at hl ⊢
  have hl : lv_has ls 2 [(0, .ref (ad 0)), (1, .int a1)] := hl
  have main : ∀ (H : Heap) (locs : List Loc) (ls : Array Slot), fx_P D cy LM ad σ H → va_S A s.heap H locs → lv_has ls 2 [(0, .ref (ad 0)), (1, .int a1)] → W p l e (fx_R (0)) s m args below meth c H locs 0 0 (fx_Qv D cy LM ad A below args s σ') (F0 m 0 ls []) := by
    intro H locs ls hP hS hl
    refine lv_aload_n hx hb dX12_opens_0 rfl (lv_at hl 0 rfl) ?_
    refine gf_X12_57 (v := .ref (ad 16)) hC hP kM_0 rfl dX12_opens_1 ?_
    refine lv_iload_n hx hb dX12_opens_4 rfl (lv_at hl 1 rfl) ?_
    refine lv_iconst hx hb dX12_opens_5 ki_0 ?_
    obtain ⟨h1, hf⟩ := fxG_e hf
    obtain ⟨σ2, eσ2, hf⟩ := fxL_e hf
    refine fx_iast hC hP hS kM_16 (fx_inp h1) dX12_opens_6 (fun H locs hP hS => ?_)
    replace hP := fx_Pe eσ2 hP
    refine lv_aload_n hx hb dX12_opens_7 rfl (lv_at hl 0 rfl) ?_
    refine gf_X12_63 (v := .ref (ad 18)) hC hP kM_0 rfl dX12_opens_8 ?_
    refine lv_iload_n hx hb dX12_opens_11 rfl (lv_at hl 1 rfl) ?_
    refine lv_iconst hx hb dX12_opens_12 ki_0 ?_
    obtain ⟨h3, hf⟩ := fxG_e hf
    obtain ⟨σ4, eσ4, hf⟩ := fxL_e hf
    refine fx_iast hC hP hS kM_18 (fx_inp h3) dX12_opens_13 (fun H locs hP hS => ?_)
    replace hP := fx_Pe eσ4 hP
    refine lv_aload_n hx hb dX12_opens_14 rfl (lv_at hl 0 rfl) ?_
    refine gf_X12_66 (v := .ref (ad 19)) hC hP kM_0 rfl dX12_opens_15 ?_
    refine lv_iload_n hx hb dX12_opens_18 rfl (lv_at hl 1 rfl) ?_
    refine lv_iconst hx hb dX12_opens_19 ki_0 ?_
    obtain ⟨h5, hf⟩ := fxG_e hf
    obtain ⟨σ6, eσ6, hf⟩ := fxL_e hf
    refine fx_iast hC hP hS kM_19 (fx_inp h5) dX12_opens_20 (fun H locs hP hS => ?_)
    replace hP := fx_Pe eσ6 hP
    refine lv_aload_n hx hb dX12_opens_21 rfl (lv_at hl 0 rfl) ?_
    refine gf_X12_69 (v := .ref (ad 20)) hC hP kM_0 rfl dX12_opens_22 ?_
    refine lv_iload_n hx hb dX12_opens_25 rfl (lv_at hl 1 rfl) ?_
    refine lv_bipush hx hb dX12_opens_26 kb_20 ?_
    obtain ⟨h7, hf⟩ := fxG_e hf
    obtain ⟨σ8, eσ8, hf⟩ := fxL_e hf
    refine fx_iast hC hP hS kM_20 (fx_inp h7) dX12_opens_28 (fun H locs hP hS => ?_)
    replace hP := fx_Pe eσ8 hP
    refine lv_aload_n hx hb dX12_opens_29 rfl (lv_at hl 0 rfl) ?_
    refine gf_X12_75 (v := .ref (ad 22)) hC hP kM_0 rfl dX12_opens_30 ?_
    refine lv_iload_n hx hb dX12_opens_33 rfl (lv_at hl 1 rfl) ?_
    refine lv_iconst hx hb dX12_opens_34 ki_0 ?_
    obtain ⟨h9, hf⟩ := fxG_e hf
    obtain ⟨σ10, eσ10, hf⟩ := fxL_e hf
    refine fx_iast hC hP hS kM_22 (fx_inp h9) dX12_opens_35 (fun H locs hP hS => ?_)
    replace hP := fx_Pe eσ10 hP
    exact fx_vretf hf hC hr hk hP hS dX12_opens_36
  exact main _ _ _ hP hS hl

set_option maxHeartbeats 4000000 in
set_option maxRecDepth 100000 in
theorem ctX12_sums (l : Launch) {a1 : Int32} {σ σ' : FH} (hf : fX12_sums a1 σ = some σ') : fx_Mv l yX12_sums cX12_sums 2 none (0) LM (fun ad ec => [.ref (ad 0), .int a1]) σ σ' := by
  unfold fX12_sums at hf
  refine fx_mv' (own := RX12) rfl (by decide +kernel) ?_
  intro p e s m args below meth c D cy ad ec A hC hr hk hP hS
  have hx := hC.1
  have hb := hC.2.1
  have hl := lv_entry ([.ref (ad 0), .int a1]) (n := 2) (Nat.le_of_ble_eq_true rfl)
  show W _ _ _ _ _ _ _ _ _ _ _ _ _ _ _ (entryFrame m ([.ref (ad 0), .int a1] : List Value).toArray 2)
  rw [lg_entry_eq]
  generalize (lg_sl ([.ref (ad 0), .int a1]) ++ List.replicate (2 - (lg_sl ([.ref (ad 0), .int a1])).length) Slot.unset).toArray = ls at hl ⊢
  have hl : lv_has ls 2 [(0, .ref (ad 0)), (1, .int a1)] := hl
  have main : ∀ (H : Heap) (locs : List Loc) (ls : Array Slot), fx_P D cy LM ad σ H → va_S A s.heap H locs → lv_has ls 2 [(0, .ref (ad 0)), (1, .int a1)] → W p l e (fx_R (0)) s m args below meth c H locs 0 0 (fx_Qv D cy LM ad A below args s σ') (F0 m 0 ls []) := by
    intro H locs ls hP hS hl
    refine lv_aload_n hx hb dX12_sums_0 rfl (lv_at hl 0 rfl) ?_
    refine gf_X12_66 (v := .ref (ad 19)) hC hP kM_0 rfl dX12_sums_1 ?_
    refine lv_iload_n hx hb dX12_sums_4 rfl (lv_at hl 1 rfl) ?_
    refine lv_aload_n hx hb dX12_sums_5 rfl (lv_at hl 0 rfl) ?_
    refine gf_X12_69 (v := .ref (ad 20)) hC hP kM_0 rfl dX12_sums_6 ?_
    refine lv_iload_n hx hb dX12_sums_9 rfl (lv_at hl 1 rfl) ?_
    obtain ⟨h1, hf⟩ := fxG_e hf
    refine fx_iald hC hP kM_20 (fx_inp h1) dX12_sums_10 ?_
    refine lv_bipush hx hb dX12_sums_11 kb_21 ?_
    obtain ⟨J2, hJ2, hf⟩ := fxL_e hf
    have j_J2 : ∀ (y3 : Int32) (H : Heap) (locs : List Loc) (ls : Array Slot), fx_P D cy LM ad σ H → va_S A s.heap H locs → lv_has ls 2 [(0, .ref (ad 0)), (1, .int a1)] → J2 y3 = some σ' → W p l e (fx_R (0)) s m args below meth c H locs 0 0 (fx_Qv D cy LM ad A below args s σ') (F0 m 45 ls [.int y3, .int a1, .ref (ad 19)]) := by
      intro y3 H locs ls hP hS hl hf
      replace hf := fxk1 hJ2 hf
      obtain ⟨h4, hf⟩ := fxG_e hf
      obtain ⟨σ5, eσ5, hf⟩ := fxL_e hf
      refine fx_iast hC hP hS kM_19 (fx_inp h4) dX12_sums_45 (fun H locs hP hS => ?_)
      replace hP := fx_Pe eσ5 hP
      refine lv_aload_n hx hb dX12_sums_46 rfl (lv_at hl 0 rfl) ?_
      refine gf_X12_75 (v := .ref (ad 22)) hC hP kM_0 rfl dX12_sums_47 ?_
      refine lv_iload_n hx hb dX12_sums_50 rfl (lv_at hl 1 rfl) ?_
      refine lv_iconst hx hb dX12_sums_51 ki_0 ?_
      obtain ⟨h6, hf⟩ := fxG_e hf
      obtain ⟨σ7, eσ7, hf⟩ := fxL_e hf
      refine fx_iast hC hP hS kM_22 (fx_inp h6) dX12_sums_52 (fun H locs hP hS => ?_)
      replace hP := fx_Pe eσ7 hP
      exact fx_vretf hf hC hr hk hP hS dX12_sums_53
    refine lv_icmp_ne (tgt := 32) hx hb dX12_sums_13 (by decide) (fun c8 => ?_) (fun c8 => ?_)
    · replace hf := fx_ie c8 hf
      refine lv_aload_n hx hb dX12_sums_32 rfl (lv_at hl 0 rfl) ?_
      refine gf_X12_66 (v := .ref (ad 19)) hC hP kM_0 rfl dX12_sums_33 ?_
      refine lv_iload_n hx hb dX12_sums_36 rfl (lv_at hl 1 rfl) ?_
      obtain ⟨h9, hf⟩ := fxG_e hf
      refine fx_iald hC hP kM_19 (fx_inp h9) dX12_sums_37 ?_
      refine lv_aload_n hx hb dX12_sums_38 rfl (lv_at hl 0 rfl) ?_
      refine gf_X12_72 (v := .ref (ad 21)) hC hP kM_0 rfl dX12_sums_39 ?_
      refine lv_iload_n hx hb dX12_sums_42 rfl (lv_at hl 1 rfl) ?_
      obtain ⟨h10, hf⟩ := fxG_e hf
      refine fx_iald hC hP kM_21 (fx_inp h10) dX12_sums_43 ?_
      refine lv_iadd hx hb dX12_sums_44 ?_
      exact j_J2 ((σ.1 19 (Int32.toNatClampNeg a1)) + (σ.1 21 (Int32.toNatClampNeg a1))) _ _ _ hP hS (lv_sub hl [0, 1] rfl) hf
    · replace hf := fx_it c8 hf
      refine lv_aload_n hx hb dX12_sums_16 rfl (lv_at hl 0 rfl) ?_
      refine gf_X12_66 (v := .ref (ad 19)) hC hP kM_0 rfl dX12_sums_17 ?_
      refine lv_iload_n hx hb dX12_sums_20 rfl (lv_at hl 1 rfl) ?_
      obtain ⟨h11, hf⟩ := fxG_e hf
      refine fx_iald hC hP kM_19 (fx_inp h11) dX12_sums_21 ?_
      refine lv_aload_n hx hb dX12_sums_22 rfl (lv_at hl 0 rfl) ?_
      refine gf_X12_72 (v := .ref (ad 21)) hC hP kM_0 rfl dX12_sums_23 ?_
      refine lv_iload_n hx hb dX12_sums_26 rfl (lv_at hl 1 rfl) ?_
      obtain ⟨h12, hf⟩ := fxG_e hf
      refine fx_iald hC hP kM_21 (fx_inp h12) dX12_sums_27 ?_
      refine lv_isub hx hb dX12_sums_28 ?_
      refine lv_goto (tgt := 45) hx hb dX12_sums_29 (by decide) ?_
      exact j_J2 ((σ.1 19 (Int32.toNatClampNeg a1)) - (σ.1 21 (Int32.toNatClampNeg a1))) _ _ _ hP hS (lv_sub hl [0, 1] rfl) hf
  exact main _ _ _ hP hS hl

set_option maxHeartbeats 4000000 in
set_option maxRecDepth 100000 in
theorem ctX12_tests (l : Launch) {a1 : Int32} {σ σ' : FH} (hf : fX12_tests a1 σ = some σ') : fx_Mv l yX12_tests cX12_tests 3 none (1) LM (fun ad ec => [.ref (ad 0), .int a1]) σ σ' := by
  unfold fX12_tests at hf
  refine fx_mv' (own := RX12) rfl (by decide +kernel) ?_
  intro p e s m args below meth c D cy ad ec A hC hr hk hP hS
  have hx := hC.1
  have hb := hC.2.1
  have hl := lv_entry ([.ref (ad 0), .int a1]) (n := 3) (Nat.le_of_ble_eq_true rfl)
  show W _ _ _ _ _ _ _ _ _ _ _ _ _ _ _ (entryFrame m ([.ref (ad 0), .int a1] : List Value).toArray 3)
  rw [lg_entry_eq]
  generalize (lg_sl ([.ref (ad 0), .int a1]) ++ List.replicate (3 - (lg_sl ([.ref (ad 0), .int a1])).length) Slot.unset).toArray = ls at hl ⊢
  have hl : lv_has ls 3 [(0, .ref (ad 0)), (1, .int a1)] := hl
  have main : ∀ (H : Heap) (locs : List Loc) (ls : Array Slot), fx_P D cy LM ad σ H → va_S A s.heap H locs → lv_has ls 3 [(0, .ref (ad 0)), (1, .int a1)] → W p l e (fx_R (1)) s m args below meth c H locs 0 0 (fx_Qv D cy LM ad A below args s σ') (F0 m 0 ls []) := by
    intro H locs ls hP hS hl
    refine lv_aload_n hx hb dX12_tests_0 rfl (lv_at hl 0 rfl) ?_
    refine lv_iload_n hx hb dX12_tests_1 rfl (lv_at hl 1 rfl) ?_
    obtain ⟨σ3, hc1, hf⟩ := fxBV_e hf
    refine fx_cv hC hS (fx_runV (i := 0) (As := [.int a1]) (rest := []) hC hP hS (ctX12_sums l hc1 D cy ad ec _) kM_0 (by decide) rfl kMV_X12_210 kC_X12_sums hd_X12_sums rfl ⟨(Nat.le_of_ble_eq_true rfl), (Nat.le_of_ble_eq_true rfl)⟩ ⟨Nat.le_refl 0, Nat.le_refl 0⟩ hl.1 (Nat.le_of_ble_eq_true rfl) rfl dX12_tests_2) (fun H locs hP hS => ?_)
    refine lv_aload_n hx hb dX12_tests_5 rfl (lv_at hl 0 rfl) ?_
    refine gf_X12_66 (v := .ref (ad 19)) hC hP kM_0 rfl dX12_tests_6 ?_
    refine lv_iload_n hx hb dX12_tests_9 rfl (lv_at hl 1 rfl) ?_
    obtain ⟨h4, hf⟩ := fxG_e hf
    refine fx_iald hC hP kM_19 (fx_inp h4) dX12_tests_10 ?_
    obtain ⟨v5, ev5, hf⟩ := fxL_e hf
    refine fx_ti ev5 ?_
    refine lv_istore_n (lv' := [(2, .int v5), (0, .ref (ad 0)), (1, .int a1)]) hx hb dX12_tests_11 rfl hl (by decide) rfl (fun ls hl => ?_)
    refine lv_aload_n hx hb dX12_tests_12 rfl (lv_at hl 1 rfl) ?_
    refine gf_X12_63 (v := .ref (ad 18)) hC hP kM_0 rfl dX12_tests_13 ?_
    refine lv_iload_n hx hb dX12_tests_16 rfl (lv_at hl 2 rfl) ?_
    obtain ⟨h6, hf⟩ := fxG_e hf
    refine fx_iald hC hP kM_18 (fx_inp h6) dX12_tests_17 ?_
    refine lv_bipush hx hb dX12_tests_18 kb_24 ?_
    obtain ⟨J7, hJ7, hf⟩ := fxL_e hf
    have j_J7 : ∀ (x8 : Int32) (H : Heap) (locs : List Loc) (ls : Array Slot), fx_P D cy LM ad σ3 H → va_S A s.heap H locs → lv_has ls 3 [(0, .ref (ad 0)), (1, .int a1), (2, .int x8)] → J7 x8 = some σ' → W p l e (fx_R (1)) s m args below meth c H locs 0 0 (fx_Qv D cy LM ad A below args s σ') (F0 m 44 ls []) := by
      intro x8 H locs ls hP hS hl hf
      replace hf := fxk1 hJ7 hf
      refine lv_aload_n hx hb dX12_tests_44 rfl (lv_at hl 0 rfl) ?_
      refine gf_X12_63 (v := .ref (ad 18)) hC hP kM_0 rfl dX12_tests_45 ?_
      refine lv_iload_n hx hb dX12_tests_48 rfl (lv_at hl 1 rfl) ?_
      obtain ⟨h9, hf⟩ := fxG_e hf
      refine fx_iald hC hP kM_18 (fx_inp h9) dX12_tests_49 ?_
      refine lv_bipush hx hb dX12_tests_50 kb_25 ?_
      obtain ⟨J10, hJ10, hf⟩ := fxL_e hf
      have j_J10 : ∀ (x11 : Int32) (H : Heap) (locs : List Loc) (ls : Array Slot), fx_P D cy LM ad σ3 H → va_S A s.heap H locs → lv_has ls 3 [(0, .ref (ad 0)), (1, .int a1), (2, .int x11)] → J10 x11 = some σ' → W p l e (fx_R (1)) s m args below meth c H locs 0 0 (fx_Qv D cy LM ad A below args s σ') (F0 m 76 ls []) := by
        intro x11 H locs ls hP hS hl hf
        replace hf := fxk1 hJ10 hf
        refine lv_aload_n hx hb dX12_tests_76 rfl (lv_at hl 0 rfl) ?_
        refine gf_X12_57 (v := .ref (ad 16)) hC hP kM_0 rfl dX12_tests_77 ?_
        refine lv_iload_n hx hb dX12_tests_80 rfl (lv_at hl 1 rfl) ?_
        obtain ⟨h12, hf⟩ := fxG_e hf
        refine fx_iald hC hP kM_16 (fx_inp h12) dX12_tests_81 ?_
        refine lv_bipush hx hb dX12_tests_82 kb_26 ?_
        obtain ⟨J13, hJ13, hf⟩ := fxL_e hf
        have j_J13 : ∀ (x14 : Int32) (H : Heap) (locs : List Loc) (ls : Array Slot), fx_P D cy LM ad σ3 H → va_S A s.heap H locs → lv_has ls 3 [(0, .ref (ad 0)), (1, .int a1), (2, .int x14)] → J13 x14 = some σ' → W p l e (fx_R (1)) s m args below meth c H locs 0 0 (fx_Qv D cy LM ad A below args s σ') (F0 m 106 ls []) := by
          intro x14 H locs ls hP hS hl hf
          replace hf := fxk1 hJ13 hf
          refine lv_aload_n hx hb dX12_tests_106 rfl (lv_at hl 0 rfl) ?_
          refine gf_X12_57 (v := .ref (ad 16)) hC hP kM_0 rfl dX12_tests_107 ?_
          refine lv_iload_n hx hb dX12_tests_110 rfl (lv_at hl 1 rfl) ?_
          obtain ⟨h15, hf⟩ := fxG_e hf
          refine fx_iald hC hP kM_16 (fx_inp h15) dX12_tests_111 ?_
          refine lv_bipush hx hb dX12_tests_112 kb_27 ?_
          obtain ⟨J16, hJ16, hf⟩ := fxL_e hf
          have j_J16 : ∀ (x17 : Int32) (H : Heap) (locs : List Loc) (ls : Array Slot), fx_P D cy LM ad σ3 H → va_S A s.heap H locs → lv_has ls 3 [(0, .ref (ad 0)), (1, .int a1), (2, .int x17)] → J16 x17 = some σ' → W p l e (fx_R (1)) s m args below meth c H locs 0 0 (fx_Qv D cy LM ad A below args s σ') (F0 m 136 ls []) := by
            intro x17 H locs ls hP hS hl hf
            replace hf := fxk1 hJ16 hf
            refine lv_aload_n hx hb dX12_tests_136 rfl (lv_at hl 0 rfl) ?_
            refine gf_X12_54 (v := .ref (ad 15)) hC hP kM_0 rfl dX12_tests_137 ?_
            refine lv_iload_n hx hb dX12_tests_140 rfl (lv_at hl 1 rfl) ?_
            refine lv_iload_n hx hb dX12_tests_141 rfl (lv_at hl 2 rfl) ?_
            obtain ⟨h18, hf⟩ := fxG_e hf
            obtain ⟨σ19, eσ19, hf⟩ := fxL_e hf
            refine fx_iast hC hP hS kM_15 (fx_inp h18) dX12_tests_142 (fun H locs hP hS => ?_)
            replace hP := fx_Pe eσ19 hP
            refine lv_aload_n hx hb dX12_tests_143 rfl (lv_at hl 0 rfl) ?_
            refine gf_X12_63 (v := .ref (ad 18)) hC hP kM_0 rfl dX12_tests_144 ?_
            refine lv_iload_n hx hb dX12_tests_147 rfl (lv_at hl 1 rfl) ?_
            refine lv_iconst hx hb dX12_tests_148 ki_0 ?_
            obtain ⟨h20, hf⟩ := fxG_e hf
            obtain ⟨σ21, eσ21, hf⟩ := fxL_e hf
            refine fx_iast hC hP hS kM_18 (fx_inp h20) dX12_tests_149 (fun H locs hP hS => ?_)
            replace hP := fx_Pe eσ21 hP
            refine lv_aload_n hx hb dX12_tests_150 rfl (lv_at hl 0 rfl) ?_
            refine gf_X12_66 (v := .ref (ad 19)) hC hP kM_0 rfl dX12_tests_151 ?_
            refine lv_iload_n hx hb dX12_tests_154 rfl (lv_at hl 1 rfl) ?_
            refine lv_iconst hx hb dX12_tests_155 ki_0 ?_
            obtain ⟨h22, hf⟩ := fxG_e hf
            obtain ⟨σ23, eσ23, hf⟩ := fxL_e hf
            refine fx_iast hC hP hS kM_19 (fx_inp h22) dX12_tests_156 (fun H locs hP hS => ?_)
            replace hP := fx_Pe eσ23 hP
            refine lv_aload_n hx hb dX12_tests_157 rfl (lv_at hl 0 rfl) ?_
            refine gf_X12_69 (v := .ref (ad 20)) hC hP kM_0 rfl dX12_tests_158 ?_
            refine lv_iload_n hx hb dX12_tests_161 rfl (lv_at hl 1 rfl) ?_
            refine lv_bipush hx hb dX12_tests_162 kb_20 ?_
            obtain ⟨h24, hf⟩ := fxG_e hf
            obtain ⟨σ25, eσ25, hf⟩ := fxL_e hf
            refine fx_iast hC hP hS kM_20 (fx_inp h24) dX12_tests_164 (fun H locs hP hS => ?_)
            replace hP := fx_Pe eσ25 hP
            exact fx_vretf hf hC hr hk hP hS dX12_tests_165
          refine lv_icmp_ne (tgt := 136) hx hb dX12_tests_114 (by decide) (fun c26 => ?_) (fun c26 => ?_)
          · replace hf := fx_ie c26 hf
            exact j_J16 x14 _ _ _ hP hS (lv_sub hl [0, 1, 2] rfl) hf
          · replace hf := fx_it c26 hf
            refine lv_aload_n hx hb dX12_tests_117 rfl (lv_at hl 0 rfl) ?_
            refine gf_X12_54 (v := .ref (ad 15)) hC hP kM_0 rfl dX12_tests_118 ?_
            refine lv_iload_n hx hb dX12_tests_121 rfl (lv_at hl 1 rfl) ?_
            obtain ⟨h27, hf⟩ := fxG_e hf
            refine fx_iald hC hP kM_15 (fx_inp h27) dX12_tests_122 ?_
            obtain ⟨v28, ev28, hf⟩ := fxL_e hf
            have j_v28 : ∀ (z29 : Int32), z29 = ((if (σ3.1 15 (Int32.toNatClampNeg a1)) = 0 then (if x14 = 0 then 0 else 1) else 1) : Int32) → ∀ (ls : Array Slot), lv_has ls 3 [(0, .ref (ad 0)), (1, .int a1)] → W p l e (fx_R (1)) s m args below meth c H locs 0 0 (fx_Qv D cy LM ad A below args s σ') (F0 m 135 ls [.int z29]) := by
              intro z29 hz29 ls hl
              obtain rfl : v28 = z29 := ev28.trans hz29.symm
              refine lv_istore_n (lv' := [(2, .int v28), (0, .ref (ad 0)), (1, .int a1)]) hx hb dX12_tests_135 rfl hl (by decide) rfl (fun ls hl => ?_)
              exact j_J16 v28 _ _ _ hP hS (lv_sub hl [1, 2, 0] rfl) hf
            refine lv_if_ne (tgt := 130) hx hb dX12_tests_123 (by decide) (fun c30 => ?_) (fun c30 => ?_)
            · refine lv_iconst hx hb dX12_tests_130 ki_1 ?_
              refine lv_goto (tgt := 135) hx hb dX12_tests_131 (by decide) ?_
              exact j_v28 1 (if_neg c30).symm ls (lv_sub hl [0, 1] rfl)
            · refine lv_iload_n hx hb dX12_tests_126 rfl (lv_at hl 2 rfl) ?_
              refine lv_if_eq (tgt := 134) hx hb dX12_tests_127 (by decide) (fun c31 => ?_) (fun c31 => ?_)
              · refine lv_iconst hx hb dX12_tests_134 ki_0 ?_
                exact j_v28 0 ((if_pos c30).trans (if_pos c31)).symm ls (lv_sub hl [0, 1] rfl)
              · refine lv_iconst hx hb dX12_tests_130 ki_1 ?_
                refine lv_goto (tgt := 135) hx hb dX12_tests_131 (by decide) ?_
                exact j_v28 1 ((if_pos c30).trans (if_neg c31)).symm ls (lv_sub hl [0, 1] rfl)
        refine lv_icmp_ne (tgt := 106) hx hb dX12_tests_84 (by decide) (fun c32 => ?_) (fun c32 => ?_)
        · replace hf := fx_ie c32 hf
          exact j_J13 x11 _ _ _ hP hS (lv_sub hl [0, 1, 2] rfl) hf
        · replace hf := fx_it c32 hf
          refine lv_aload_n hx hb dX12_tests_87 rfl (lv_at hl 0 rfl) ?_
          refine gf_X12_54 (v := .ref (ad 15)) hC hP kM_0 rfl dX12_tests_88 ?_
          refine lv_iload_n hx hb dX12_tests_91 rfl (lv_at hl 1 rfl) ?_
          obtain ⟨h33, hf⟩ := fxG_e hf
          refine fx_iald hC hP kM_15 (fx_inp h33) dX12_tests_92 ?_
          obtain ⟨v34, ev34, hf⟩ := fxL_e hf
          have j_v34 : ∀ (z35 : Int32), z35 = ((if (σ3.1 15 (Int32.toNatClampNeg a1)) = 0 then 0 else (if x11 = 0 then 0 else 1)) : Int32) → ∀ (ls : Array Slot), lv_has ls 3 [(0, .ref (ad 0)), (1, .int a1)] → W p l e (fx_R (1)) s m args below meth c H locs 0 0 (fx_Qv D cy LM ad A below args s σ') (F0 m 105 ls [.int z35]) := by
            intro z35 hz35 ls hl
            obtain rfl : v34 = z35 := ev34.trans hz35.symm
            refine lv_istore_n (lv' := [(2, .int v34), (0, .ref (ad 0)), (1, .int a1)]) hx hb dX12_tests_105 rfl hl (by decide) rfl (fun ls hl => ?_)
            exact j_J13 v34 _ _ _ hP hS (lv_sub hl [1, 2, 0] rfl) hf
          refine lv_if_eq (tgt := 104) hx hb dX12_tests_93 (by decide) (fun c36 => ?_) (fun c36 => ?_)
          · refine lv_iconst hx hb dX12_tests_104 ki_0 ?_
            exact j_v34 0 (if_pos c36).symm ls (lv_sub hl [0, 1] rfl)
          · refine lv_iload_n hx hb dX12_tests_96 rfl (lv_at hl 2 rfl) ?_
            refine lv_if_eq (tgt := 104) hx hb dX12_tests_97 (by decide) (fun c37 => ?_) (fun c37 => ?_)
            · refine lv_iconst hx hb dX12_tests_104 ki_0 ?_
              exact j_v34 0 ((if_neg c36).trans (if_pos c37)).symm ls (lv_sub hl [0, 1] rfl)
            · refine lv_iconst hx hb dX12_tests_100 ki_1 ?_
              refine lv_goto (tgt := 105) hx hb dX12_tests_101 (by decide) ?_
              exact j_v34 1 ((if_neg c36).trans (if_neg c37)).symm ls (lv_sub hl [0, 1] rfl)
      refine lv_icmp_ne (tgt := 76) hx hb dX12_tests_52 (by decide) (fun c38 => ?_) (fun c38 => ?_)
      · replace hf := fx_ie c38 hf
        exact j_J10 x8 _ _ _ hP hS (lv_sub hl [0, 1, 2] rfl) hf
      · replace hf := fx_it c38 hf
        refine lv_aload_n hx hb dX12_tests_55 rfl (lv_at hl 0 rfl) ?_
        refine gf_X12_60 (v := .ref (ad 17)) hC hP kM_0 rfl dX12_tests_56 ?_
        refine lv_iload_n hx hb dX12_tests_59 rfl (lv_at hl 1 rfl) ?_
        obtain ⟨h39, hf⟩ := fxG_e hf
        refine fx_iald hC hP kM_17 (fx_inp h39) dX12_tests_60 ?_
        refine lv_aload_n hx hb dX12_tests_61 rfl (lv_at hl 0 rfl) ?_
        refine gf_X12_66 (v := .ref (ad 19)) hC hP kM_0 rfl dX12_tests_62 ?_
        refine lv_iload_n hx hb dX12_tests_65 rfl (lv_at hl 1 rfl) ?_
        obtain ⟨h40, hf⟩ := fxG_e hf
        refine fx_iald hC hP kM_19 (fx_inp h40) dX12_tests_66 ?_
        obtain ⟨v41, ev41, hf⟩ := fxL_e hf
        have j_v41 : ∀ (z42 : Int32), z42 = ((if (σ3.1 17 (Int32.toNatClampNeg a1)) = (σ3.1 19 (Int32.toNatClampNeg a1)) then 1 else 0) : Int32) → ∀ (ls : Array Slot), lv_has ls 3 [(0, .ref (ad 0)), (1, .int a1)] → W p l e (fx_R (1)) s m args below meth c H locs 0 0 (fx_Qv D cy LM ad A below args s σ') (F0 m 75 ls [.int z42]) := by
          intro z42 hz42 ls hl
          obtain rfl : v41 = z42 := ev41.trans hz42.symm
          refine lv_istore_n (lv' := [(2, .int v41), (0, .ref (ad 0)), (1, .int a1)]) hx hb dX12_tests_75 rfl hl (by decide) rfl (fun ls hl => ?_)
          exact j_J10 v41 _ _ _ hP hS (lv_sub hl [1, 2, 0] rfl) hf
        refine lv_icmp_ne (tgt := 74) hx hb dX12_tests_67 (by decide) (fun c43 => ?_) (fun c43 => ?_)
        · refine lv_iconst hx hb dX12_tests_74 ki_0 ?_
          exact j_v41 0 (if_neg c43).symm ls (lv_sub hl [0, 1] rfl)
        · refine lv_iconst hx hb dX12_tests_70 ki_1 ?_
          refine lv_goto (tgt := 75) hx hb dX12_tests_71 (by decide) ?_
          exact j_v41 1 (if_pos c43).symm ls (lv_sub hl [0, 1] rfl)
    refine lv_icmp_ne (tgt := 44) hx hb dX12_tests_20 (by decide) (fun c44 => ?_) (fun c44 => ?_)
    · replace hf := fx_ie c44 hf
      exact j_J7 v5 _ _ _ hP hS (lv_sub hl [1, 2, 0] rfl) hf
    · replace hf := fx_it c44 hf
      refine lv_aload_n hx hb dX12_tests_23 rfl (lv_at hl 1 rfl) ?_
      refine gf_X12_60 (v := .ref (ad 17)) hC hP kM_0 rfl dX12_tests_24 ?_
      refine lv_iload_n hx hb dX12_tests_27 rfl (lv_at hl 2 rfl) ?_
      obtain ⟨h45, hf⟩ := fxG_e hf
      refine fx_iald hC hP kM_17 (fx_inp h45) dX12_tests_28 ?_
      refine lv_aload_n hx hb dX12_tests_29 rfl (lv_at hl 1 rfl) ?_
      refine gf_X12_66 (v := .ref (ad 19)) hC hP kM_0 rfl dX12_tests_30 ?_
      refine lv_iload_n hx hb dX12_tests_33 rfl (lv_at hl 2 rfl) ?_
      obtain ⟨h46, hf⟩ := fxG_e hf
      refine fx_iald hC hP kM_19 (fx_inp h46) dX12_tests_34 ?_
      obtain ⟨v47, ev47, hf⟩ := fxL_e hf
      have j_v47 : ∀ (z48 : Int32), z48 = ((if (σ3.1 19 (Int32.toNatClampNeg a1)) ≤ (σ3.1 17 (Int32.toNatClampNeg a1)) then 0 else 1) : Int32) → ∀ (ls : Array Slot), lv_has ls 3 [(0, .ref (ad 0)), (1, .int a1)] → W p l e (fx_R (1)) s m args below meth c H locs 0 0 (fx_Qv D cy LM ad A below args s σ') (F0 m 43 ls [.int z48]) := by
        intro z48 hz48 ls hl
        obtain rfl : v47 = z48 := ev47.trans hz48.symm
        refine lv_istore_n (lv' := [(2, .int v47), (0, .ref (ad 0)), (1, .int a1)]) hx hb dX12_tests_43 rfl hl (by decide) rfl (fun ls hl => ?_)
        exact j_J7 v47 _ _ _ hP hS (lv_sub hl [1, 2, 0] rfl) hf
      refine lv_icmp_ge (tgt := 42) hx hb dX12_tests_35 (by decide) (fun c49 => ?_) (fun c49 => ?_)
      · refine lv_iconst hx hb dX12_tests_42 ki_0 ?_
        exact j_v47 0 (if_pos c49).symm ls (lv_sub hl [1, 2] rfl)
      · refine lv_iconst hx hb dX12_tests_38 ki_1 ?_
        refine lv_goto (tgt := 43) hx hb dX12_tests_39 (by decide) ?_
        exact j_v47 1 (if_neg c49).symm ls (lv_sub hl [1, 2] rfl)
  exact main _ _ _ hP hS hl

set_option maxHeartbeats 4000000 in
set_option maxRecDepth 100000 in
theorem ctX12_worked (l : Launch) {a1 : Int32} {σ σ' : FH} {v : Int32} (hf : fX12_worked a1 σ = some (v, σ')) : fx_Mi l yX12_worked cX12_worked 6 (some .int) (2) LM (fun ad ec => [.ref (ad 0), .int a1]) σ v σ' := by
  unfold fX12_worked at hf
  refine fx_mi' (own := RX12) rfl (by decide +kernel) ?_
  intro p e s m args below meth c D cy ad ec A hC hr hk hP hS
  have hx := hC.1
  have hb := hC.2.1
  have hl := lv_entry ([.ref (ad 0), .int a1]) (n := 6) (Nat.le_of_ble_eq_true rfl)
  show W _ _ _ _ _ _ _ _ _ _ _ _ _ _ _ (entryFrame m ([.ref (ad 0), .int a1] : List Value).toArray 6)
  rw [lg_entry_eq]
  generalize (lg_sl ([.ref (ad 0), .int a1]) ++ List.replicate (6 - (lg_sl ([.ref (ad 0), .int a1])).length) Slot.unset).toArray = ls at hl ⊢
  have hl : lv_has ls 6 [(0, .ref (ad 0)), (1, .int a1)] := hl
  have main : ∀ (H : Heap) (locs : List Loc) (ls : Array Slot), fx_P D cy LM ad σ H → va_S A s.heap H locs → lv_has ls 6 [(0, .ref (ad 0)), (1, .int a1)] → W p l e (fx_R (2)) s m args below meth c H locs 0 0 (fx_Qi D cy LM ad A below args s v σ') (F0 m 0 ls []) := by
    intro H locs ls hP hS hl
    refine lv_iconst hx hb dX12_worked_0 ki_0 ?_
    refine lv_istore_n (lv' := [(2, .int 0), (0, .ref (ad 0)), (1, .int a1)]) hx hb dX12_worked_1 rfl hl (by decide) rfl (fun ls hl => ?_)
    refine lv_aload_n hx hb dX12_worked_2 rfl (lv_at hl 1 rfl) ?_
    refine lv_iconst hx hb dX12_worked_3 ki_0 ?_
    obtain ⟨σ3, hc1, hf⟩ := fxBV_e hf
    refine fx_cv hC hS (fx_runV (i := 0) (As := [.int 0]) (rest := []) hC hP hS (ctX12_opens l hc1 D cy ad ec _) kM_0 (by decide) rfl kMV_X12_213 kC_X12_opens hd_X12_opens rfl ⟨(Nat.le_of_ble_eq_true rfl), (Nat.le_of_ble_eq_true rfl)⟩ ⟨Nat.le_refl 0, Nat.le_refl 0⟩ hl.1 (Nat.le_of_ble_eq_true rfl) rfl dX12_worked_4) (fun H locs hP hS => ?_)
    refine lv_aload_n hx hb dX12_worked_7 rfl (lv_at hl 1 rfl) ?_
    refine gf_X12_38 (v := .ref (ad 10)) hC hP kM_0 rfl dX12_worked_8 ?_
    refine lv_iload_n hx hb dX12_worked_11 rfl (lv_at hl 2 rfl) ?_
    obtain ⟨h4, hf⟩ := fxG_e hf
    refine fx_iald hC hP kM_10 (fx_inp h4) dX12_worked_12 ?_
    obtain ⟨v5, ev5, hf⟩ := fxL_e hf
    refine fx_ti ev5 ?_
    refine lv_istore_n (lv' := [(3, .int v5), (2, .int 0), (0, .ref (ad 0)), (1, .int a1)]) hx hb dX12_worked_13 rfl hl (by decide) rfl (fun ls hl => ?_)
    obtain ⟨K6, hK6, hf⟩ := fxL_e hf
    have k_K6 : ∀ (σ7 : FH) (H : Heap) (locs : List Loc) (ls : Array Slot), fx_P D cy LM ad σ7 H → va_S A s.heap H locs → lv_has ls 6 [(0, .ref (ad 0))] → K6 σ7 = some (v, σ') → W p l e (fx_R (2)) s m args below meth c H locs 0 0 (fx_Qi D cy LM ad A below args s v σ') (F0 m 335 ls []) := by
      intro σ7 H locs ls hP hS hl hf
      replace hf := fxk1 hK6 hf
      refine lv_aload_n hx hb dX12_worked_335 rfl (lv_at hl 0 rfl) ?_
      refine lv_iconst hx hb dX12_worked_336 ki_0 ?_
      obtain ⟨σ10, hc8, hf⟩ := fxBV_e hf
      refine fx_cv hC hS (fx_runV (i := 0) (As := [.int 0]) (rest := []) hC hP hS (ctX12_tests l hc8 D cy ad ec _) kM_0 (by decide) rfl kMV_X12_216 kC_X12_tests hd_X12_tests rfl ⟨(Nat.le_of_ble_eq_true rfl), (Nat.le_of_ble_eq_true rfl)⟩ ⟨Nat.le_refl 0, Nat.le_refl 0⟩ hl.1 (Nat.le_of_ble_eq_true rfl) rfl dX12_worked_337) (fun H locs hP hS => ?_)
      refine lv_aload_n hx hb dX12_worked_340 rfl (lv_at hl 0 rfl) ?_
      refine gf_X12_54 (v := .ref (ad 15)) hC hP kM_0 rfl dX12_worked_341 ?_
      refine lv_iconst hx hb dX12_worked_344 ki_0 ?_
      obtain ⟨h11, hf⟩ := fxG_e hf
      refine fx_iald hC hP kM_15 (fx_inp h11) dX12_worked_345 ?_
      exact fx_iretf hf hC hr hk hP hS dX12_worked_346
    have L102 : ∀ (n16 : Nat) (w12 : Int32) (w13 : Int32) (σ14 : FH) (H : Heap) (locs : List Loc) (ls : Array Slot), fx_P D cy LM ad σ14 H → va_S A s.heap H locs → lv_has ls 6 [(0, .ref (ad 0)), (1, .int a1), (2, .int w12), (3, .int w13)] → fX12_worked_14 a1 K6 n16 w12 w13 σ14 = some (v, σ') → W p l e (fx_R (2)) s m args below meth c H locs 0 0 (fx_Qi D cy LM ad A below args s v σ') (F0 m 14 ls []) := by
      intro n16
      induction n16 with
      | zero =>
        intro w12 w13 σ14 H locs ls hP hS hl hf
        rw [fX12_worked_14] at hf
        cases hf
      | succ n16 ih15 =>
        intro w12 w13 σ14 H locs ls hP hS hl hf
        rw [fX12_worked_14] at hf
        refine lv_iload_n hx hb dX12_worked_14 rfl (lv_at hl 3 rfl) ?_
        refine lv_aload_n hx hb dX12_worked_15 rfl (lv_at hl 0 rfl) ?_
        refine gf_X12_41 (v := .ref (ad 11)) hC hP kM_0 rfl dX12_worked_16 ?_
        refine lv_iload_n hx hb dX12_worked_19 rfl (lv_at hl 1 rfl) ?_
        obtain ⟨h17, hf⟩ := fxG_e hf
        refine fx_iald hC hP kM_11 (fx_inp h17) dX12_worked_20 ?_
        refine lv_icmp_ge (tgt := 335) hx hb dX12_worked_21 (by decide) (fun c18 => ?_) (fun c18 => ?_)
        · replace hf := fx_it c18 hf
          exact k_K6 σ14 _ _ _ hP hS (lv_sub hl [0] rfl) hf
        · replace hf := fx_ie c18 hf
          refine lv_aload_n hx hb dX12_worked_24 rfl (lv_at hl 0 rfl) ?_
          refine gf_X12_44 (v := .ref (ad 12)) hC hP kM_0 rfl dX12_worked_25 ?_
          refine lv_iload_n hx hb dX12_worked_28 rfl (lv_at hl 3 rfl) ?_
          obtain ⟨h19, hf⟩ := fxG_e hf
          refine fx_iald hC hP kM_12 (fx_inp h19) dX12_worked_29 ?_
          obtain ⟨v20, ev20, hf⟩ := fxL_e hf
          refine fx_ti ev20 ?_
          refine lv_istore (lv' := [(4, .int v20), (0, .ref (ad 0)), (1, .int a1), (2, .int w12), (3, .int w13)]) hx hb dX12_worked_30 hl (by decide) rfl (fun ls hl => ?_)
          refine lv_iload hx hb dX12_worked_32 (lv_at hl 0 rfl) ?_
          refine lv_bipush hx hb dX12_worked_34 kb_28 ?_
          obtain ⟨J21, hJ21, hf⟩ := fxL_e hf
          have j_J21 : ∀  (H : Heap) (locs : List Loc) (ls : Array Slot), fx_P D cy LM ad σ14 H → va_S A s.heap H locs → lv_has ls 6 [(0, .ref (ad 0)), (1, .int a1), (2, .int w12), (3, .int w13), (4, .int v20)] → J21 = some (v, σ') → W p l e (fx_R (2)) s m args below meth c H locs 0 0 (fx_Qi D cy LM ad A below args s v σ') (F0 m 46 ls []) := by
            intro  H locs ls hP hS hl hf
            replace hf := hJ21.symm.trans hf
            refine lv_iinc (v := (w12 + 1)) (lv' := [(2, .int (w12 + 1)), (0, .ref (ad 0)), (1, .int a1), (3, .int w13), (4, .int v20)]) hx hb dX12_worked_46 hl (k := 2) rfl (congrArg (fun z => w12 + z) ki_1) (by decide) rfl (fun ls hl => ?_)
            refine lv_aload_n hx hb dX12_worked_49 rfl (lv_at hl 1 rfl) ?_
            refine gf_X12_78 (v := .ref (ad 23)) hC hP kM_0 rfl dX12_worked_50 ?_
            refine lv_iload_n hx hb dX12_worked_53 rfl (lv_at hl 0 rfl) ?_
            refine lv_iload hx hb dX12_worked_54 (lv_at hl 4 rfl) ?_
            refine lv_bipush hx hb dX12_worked_56 kb_30 ?_
            obtain ⟨v22, ev22, hf⟩ := fxL_e hf
            have j_v22 : ∀ (z23 : Int32), z23 = ((if v20 = 30 then 1 else 0) : Int32) → ∀ (ls : Array Slot), lv_has ls 6 [(0, .ref (ad 0)), (1, .int a1), (2, .int (w12 + 1)), (3, .int w13)] → W p l e (fx_R (2)) s m args below meth c H locs 0 0 (fx_Qi D cy LM ad A below args s v σ') (F0 m 66 ls [.int z23, .int (w12 + 1), .ref (ad 23)]) := by
              intro z23 hz23 ls hl
              obtain rfl : v22 = z23 := ev22.trans hz23.symm
              obtain ⟨h25, hf⟩ := fxG_e hf
              obtain ⟨σ26, eσ26, hf⟩ := fxL_e hf
              refine fx_iast hC hP hS kM_23 (fx_inp h25) dX12_worked_66 (fun H locs hP hS => ?_)
              replace hP := fx_Pe eσ26 hP
              refine lv_aload_n hx hb dX12_worked_67 rfl (lv_at hl 0 rfl) ?_
              refine lv_iload_n hx hb dX12_worked_68 rfl (lv_at hl 2 rfl) ?_
              obtain ⟨σ29, hc27, hf⟩ := fxBV_e hf
              refine fx_cv hC hS (fx_runV (i := 0) (As := [.int (w12 + 1)]) (rest := []) hC hP hS (ctX12_opens l hc27 D cy ad ec _) kM_0 (by decide) rfl kMV_X12_213 kC_X12_opens hd_X12_opens rfl ⟨(Nat.le_of_ble_eq_true rfl), (Nat.le_of_ble_eq_true rfl)⟩ ⟨Nat.le_refl 0, Nat.le_refl 0⟩ hl.1 (Nat.le_of_ble_eq_true rfl) rfl dX12_worked_69) (fun H locs hP hS => ?_)
              refine lv_goto (tgt := 329) hx hb dX12_worked_72 (by decide) ?_
              refine lv_iinc (v := (w13 + 1)) (lv' := [(3, .int (w13 + 1)), (0, .ref (ad 0)), (1, .int a1), (2, .int (w12 + 1))]) hx hb dX12_worked_329 hl (k := 3) rfl (congrArg (fun z => w13 + z) ki_1) (by decide) rfl (fun ls hl => ?_)
              refine lv_goto (tgt := 14) hx hb dX12_worked_332 (by decide) ?_
              exact ih15 (w12 + 1) (w13 + 1) σ29 _ _ _ hP hS (lv_sub hl [1, 2, 3, 0] rfl) hf
            refine lv_icmp_ne (tgt := 65) hx hb dX12_worked_58 (by decide) (fun c24 => ?_) (fun c24 => ?_)
            · refine lv_iconst hx hb dX12_worked_65 ki_0 ?_
              exact j_v22 0 (if_neg c24).symm ls (lv_sub hl [1, 2, 0, 3] rfl)
            · refine lv_iconst hx hb dX12_worked_61 ki_1 ?_
              refine lv_goto (tgt := 66) hx hb dX12_worked_62 (by decide) ?_
              exact j_v22 1 (if_pos c24).symm ls (lv_sub hl [1, 2, 0, 3] rfl)
          refine lv_icmp_eq (tgt := 46) hx hb dX12_worked_36 (by decide) (fun c30 => ?_) (fun c30 => ?_)
          · replace hf := fx_it c30 hf
            exact j_J21  _ _ _ hP hS (lv_sub hl [1, 2, 3, 4, 0] rfl) hf
          · replace hf := fx_ie c30 hf
            refine lv_iload hx hb dX12_worked_39 (lv_at hl 0 rfl) ?_
            refine lv_bipush hx hb dX12_worked_41 kb_30 ?_
            refine lv_icmp_ne (tgt := 75) hx hb dX12_worked_43 (by decide) (fun c31 => ?_) (fun c31 => ?_)
            · replace hf := fx_ie c31 hf
              refine lv_iload hx hb dX12_worked_75 (lv_at hl 0 rfl) ?_
              refine lv_bipush hx hb dX12_worked_77 kb_20 ?_
              obtain ⟨J32, hJ32, hf⟩ := fxL_e hf
              have j_J32 : ∀  (H : Heap) (locs : List Loc) (ls : Array Slot), fx_P D cy LM ad σ14 H → va_S A s.heap H locs → lv_has ls 6 [(0, .ref (ad 0)), (1, .int a1), (2, .int w12), (3, .int w13), (4, .int v20)] → J32 = some (v, σ') → W p l e (fx_R (2)) s m args below meth c H locs 0 0 (fx_Qi D cy LM ad A below args s v σ') (F0 m 89 ls []) := by
                intro  H locs ls hP hS hl hf
                replace hf := hJ32.symm.trans hf
                refine lv_aload_n hx hb dX12_worked_89 rfl (lv_at hl 0 rfl) ?_
                refine lv_iload_n hx hb dX12_worked_90 rfl (lv_at hl 2 rfl) ?_
                obtain ⟨σ35, hc33, hf⟩ := fxBV_e hf
                refine fx_cv hC hS (fx_runV (i := 0) (As := [.int w12]) (rest := []) hC hP hS (ctX12_sums l hc33 D cy ad ec _) kM_0 (by decide) rfl kMV_X12_210 kC_X12_sums hd_X12_sums rfl ⟨(Nat.le_of_ble_eq_true rfl), (Nat.le_of_ble_eq_true rfl)⟩ ⟨Nat.le_refl 0, Nat.le_refl 0⟩ hl.1 (Nat.le_of_ble_eq_true rfl) rfl dX12_worked_91) (fun H locs hP hS => ?_)
                refine lv_aload_n hx hb dX12_worked_94 rfl (lv_at hl 0 rfl) ?_
                refine gf_X12_69 (v := .ref (ad 20)) hC hP kM_0 rfl dX12_worked_95 ?_
                refine lv_iload_n hx hb dX12_worked_98 rfl (lv_at hl 2 rfl) ?_
                refine lv_iload hx hb dX12_worked_99 (lv_at hl 4 rfl) ?_
                obtain ⟨h36, hf⟩ := fxG_e hf
                obtain ⟨σ37, eσ37, hf⟩ := fxL_e hf
                refine fx_iast hC hP hS kM_20 (fx_inp h36) dX12_worked_101 (fun H locs hP hS => ?_)
                replace hP := fx_Pe eσ37 hP
                refine lv_goto (tgt := 329) hx hb dX12_worked_102 (by decide) ?_
                refine lv_iinc (v := (w13 + 1)) (lv' := [(3, .int (w13 + 1)), (0, .ref (ad 0)), (1, .int a1), (2, .int w12), (4, .int v20)]) hx hb dX12_worked_329 hl (k := 3) rfl (congrArg (fun z => w13 + z) ki_1) (by decide) rfl (fun ls hl => ?_)
                refine lv_goto (tgt := 14) hx hb dX12_worked_332 (by decide) ?_
                exact ih15 w12 (w13 + 1) σ37 _ _ _ hP hS (lv_sub hl [1, 2, 3, 0] rfl) hf
              refine lv_icmp_eq (tgt := 89) hx hb dX12_worked_79 (by decide) (fun c38 => ?_) (fun c38 => ?_)
              · replace hf := fx_it c38 hf
                exact j_J32  _ _ _ hP hS (lv_sub hl [1, 2, 3, 4, 0] rfl) hf
              · replace hf := fx_ie c38 hf
                refine lv_iload hx hb dX12_worked_82 (lv_at hl 0 rfl) ?_
                refine lv_bipush hx hb dX12_worked_84 kb_21 ?_
                refine lv_icmp_ne (tgt := 105) hx hb dX12_worked_86 (by decide) (fun c39 => ?_) (fun c39 => ?_)
                · replace hf := fx_ie c39 hf
                  refine lv_iload hx hb dX12_worked_105 (lv_at hl 0 rfl) ?_
                  refine lv_bipush hx hb dX12_worked_107 kb_22 ?_
                  refine lv_icmp_ne (tgt := 123) hx hb dX12_worked_109 (by decide) (fun c40 => ?_) (fun c40 => ?_)
                  · replace hf := fx_ie c40 hf
                    refine lv_iload hx hb dX12_worked_123 (lv_at hl 0 rfl) ?_
                    refine lv_bipush hx hb dX12_worked_125 kb_24 ?_
                    obtain ⟨J41, hJ41, hf⟩ := fxL_e hf
                    have j_J41 : ∀  (H : Heap) (locs : List Loc) (ls : Array Slot), fx_P D cy LM ad σ14 H → va_S A s.heap H locs → lv_has ls 6 [(0, .ref (ad 0)), (1, .int a1), (2, .int w12), (3, .int w13), (4, .int v20)] → J41 = some (v, σ') → W p l e (fx_R (2)) s m args below meth c H locs 0 0 (fx_Qi D cy LM ad A below args s v σ') (F0 m 137 ls []) := by
                      intro  H locs ls hP hS hl hf
                      replace hf := hJ41.symm.trans hf
                      refine lv_aload_n hx hb dX12_worked_137 rfl (lv_at hl 0 rfl) ?_
                      refine lv_iload_n hx hb dX12_worked_138 rfl (lv_at hl 2 rfl) ?_
                      obtain ⟨σ44, hc42, hf⟩ := fxBV_e hf
                      refine fx_cv hC hS (fx_runV (i := 0) (As := [.int w12]) (rest := []) hC hP hS (ctX12_sums l hc42 D cy ad ec _) kM_0 (by decide) rfl kMV_X12_210 kC_X12_sums hd_X12_sums rfl ⟨(Nat.le_of_ble_eq_true rfl), (Nat.le_of_ble_eq_true rfl)⟩ ⟨Nat.le_refl 0, Nat.le_refl 0⟩ hl.1 (Nat.le_of_ble_eq_true rfl) rfl dX12_worked_139) (fun H locs hP hS => ?_)
                      refine lv_aload_n hx hb dX12_worked_142 rfl (lv_at hl 0 rfl) ?_
                      refine gf_X12_60 (v := .ref (ad 17)) hC hP kM_0 rfl dX12_worked_143 ?_
                      refine lv_iload_n hx hb dX12_worked_146 rfl (lv_at hl 2 rfl) ?_
                      refine lv_aload_n hx hb dX12_worked_147 rfl (lv_at hl 0 rfl) ?_
                      refine gf_X12_66 (v := .ref (ad 19)) hC hP kM_0 rfl dX12_worked_148 ?_
                      refine lv_iload_n hx hb dX12_worked_151 rfl (lv_at hl 2 rfl) ?_
                      obtain ⟨h45, hf⟩ := fxG_e hf
                      refine fx_iald hC hP kM_19 (fx_inp h45) dX12_worked_152 ?_
                      obtain ⟨h46, hf⟩ := fxG_e hf
                      obtain ⟨σ47, eσ47, hf⟩ := fxL_e hf
                      refine fx_iast hC hP hS kM_17 (fx_inp h46) dX12_worked_153 (fun H locs hP hS => ?_)
                      replace hP := fx_Pe eσ47 hP
                      refine lv_aload_n hx hb dX12_worked_154 rfl (lv_at hl 0 rfl) ?_
                      refine gf_X12_63 (v := .ref (ad 18)) hC hP kM_0 rfl dX12_worked_155 ?_
                      refine lv_iload_n hx hb dX12_worked_158 rfl (lv_at hl 2 rfl) ?_
                      refine lv_iload hx hb dX12_worked_159 (lv_at hl 4 rfl) ?_
                      obtain ⟨h48, hf⟩ := fxG_e hf
                      obtain ⟨σ49, eσ49, hf⟩ := fxL_e hf
                      refine fx_iast hC hP hS kM_18 (fx_inp h48) dX12_worked_161 (fun H locs hP hS => ?_)
                      replace hP := fx_Pe eσ49 hP
                      refine lv_aload_n hx hb dX12_worked_162 rfl (lv_at hl 0 rfl) ?_
                      refine gf_X12_66 (v := .ref (ad 19)) hC hP kM_0 rfl dX12_worked_163 ?_
                      refine lv_iload_n hx hb dX12_worked_166 rfl (lv_at hl 2 rfl) ?_
                      refine lv_iconst hx hb dX12_worked_167 ki_0 ?_
                      obtain ⟨h50, hf⟩ := fxG_e hf
                      obtain ⟨σ51, eσ51, hf⟩ := fxL_e hf
                      refine fx_iast hC hP hS kM_19 (fx_inp h50) dX12_worked_168 (fun H locs hP hS => ?_)
                      replace hP := fx_Pe eσ51 hP
                      refine lv_aload_n hx hb dX12_worked_169 rfl (lv_at hl 0 rfl) ?_
                      refine gf_X12_69 (v := .ref (ad 20)) hC hP kM_0 rfl dX12_worked_170 ?_
                      refine lv_iload_n hx hb dX12_worked_173 rfl (lv_at hl 2 rfl) ?_
                      refine lv_bipush hx hb dX12_worked_174 kb_20 ?_
                      obtain ⟨h52, hf⟩ := fxG_e hf
                      obtain ⟨σ53, eσ53, hf⟩ := fxL_e hf
                      refine fx_iast hC hP hS kM_20 (fx_inp h52) dX12_worked_176 (fun H locs hP hS => ?_)
                      replace hP := fx_Pe eσ53 hP
                      refine lv_goto (tgt := 329) hx hb dX12_worked_177 (by decide) ?_
                      refine lv_iinc (v := (w13 + 1)) (lv' := [(3, .int (w13 + 1)), (0, .ref (ad 0)), (1, .int a1), (2, .int w12), (4, .int v20)]) hx hb dX12_worked_329 hl (k := 3) rfl (congrArg (fun z => w13 + z) ki_1) (by decide) rfl (fun ls hl => ?_)
                      refine lv_goto (tgt := 14) hx hb dX12_worked_332 (by decide) ?_
                      exact ih15 w12 (w13 + 1) σ53 _ _ _ hP hS (lv_sub hl [1, 2, 3, 0] rfl) hf
                    refine lv_icmp_eq (tgt := 137) hx hb dX12_worked_127 (by decide) (fun c54 => ?_) (fun c54 => ?_)
                    · replace hf := fx_it c54 hf
                      exact j_J41  _ _ _ hP hS (lv_sub hl [1, 2, 3, 4, 0] rfl) hf
                    · replace hf := fx_ie c54 hf
                      refine lv_iload hx hb dX12_worked_130 (lv_at hl 0 rfl) ?_
                      refine lv_bipush hx hb dX12_worked_132 kb_25 ?_
                      refine lv_icmp_ne (tgt := 180) hx hb dX12_worked_134 (by decide) (fun c55 => ?_) (fun c55 => ?_)
                      · replace hf := fx_ie c55 hf
                        refine lv_iload hx hb dX12_worked_180 (lv_at hl 0 rfl) ?_
                        refine lv_bipush hx hb dX12_worked_182 kb_26 ?_
                        obtain ⟨J56, hJ56, hf⟩ := fxL_e hf
                        have j_J56 : ∀  (H : Heap) (locs : List Loc) (ls : Array Slot), fx_P D cy LM ad σ14 H → va_S A s.heap H locs → lv_has ls 6 [(0, .ref (ad 0)), (1, .int a1), (2, .int w12), (3, .int w13), (4, .int v20)] → J56 = some (v, σ') → W p l e (fx_R (2)) s m args below meth c H locs 0 0 (fx_Qi D cy LM ad A below args s v σ') (F0 m 194 ls []) := by
                          intro  H locs ls hP hS hl hf
                          replace hf := hJ56.symm.trans hf
                          refine lv_aload_n hx hb dX12_worked_194 rfl (lv_at hl 0 rfl) ?_
                          refine lv_iload_n hx hb dX12_worked_195 rfl (lv_at hl 2 rfl) ?_
                          obtain ⟨σ59, hc57, hf⟩ := fxBV_e hf
                          refine fx_cv hC hS (fx_runV (i := 0) (As := [.int w12]) (rest := []) hC hP hS (ctX12_tests l hc57 D cy ad ec _) kM_0 (by decide) rfl kMV_X12_216 kC_X12_tests hd_X12_tests rfl ⟨(Nat.le_of_ble_eq_true rfl), (Nat.le_of_ble_eq_true rfl)⟩ ⟨Nat.le_refl 0, Nat.le_refl 0⟩ hl.1 (Nat.le_of_ble_eq_true rfl) rfl dX12_worked_196) (fun H locs hP hS => ?_)
                          refine lv_aload_n hx hb dX12_worked_199 rfl (lv_at hl 0 rfl) ?_
                          refine gf_X12_57 (v := .ref (ad 16)) hC hP kM_0 rfl dX12_worked_200 ?_
                          refine lv_iload_n hx hb dX12_worked_203 rfl (lv_at hl 2 rfl) ?_
                          refine lv_iload hx hb dX12_worked_204 (lv_at hl 4 rfl) ?_
                          obtain ⟨h60, hf⟩ := fxG_e hf
                          obtain ⟨σ61, eσ61, hf⟩ := fxL_e hf
                          refine fx_iast hC hP hS kM_16 (fx_inp h60) dX12_worked_206 (fun H locs hP hS => ?_)
                          replace hP := fx_Pe eσ61 hP
                          refine lv_goto (tgt := 329) hx hb dX12_worked_207 (by decide) ?_
                          refine lv_iinc (v := (w13 + 1)) (lv' := [(3, .int (w13 + 1)), (0, .ref (ad 0)), (1, .int a1), (2, .int w12), (4, .int v20)]) hx hb dX12_worked_329 hl (k := 3) rfl (congrArg (fun z => w13 + z) ki_1) (by decide) rfl (fun ls hl => ?_)
                          refine lv_goto (tgt := 14) hx hb dX12_worked_332 (by decide) ?_
                          exact ih15 w12 (w13 + 1) σ61 _ _ _ hP hS (lv_sub hl [1, 2, 3, 0] rfl) hf
                        refine lv_icmp_eq (tgt := 194) hx hb dX12_worked_184 (by decide) (fun c62 => ?_) (fun c62 => ?_)
                        · replace hf := fx_it c62 hf
                          exact j_J56  _ _ _ hP hS (lv_sub hl [1, 2, 3, 4, 0] rfl) hf
                        · replace hf := fx_ie c62 hf
                          refine lv_iload hx hb dX12_worked_187 (lv_at hl 0 rfl) ?_
                          refine lv_bipush hx hb dX12_worked_189 kb_27 ?_
                          refine lv_icmp_ne (tgt := 210) hx hb dX12_worked_191 (by decide) (fun c63 => ?_) (fun c63 => ?_)
                          · replace hf := fx_ie c63 hf
                            refine lv_iload hx hb dX12_worked_210 (lv_at hl 0 rfl) ?_
                            refine lv_bipush hx hb dX12_worked_212 kb_100 ?_
                            obtain ⟨J64, hJ64, hf⟩ := fxL_e hf
                            have j_J64 : ∀ (y65 : Int32) (H : Heap) (locs : List Loc) (ls : Array Slot), fx_P D cy LM ad σ14 H → va_S A s.heap H locs → lv_has ls 6 [(0, .ref (ad 0)), (1, .int a1), (2, .int w12), (3, .int w13), (4, .int v20)] → J64 y65 = some (v, σ') → W p l e (fx_R (2)) s m args below meth c H locs 0 0 (fx_Qi D cy LM ad A below args s v σ') (F0 m 243 ls [.int y65]) := by
                              intro y65 H locs ls hP hS hl hf
                              replace hf := fxk1 hJ64 hf
                              refine lv_istore (lv' := [(5, .int y65), (0, .ref (ad 0)), (1, .int a1), (2, .int w12), (3, .int w13), (4, .int v20)]) hx hb dX12_worked_243 hl (by decide) rfl (fun ls hl => ?_)
                              refine lv_iload hx hb dX12_worked_245 (lv_at hl 5 rfl) ?_
                              refine lv_bipush hx hb dX12_worked_247 kb_29 ?_
                              obtain ⟨J66, hJ66, hf⟩ := fxL_e hf
                              have j_J66 : ∀ (x67 : Int32) (x68 : Int32) (σ69 : FH) (H : Heap) (locs : List Loc) (ls : Array Slot), fx_P D cy LM ad σ69 H → va_S A s.heap H locs → lv_has ls 6 [(0, .ref (ad 0)), (1, .int a1), (2, .int x67), (3, .int w13), (5, .int x68)] → J66 x67 x68 σ69 = some (v, σ') → W p l e (fx_R (2)) s m args below meth c H locs 0 0 (fx_Qi D cy LM ad A below args s v σ') (F0 m 268 ls []) := by
                                intro x67 x68 σ69 H locs ls hP hS hl hf
                                replace hf := fxk3 hJ66 hf
                                obtain ⟨K70, hK70, hf⟩ := fxL_e hf
                                have k_K70 : ∀ (x71 : Int32) (x72 : Int32) (H : Heap) (locs : List Loc) (ls : Array Slot), fx_P D cy LM ad σ69 H → va_S A s.heap H locs → lv_has ls 6 [(0, .ref (ad 0)), (1, .int a1), (2, .int x71), (3, .int w13), (5, .int x72)] → K70 x71 x72 = some (v, σ') → W p l e (fx_R (2)) s m args below meth c H locs 0 0 (fx_Qi D cy LM ad A below args s v σ') (F0 m 300 ls []) := by
                                  intro x71 x72 H locs ls hP hS hl hf
                                  replace hf := fxk2 hK70 hf
                                  refine lv_aload_n hx hb dX12_worked_300 rfl (lv_at hl 0 rfl) ?_
                                  refine gf_X12_72 (v := .ref (ad 21)) hC hP kM_0 rfl dX12_worked_301 ?_
                                  refine lv_iload_n hx hb dX12_worked_304 rfl (lv_at hl 2 rfl) ?_
                                  refine lv_aload_n hx hb dX12_worked_305 rfl (lv_at hl 0 rfl) ?_
                                  refine gf_X12_75 (v := .ref (ad 22)) hC hP kM_0 rfl dX12_worked_306 ?_
                                  refine lv_iload_n hx hb dX12_worked_309 rfl (lv_at hl 2 rfl) ?_
                                  obtain ⟨h73, hf⟩ := fxG_e hf
                                  refine fx_iald hC hP kM_22 (fx_inp h73) dX12_worked_310 ?_
                                  obtain ⟨J74, hJ74, hf⟩ := fxL_e hf
                                  have j_J74 : ∀ (y75 : Int32) (H : Heap) (locs : List Loc) (ls : Array Slot), fx_P D cy LM ad σ69 H → va_S A s.heap H locs → lv_has ls 6 [(0, .ref (ad 0)), (1, .int a1), (2, .int x71), (3, .int w13)] → J74 y75 = some (v, σ') → W p l e (fx_R (2)) s m args below meth c H locs 0 0 (fx_Qi D cy LM ad A below args s v σ') (F0 m 328 ls [.int y75, .int x71, .ref (ad 21)]) := by
                                    intro y75 H locs ls hP hS hl hf
                                    replace hf := fxk1 hJ74 hf
                                    obtain ⟨h76, hf⟩ := fxG_e hf
                                    obtain ⟨σ77, eσ77, hf⟩ := fxL_e hf
                                    refine fx_iast hC hP hS kM_21 (fx_inp h76) dX12_worked_328 (fun H locs hP hS => ?_)
                                    replace hP := fx_Pe eσ77 hP
                                    refine lv_iinc (v := (w13 + 1)) (lv' := [(3, .int (w13 + 1)), (0, .ref (ad 0)), (1, .int a1), (2, .int x71)]) hx hb dX12_worked_329 hl (k := 3) rfl (congrArg (fun z => w13 + z) ki_1) (by decide) rfl (fun ls hl => ?_)
                                    refine lv_goto (tgt := 14) hx hb dX12_worked_332 (by decide) ?_
                                    exact ih15 x71 (w13 + 1) σ77 _ _ _ hP hS (lv_sub hl [1, 2, 3, 0] rfl) hf
                                  refine lv_if_ne (tgt := 319) hx hb dX12_worked_311 (by decide) (fun c78 => ?_) (fun c78 => ?_)
                                  · replace hf := fx_ie c78 hf
                                    refine lv_aload_n hx hb dX12_worked_319 rfl (lv_at hl 0 rfl) ?_
                                    refine gf_X12_72 (v := .ref (ad 21)) hC hP kM_0 rfl dX12_worked_320 ?_
                                    refine lv_iload_n hx hb dX12_worked_323 rfl (lv_at hl 2 rfl) ?_
                                    obtain ⟨h79, hf⟩ := fxG_e hf
                                    refine fx_iald hC hP kM_21 (fx_inp h79) dX12_worked_324 ?_
                                    refine lv_iload hx hb dX12_worked_325 (lv_at hl 4 rfl) ?_
                                    refine lv_imul hx hb dX12_worked_327 ?_
                                    exact j_J74 ((σ69.1 21 (Int32.toNatClampNeg x71)) * x72) _ _ _ hP hS (lv_sub hl [0, 1, 2, 3] rfl) hf
                                  · replace hf := fx_it c78 hf
                                    refine lv_iload hx hb dX12_worked_314 (lv_at hl 4 rfl) ?_
                                    refine lv_goto (tgt := 328) hx hb dX12_worked_316 (by decide) ?_
                                    exact j_J74 x72 _ _ _ hP hS (lv_sub hl [0, 1, 2, 3] rfl) hf
                                have L90 : ∀ (n83 : Nat) (w80 : Int32) (w81 : Int32) (H : Heap) (locs : List Loc) (ls : Array Slot), fx_P D cy LM ad σ69 H → va_S A s.heap H locs → lv_has ls 6 [(0, .ref (ad 0)), (1, .int a1), (2, .int w80), (3, .int w13), (5, .int w81)] → fX12_worked_268 σ69 K70 n83 w80 w81 = some (v, σ') → W p l e (fx_R (2)) s m args below meth c H locs 0 0 (fx_Qi D cy LM ad A below args s v σ') (F0 m 268 ls []) := by
                                  intro n83
                                  induction n83 with
                                  | zero =>
                                    intro w80 w81 H locs ls hP hS hl hf
                                    rw [fX12_worked_268] at hf
                                    cases hf
                                  | succ n83 ih82 =>
                                    intro w80 w81 H locs ls hP hS hl hf
                                    rw [fX12_worked_268] at hf
                                    refine lv_iload_n hx hb dX12_worked_268 rfl (lv_at hl 2 rfl) ?_
                                    refine lv_if_le (tgt := 300) hx hb dX12_worked_269 (by decide) (fun c84 => ?_) (fun c84 => ?_)
                                    · replace hf := fx_it c84 hf
                                      exact k_K70 w80 w81 _ _ _ hP hS (lv_sub hl [0, 1, 2, 3, 4] rfl) hf
                                    · replace hf := fx_ie c84 hf
                                      refine lv_aload_n hx hb dX12_worked_272 rfl (lv_at hl 0 rfl) ?_
                                      refine gf_X12_78 (v := .ref (ad 23)) hC hP kM_0 rfl dX12_worked_273 ?_
                                      refine lv_iload_n hx hb dX12_worked_276 rfl (lv_at hl 2 rfl) ?_
                                      obtain ⟨h85, hf⟩ := fxG_e hf
                                      refine fx_iald hC hP kM_23 (fx_inp h85) dX12_worked_277 ?_
                                      refine lv_iconst hx hb dX12_worked_278 ki_1 ?_
                                      refine lv_icmp_ne (tgt := 300) hx hb dX12_worked_279 (by decide) (fun c86 => ?_) (fun c86 => ?_)
                                      · replace hf := fx_ie c86 hf
                                        exact k_K70 w80 w81 _ _ _ hP hS (lv_sub hl [0, 1, 2, 3, 4] rfl) hf
                                      · replace hf := fx_it c86 hf
                                        refine lv_iload hx hb dX12_worked_282 (lv_at hl 4 rfl) ?_
                                        obtain ⟨v87, ev87, hf⟩ := fxL_e hf
                                        have j_v87 : ∀ (z88 : Int32), z88 = ((if w81 = 0 then 1 else 0) : Int32) → ∀ (ls : Array Slot), lv_has ls 6 [(0, .ref (ad 0)), (1, .int a1), (2, .int w80), (3, .int w13)] → W p l e (fx_R (2)) s m args below meth c H locs 0 0 (fx_Qi D cy LM ad A below args s v σ') (F0 m 292 ls [.int z88]) := by
                                          intro z88 hz88 ls hl
                                          obtain rfl : v87 = z88 := ev87.trans hz88.symm
                                          refine lv_istore (lv' := [(5, .int v87), (0, .ref (ad 0)), (1, .int a1), (2, .int w80), (3, .int w13)]) hx hb dX12_worked_292 hl (by decide) rfl (fun ls hl => ?_)
                                          refine lv_iinc (v := (w80 + (-1))) (lv' := [(2, .int (w80 + (-1))), (5, .int v87), (0, .ref (ad 0)), (1, .int a1), (3, .int w13)]) hx hb dX12_worked_294 hl (k := 3) rfl (congrArg (fun z => w80 + z) ki_m1) (by decide) rfl (fun ls hl => ?_)
                                          refine lv_goto (tgt := 268) hx hb dX12_worked_297 (by decide) ?_
                                          exact ih82 (w80 + (-1)) v87 _ _ _ hP hS (lv_sub hl [2, 3, 0, 4, 1] rfl) hf
                                        refine lv_if_ne (tgt := 291) hx hb dX12_worked_284 (by decide) (fun c89 => ?_) (fun c89 => ?_)
                                        · refine lv_iconst hx hb dX12_worked_291 ki_0 ?_
                                          exact j_v87 0 (if_neg c89).symm ls (lv_sub hl [0, 1, 2, 3] rfl)
                                        · refine lv_iconst hx hb dX12_worked_287 ki_1 ?_
                                          refine lv_goto (tgt := 292) hx hb dX12_worked_288 (by decide) ?_
                                          exact j_v87 1 (if_pos c89).symm ls (lv_sub hl [0, 1, 2, 3] rfl)
                                exact L90 FU x67 x68 _ _ _ hP hS (lv_sub hl [0, 1, 2, 3, 4] rfl) hf
                              refine lv_icmp_ne (tgt := 268) hx hb dX12_worked_249 (by decide) (fun c91 => ?_) (fun c91 => ?_)
                              · replace hf := fx_ie c91 hf
                                exact j_J66 w12 y65 σ14 _ _ _ hP hS (lv_sub hl [1, 2, 3, 4, 0] rfl) hf
                              · replace hf := fx_it c91 hf
                                refine lv_aload_n hx hb dX12_worked_252 rfl (lv_at hl 1 rfl) ?_
                                refine lv_iload_n hx hb dX12_worked_253 rfl (lv_at hl 3 rfl) ?_
                                obtain ⟨σ94, hc92, hf⟩ := fxBV_e hf
                                refine fx_cv hC hS (fx_runV (i := 0) (As := [.int w12]) (rest := []) hC hP hS (ctX12_tests l hc92 D cy ad ec _) kM_0 (by decide) rfl kMV_X12_216 kC_X12_tests hd_X12_tests rfl ⟨(Nat.le_of_ble_eq_true rfl), (Nat.le_of_ble_eq_true rfl)⟩ ⟨Nat.le_refl 0, Nat.le_refl 0⟩ hl.1 (Nat.le_of_ble_eq_true rfl) rfl dX12_worked_254) (fun H locs hP hS => ?_)
                                refine lv_aload_n hx hb dX12_worked_257 rfl (lv_at hl 1 rfl) ?_
                                refine gf_X12_54 (v := .ref (ad 15)) hC hP kM_0 rfl dX12_worked_258 ?_
                                refine lv_iload_n hx hb dX12_worked_261 rfl (lv_at hl 3 rfl) ?_
                                obtain ⟨h95, hf⟩ := fxG_e hf
                                refine fx_iald hC hP kM_15 (fx_inp h95) dX12_worked_262 ?_
                                obtain ⟨v96, ev96, hf⟩ := fxL_e hf
                                refine fx_ti ev96 ?_
                                refine lv_istore (lv' := [(5, .int v96), (0, .ref (ad 0)), (1, .int a1), (2, .int w12), (3, .int w13), (4, .int v20)]) hx hb dX12_worked_263 hl (by decide) rfl (fun ls hl => ?_)
                                refine lv_iinc (v := (w12 + (-1))) (lv' := [(2, .int (w12 + (-1))), (5, .int v96), (0, .ref (ad 0)), (1, .int a1), (3, .int w13), (4, .int v20)]) hx hb dX12_worked_265 hl (k := 3) rfl (congrArg (fun z => w12 + z) ki_m1) (by decide) rfl (fun ls hl => ?_)
                                exact j_J66 (w12 + (-1)) v96 σ94 _ _ _ hP hS (lv_sub hl [2, 3, 0, 4, 1] rfl) hf
                            refine lv_icmp_lt (tgt := 225) hx hb dX12_worked_214 (by decide) (fun c97 => ?_) (fun c97 => ?_)
                            · replace hf := fx_it c97 hf
                              refine lv_iload hx hb dX12_worked_225 (lv_at hl 0 rfl) ?_
                              refine lv_bipush hx hb dX12_worked_227 kb_20 ?_
                              refine lv_icmp_ge (tgt := 242) hx hb dX12_worked_229 (by decide) (fun c98 => ?_) (fun c98 => ?_)
                              · replace hf := fx_it c98 hf
                                refine lv_iconst hx hb dX12_worked_242 ki_0 ?_
                                exact j_J64 0 _ _ _ hP hS (lv_sub hl [1, 2, 3, 4, 0] rfl) hf
                              · replace hf := fx_ie c98 hf
                                refine lv_aload_n hx hb dX12_worked_232 rfl (lv_at hl 1 rfl) ?_
                                refine gf_X12_81 (v := .ref (ad 24)) hC hP kM_0 rfl dX12_worked_233 ?_
                                refine lv_iload hx hb dX12_worked_236 (lv_at hl 0 rfl) ?_
                                obtain ⟨h99, hf⟩ := fxG_e hf
                                refine fx_iald hC hP kM_24 (fx_inp h99) dX12_worked_238 ?_
                                refine lv_goto (tgt := 243) hx hb dX12_worked_239 (by decide) ?_
                                exact j_J64 (σ14.1 24 (Int32.toNatClampNeg v20)) _ _ _ hP hS (lv_sub hl [1, 2, 3, 4, 0] rfl) hf
                            · replace hf := fx_ie c97 hf
                              refine lv_iload hx hb dX12_worked_217 (lv_at hl 0 rfl) ?_
                              refine lv_bipush hx hb dX12_worked_219 kb_100 ?_
                              refine lv_isub hx hb dX12_worked_221 ?_
                              refine lv_goto (tgt := 243) hx hb dX12_worked_222 (by decide) ?_
                              exact j_J64 (v20 - 100) _ _ _ hP hS (lv_sub hl [1, 2, 3, 4, 0] rfl) hf
                          · replace hf := fx_it c63 hf
                            exact j_J56  _ _ _ hP hS (lv_sub hl [1, 2, 3, 4, 0] rfl) hf
                      · replace hf := fx_it c55 hf
                        exact j_J41  _ _ _ hP hS (lv_sub hl [1, 2, 3, 4, 0] rfl) hf
                  · replace hf := fx_it c40 hf
                    refine lv_aload_n hx hb dX12_worked_112 rfl (lv_at hl 1 rfl) ?_
                    refine gf_X12_75 (v := .ref (ad 22)) hC hP kM_0 rfl dX12_worked_113 ?_
                    refine lv_iload_n hx hb dX12_worked_116 rfl (lv_at hl 3 rfl) ?_
                    refine lv_iload hx hb dX12_worked_117 (lv_at hl 0 rfl) ?_
                    obtain ⟨h100, hf⟩ := fxG_e hf
                    obtain ⟨σ101, eσ101, hf⟩ := fxL_e hf
                    refine fx_iast hC hP hS kM_22 (fx_inp h100) dX12_worked_119 (fun H locs hP hS => ?_)
                    replace hP := fx_Pe eσ101 hP
                    refine lv_goto (tgt := 329) hx hb dX12_worked_120 (by decide) ?_
                    refine lv_iinc (v := (w13 + 1)) (lv' := [(3, .int (w13 + 1)), (4, .int v20), (0, .ref (ad 0)), (1, .int a1), (2, .int w12)]) hx hb dX12_worked_329 hl (k := 4) rfl (congrArg (fun z => w13 + z) ki_1) (by decide) rfl (fun ls hl => ?_)
                    refine lv_goto (tgt := 14) hx hb dX12_worked_332 (by decide) ?_
                    exact ih15 w12 (w13 + 1) σ101 _ _ _ hP hS (lv_sub hl [2, 3, 4, 0] rfl) hf
                · replace hf := fx_it c39 hf
                  exact j_J32  _ _ _ hP hS (lv_sub hl [1, 2, 3, 4, 0] rfl) hf
            · replace hf := fx_it c31 hf
              exact j_J21  _ _ _ hP hS (lv_sub hl [1, 2, 3, 4, 0] rfl) hf
    exact L102 FU 0 v5 σ3 _ _ _ hP hS (lv_sub hl [2, 3, 1, 0] rfl) hf
  exact main _ _ _ hP hS hl

set_option maxHeartbeats 4000000 in
set_option maxRecDepth 100000 in
theorem ctX12_isKept (l : Launch) {σ : FH} {v : Int32} (hf : fX12_isKept σ = some v) : fx_Mi l yX12_isKept cX12_isKept 1 (some .boolean) (0) LM (fun ad ec => [.ref (ad 0)]) σ v σ := by
  unfold fX12_isKept at hf
  refine fx_mi' (own := RX12) rfl (by decide +kernel) ?_
  intro p e s m args below meth c D cy ad ec A hC hr hk hP hS
  have hx := hC.1
  have hb := hC.2.1
  have hl := lv_entry ([.ref (ad 0)]) (n := 1) (Nat.le_of_ble_eq_true rfl)
  show W _ _ _ _ _ _ _ _ _ _ _ _ _ _ _ (entryFrame m ([.ref (ad 0)] : List Value).toArray 1)
  rw [lg_entry_eq]
  generalize (lg_sl ([.ref (ad 0)]) ++ List.replicate (1 - (lg_sl ([.ref (ad 0)])).length) Slot.unset).toArray = ls at hl ⊢
  have hl : lv_has ls 1 [(0, .ref (ad 0))] := hl
  have main : ∀ (H : Heap) (locs : List Loc) (ls : Array Slot), fx_P D cy LM ad σ H → va_S A s.heap H locs → lv_has ls 1 [(0, .ref (ad 0))] → W p l e (fx_R (0)) s m args below meth c H locs 0 0 (fx_Qi D cy LM ad A below args s v σ) (F0 m 0 ls []) := by
    intro H locs ls hP hS hl
    refine lv_aload_n hx hb dX12_isKept_0 rfl (lv_at hl 0 rfl) ?_
    refine gf_X12_158 (v := .int (σ.1 0 6)) hC hP kM_0 rfl dX12_isKept_1 ?_
    refine lv_iconst hx hb dX12_isKept_4 ki_1 ?_
    refine lv_icmp_eq (tgt := 10) hx hb dX12_isKept_5 (by decide) (fun c1 => ?_) (fun c1 => ?_)
    · replace hf := fx_it c1 hf
      refine lv_aload_n hx hb dX12_isKept_10 rfl (lv_at hl 0 rfl) ?_
      refine gf_X12_151 (v := .long (σ.2.1 0 7)) hC hP kM_0 rfl dX12_isKept_11 ?_
      refine lv_ldc2 (own := RX12) (v := 453929) hx hb hC.2.2.2.1 (hC.2.2.2.2.1 _ kK_X12_219) dX12_isKept_14 ?_
      refine W.lcmp hx hb dX12_isKept_17 ?_
      obtain ⟨v2, ev2, hf⟩ := fxL_e hf
      have j_v2 : ∀ (z3 : Int32), z3 = ((if (lg_cmp (σ.2.1 0 7) 453929) = 0 then 1 else (if (lg_cmp (σ.2.1 0 7) 12391871) = 0 then 1 else (if (lg_cmp (σ.2.1 0 7) 90050) = 0 then 1 else (if (lg_cmp (σ.2.1 0 7) 8536426) = 0 then 1 else (if (lg_cmp (σ.2.1 0 7) 10197082) = 0 then 1 else (if (lg_cmp (σ.2.1 0 7) 4797) = 0 then 1 else (if (lg_cmp (σ.2.1 0 7) 125042) = 0 then 1 else (if (lg_cmp (σ.2.1 0 7) 12531826) = 0 then 1 else (if (lg_cmp (σ.2.1 0 7) 464141) = 0 then 1 else (if (lg_cmp (σ.2.1 0 7) 388978) = 0 then 1 else (if (lg_cmp (σ.2.1 0 7) 208022) = 0 then 1 else (if (lg_cmp (σ.2.1 0 7) 240223) = 0 then 1 else (if (lg_cmp (σ.2.1 0 7) 456500) = 0 then 1 else (if (lg_cmp (σ.2.1 0 7) 8740238) = 0 then 1 else (if (lg_cmp (σ.2.1 0 7) 38444009) = 0 then 1 else (if (lg_cmp (σ.2.1 0 7) 175252482) = 0 then 1 else (if (lg_cmp (σ.2.1 0 7) 1841546) = 0 then 1 else (if (lg_cmp (σ.2.1 0 7) 10631) = 0 then 1 else (if (lg_cmp (σ.2.1 0 7) 1111) = 0 then 1 else (if (lg_cmp (σ.2.1 0 7) 423) = 0 then 1 else 0)))))))))))))))))))) : Int32) → ∀ (ls : Array Slot), lv_has ls 1 [] → W p l e (fx_R (0)) s m args below meth c H locs 0 0 (fx_Qi D cy LM ad A below args s v σ) (F0 m 235 ls [.int z3]) := by
        intro z3 hz3 ls hl
        obtain rfl : v2 = z3 := ev2.trans hz3.symm
        obtain ⟨h24, hf⟩ := fxG_e hf
        exact fx_zretp (fx_bon h24) hf hC hr hk hP hS dX12_isKept_235
      refine lv_if_eq (tgt := 230) hx hb dX12_isKept_18 (by decide) (fun c4 => ?_) (fun c4 => ?_)
      · refine lv_iconst hx hb dX12_isKept_230 ki_1 ?_
        refine lv_goto (tgt := 235) hx hb dX12_isKept_231 (by decide) ?_
        exact j_v2 1 (if_pos c4).symm ls (lv_sub hl [] rfl)
      · refine lv_aload_n hx hb dX12_isKept_21 rfl (lv_at hl 0 rfl) ?_
        refine gf_X12_151 (v := .long (σ.2.1 0 7)) hC hP kM_0 rfl dX12_isKept_22 ?_
        refine lv_ldc2 (own := RX12) (v := 12391871) hx hb hC.2.2.2.1 (hC.2.2.2.2.1 _ kK_X12_221) dX12_isKept_25 ?_
        refine W.lcmp hx hb dX12_isKept_28 ?_
        refine lv_if_eq (tgt := 230) hx hb dX12_isKept_29 (by decide) (fun c5 => ?_) (fun c5 => ?_)
        · refine lv_iconst hx hb dX12_isKept_230 ki_1 ?_
          refine lv_goto (tgt := 235) hx hb dX12_isKept_231 (by decide) ?_
          exact j_v2 1 ((if_neg c4).trans (if_pos c5)).symm ls (lv_sub hl [] rfl)
        · refine lv_aload_n hx hb dX12_isKept_32 rfl (lv_at hl 0 rfl) ?_
          refine gf_X12_151 (v := .long (σ.2.1 0 7)) hC hP kM_0 rfl dX12_isKept_33 ?_
          refine lv_ldc2 (own := RX12) (v := 90050) hx hb hC.2.2.2.1 (hC.2.2.2.2.1 _ kK_X12_223) dX12_isKept_36 ?_
          refine W.lcmp hx hb dX12_isKept_39 ?_
          refine lv_if_eq (tgt := 230) hx hb dX12_isKept_40 (by decide) (fun c6 => ?_) (fun c6 => ?_)
          · refine lv_iconst hx hb dX12_isKept_230 ki_1 ?_
            refine lv_goto (tgt := 235) hx hb dX12_isKept_231 (by decide) ?_
            exact j_v2 1 (((if_neg c4).trans (if_neg c5)).trans (if_pos c6)).symm ls (lv_sub hl [] rfl)
          · refine lv_aload_n hx hb dX12_isKept_43 rfl (lv_at hl 0 rfl) ?_
            refine gf_X12_151 (v := .long (σ.2.1 0 7)) hC hP kM_0 rfl dX12_isKept_44 ?_
            refine lv_ldc2 (own := RX12) (v := 8536426) hx hb hC.2.2.2.1 (hC.2.2.2.2.1 _ kK_X12_225) dX12_isKept_47 ?_
            refine W.lcmp hx hb dX12_isKept_50 ?_
            refine lv_if_eq (tgt := 230) hx hb dX12_isKept_51 (by decide) (fun c7 => ?_) (fun c7 => ?_)
            · refine lv_iconst hx hb dX12_isKept_230 ki_1 ?_
              refine lv_goto (tgt := 235) hx hb dX12_isKept_231 (by decide) ?_
              exact j_v2 1 ((((if_neg c4).trans (if_neg c5)).trans (if_neg c6)).trans (if_pos c7)).symm ls (lv_sub hl [] rfl)
            · refine lv_aload_n hx hb dX12_isKept_54 rfl (lv_at hl 0 rfl) ?_
              refine gf_X12_151 (v := .long (σ.2.1 0 7)) hC hP kM_0 rfl dX12_isKept_55 ?_
              refine lv_ldc2 (own := RX12) (v := 10197082) hx hb hC.2.2.2.1 (hC.2.2.2.2.1 _ kK_X12_227) dX12_isKept_58 ?_
              refine W.lcmp hx hb dX12_isKept_61 ?_
              refine lv_if_eq (tgt := 230) hx hb dX12_isKept_62 (by decide) (fun c8 => ?_) (fun c8 => ?_)
              · refine lv_iconst hx hb dX12_isKept_230 ki_1 ?_
                refine lv_goto (tgt := 235) hx hb dX12_isKept_231 (by decide) ?_
                exact j_v2 1 (((((if_neg c4).trans (if_neg c5)).trans (if_neg c6)).trans (if_neg c7)).trans (if_pos c8)).symm ls (lv_sub hl [] rfl)
              · refine lv_aload_n hx hb dX12_isKept_65 rfl (lv_at hl 0 rfl) ?_
                refine gf_X12_151 (v := .long (σ.2.1 0 7)) hC hP kM_0 rfl dX12_isKept_66 ?_
                refine lv_ldc2 (own := RX12) (v := 4797) hx hb hC.2.2.2.1 (hC.2.2.2.2.1 _ kK_X12_229) dX12_isKept_69 ?_
                refine W.lcmp hx hb dX12_isKept_72 ?_
                refine lv_if_eq (tgt := 230) hx hb dX12_isKept_73 (by decide) (fun c9 => ?_) (fun c9 => ?_)
                · refine lv_iconst hx hb dX12_isKept_230 ki_1 ?_
                  refine lv_goto (tgt := 235) hx hb dX12_isKept_231 (by decide) ?_
                  exact j_v2 1 ((((((if_neg c4).trans (if_neg c5)).trans (if_neg c6)).trans (if_neg c7)).trans (if_neg c8)).trans (if_pos c9)).symm ls (lv_sub hl [] rfl)
                · refine lv_aload_n hx hb dX12_isKept_76 rfl (lv_at hl 0 rfl) ?_
                  refine gf_X12_151 (v := .long (σ.2.1 0 7)) hC hP kM_0 rfl dX12_isKept_77 ?_
                  refine lv_ldc2 (own := RX12) (v := 125042) hx hb hC.2.2.2.1 (hC.2.2.2.2.1 _ kK_X12_231) dX12_isKept_80 ?_
                  refine W.lcmp hx hb dX12_isKept_83 ?_
                  refine lv_if_eq (tgt := 230) hx hb dX12_isKept_84 (by decide) (fun c10 => ?_) (fun c10 => ?_)
                  · refine lv_iconst hx hb dX12_isKept_230 ki_1 ?_
                    refine lv_goto (tgt := 235) hx hb dX12_isKept_231 (by decide) ?_
                    exact j_v2 1 (((((((if_neg c4).trans (if_neg c5)).trans (if_neg c6)).trans (if_neg c7)).trans (if_neg c8)).trans (if_neg c9)).trans (if_pos c10)).symm ls (lv_sub hl [] rfl)
                  · refine lv_aload_n hx hb dX12_isKept_87 rfl (lv_at hl 0 rfl) ?_
                    refine gf_X12_151 (v := .long (σ.2.1 0 7)) hC hP kM_0 rfl dX12_isKept_88 ?_
                    refine lv_ldc2 (own := RX12) (v := 12531826) hx hb hC.2.2.2.1 (hC.2.2.2.2.1 _ kK_X12_233) dX12_isKept_91 ?_
                    refine W.lcmp hx hb dX12_isKept_94 ?_
                    refine lv_if_eq (tgt := 230) hx hb dX12_isKept_95 (by decide) (fun c11 => ?_) (fun c11 => ?_)
                    · refine lv_iconst hx hb dX12_isKept_230 ki_1 ?_
                      refine lv_goto (tgt := 235) hx hb dX12_isKept_231 (by decide) ?_
                      exact j_v2 1 ((((((((if_neg c4).trans (if_neg c5)).trans (if_neg c6)).trans (if_neg c7)).trans (if_neg c8)).trans (if_neg c9)).trans (if_neg c10)).trans (if_pos c11)).symm ls (lv_sub hl [] rfl)
                    · refine lv_aload_n hx hb dX12_isKept_98 rfl (lv_at hl 0 rfl) ?_
                      refine gf_X12_151 (v := .long (σ.2.1 0 7)) hC hP kM_0 rfl dX12_isKept_99 ?_
                      refine lv_ldc2 (own := RX12) (v := 464141) hx hb hC.2.2.2.1 (hC.2.2.2.2.1 _ kK_X12_235) dX12_isKept_102 ?_
                      refine W.lcmp hx hb dX12_isKept_105 ?_
                      refine lv_if_eq (tgt := 230) hx hb dX12_isKept_106 (by decide) (fun c12 => ?_) (fun c12 => ?_)
                      · refine lv_iconst hx hb dX12_isKept_230 ki_1 ?_
                        refine lv_goto (tgt := 235) hx hb dX12_isKept_231 (by decide) ?_
                        exact j_v2 1 (((((((((if_neg c4).trans (if_neg c5)).trans (if_neg c6)).trans (if_neg c7)).trans (if_neg c8)).trans (if_neg c9)).trans (if_neg c10)).trans (if_neg c11)).trans (if_pos c12)).symm ls (lv_sub hl [] rfl)
                      · refine lv_aload_n hx hb dX12_isKept_109 rfl (lv_at hl 0 rfl) ?_
                        refine gf_X12_151 (v := .long (σ.2.1 0 7)) hC hP kM_0 rfl dX12_isKept_110 ?_
                        refine lv_ldc2 (own := RX12) (v := 388978) hx hb hC.2.2.2.1 (hC.2.2.2.2.1 _ kK_X12_237) dX12_isKept_113 ?_
                        refine W.lcmp hx hb dX12_isKept_116 ?_
                        refine lv_if_eq (tgt := 230) hx hb dX12_isKept_117 (by decide) (fun c13 => ?_) (fun c13 => ?_)
                        · refine lv_iconst hx hb dX12_isKept_230 ki_1 ?_
                          refine lv_goto (tgt := 235) hx hb dX12_isKept_231 (by decide) ?_
                          exact j_v2 1 ((((((((((if_neg c4).trans (if_neg c5)).trans (if_neg c6)).trans (if_neg c7)).trans (if_neg c8)).trans (if_neg c9)).trans (if_neg c10)).trans (if_neg c11)).trans (if_neg c12)).trans (if_pos c13)).symm ls (lv_sub hl [] rfl)
                        · refine lv_aload_n hx hb dX12_isKept_120 rfl (lv_at hl 0 rfl) ?_
                          refine gf_X12_151 (v := .long (σ.2.1 0 7)) hC hP kM_0 rfl dX12_isKept_121 ?_
                          refine lv_ldc2 (own := RX12) (v := 208022) hx hb hC.2.2.2.1 (hC.2.2.2.2.1 _ kK_X12_239) dX12_isKept_124 ?_
                          refine W.lcmp hx hb dX12_isKept_127 ?_
                          refine lv_if_eq (tgt := 230) hx hb dX12_isKept_128 (by decide) (fun c14 => ?_) (fun c14 => ?_)
                          · refine lv_iconst hx hb dX12_isKept_230 ki_1 ?_
                            refine lv_goto (tgt := 235) hx hb dX12_isKept_231 (by decide) ?_
                            exact j_v2 1 (((((((((((if_neg c4).trans (if_neg c5)).trans (if_neg c6)).trans (if_neg c7)).trans (if_neg c8)).trans (if_neg c9)).trans (if_neg c10)).trans (if_neg c11)).trans (if_neg c12)).trans (if_neg c13)).trans (if_pos c14)).symm ls (lv_sub hl [] rfl)
                          · refine lv_aload_n hx hb dX12_isKept_131 rfl (lv_at hl 0 rfl) ?_
                            refine gf_X12_151 (v := .long (σ.2.1 0 7)) hC hP kM_0 rfl dX12_isKept_132 ?_
                            refine lv_ldc2 (own := RX12) (v := 240223) hx hb hC.2.2.2.1 (hC.2.2.2.2.1 _ kK_X12_241) dX12_isKept_135 ?_
                            refine W.lcmp hx hb dX12_isKept_138 ?_
                            refine lv_if_eq (tgt := 230) hx hb dX12_isKept_139 (by decide) (fun c15 => ?_) (fun c15 => ?_)
                            · refine lv_iconst hx hb dX12_isKept_230 ki_1 ?_
                              refine lv_goto (tgt := 235) hx hb dX12_isKept_231 (by decide) ?_
                              exact j_v2 1 ((((((((((((if_neg c4).trans (if_neg c5)).trans (if_neg c6)).trans (if_neg c7)).trans (if_neg c8)).trans (if_neg c9)).trans (if_neg c10)).trans (if_neg c11)).trans (if_neg c12)).trans (if_neg c13)).trans (if_neg c14)).trans (if_pos c15)).symm ls (lv_sub hl [] rfl)
                            · refine lv_aload_n hx hb dX12_isKept_142 rfl (lv_at hl 0 rfl) ?_
                              refine gf_X12_151 (v := .long (σ.2.1 0 7)) hC hP kM_0 rfl dX12_isKept_143 ?_
                              refine lv_ldc2 (own := RX12) (v := 456500) hx hb hC.2.2.2.1 (hC.2.2.2.2.1 _ kK_X12_243) dX12_isKept_146 ?_
                              refine W.lcmp hx hb dX12_isKept_149 ?_
                              refine lv_if_eq (tgt := 230) hx hb dX12_isKept_150 (by decide) (fun c16 => ?_) (fun c16 => ?_)
                              · refine lv_iconst hx hb dX12_isKept_230 ki_1 ?_
                                refine lv_goto (tgt := 235) hx hb dX12_isKept_231 (by decide) ?_
                                exact j_v2 1 (((((((((((((if_neg c4).trans (if_neg c5)).trans (if_neg c6)).trans (if_neg c7)).trans (if_neg c8)).trans (if_neg c9)).trans (if_neg c10)).trans (if_neg c11)).trans (if_neg c12)).trans (if_neg c13)).trans (if_neg c14)).trans (if_neg c15)).trans (if_pos c16)).symm ls (lv_sub hl [] rfl)
                              · refine lv_aload_n hx hb dX12_isKept_153 rfl (lv_at hl 0 rfl) ?_
                                refine gf_X12_151 (v := .long (σ.2.1 0 7)) hC hP kM_0 rfl dX12_isKept_154 ?_
                                refine lv_ldc2 (own := RX12) (v := 8740238) hx hb hC.2.2.2.1 (hC.2.2.2.2.1 _ kK_X12_245) dX12_isKept_157 ?_
                                refine W.lcmp hx hb dX12_isKept_160 ?_
                                refine lv_if_eq (tgt := 230) hx hb dX12_isKept_161 (by decide) (fun c17 => ?_) (fun c17 => ?_)
                                · refine lv_iconst hx hb dX12_isKept_230 ki_1 ?_
                                  refine lv_goto (tgt := 235) hx hb dX12_isKept_231 (by decide) ?_
                                  exact j_v2 1 ((((((((((((((if_neg c4).trans (if_neg c5)).trans (if_neg c6)).trans (if_neg c7)).trans (if_neg c8)).trans (if_neg c9)).trans (if_neg c10)).trans (if_neg c11)).trans (if_neg c12)).trans (if_neg c13)).trans (if_neg c14)).trans (if_neg c15)).trans (if_neg c16)).trans (if_pos c17)).symm ls (lv_sub hl [] rfl)
                                · refine lv_aload_n hx hb dX12_isKept_164 rfl (lv_at hl 0 rfl) ?_
                                  refine gf_X12_151 (v := .long (σ.2.1 0 7)) hC hP kM_0 rfl dX12_isKept_165 ?_
                                  refine lv_ldc2 (own := RX12) (v := 38444009) hx hb hC.2.2.2.1 (hC.2.2.2.2.1 _ kK_X12_247) dX12_isKept_168 ?_
                                  refine W.lcmp hx hb dX12_isKept_171 ?_
                                  refine lv_if_eq (tgt := 230) hx hb dX12_isKept_172 (by decide) (fun c18 => ?_) (fun c18 => ?_)
                                  · refine lv_iconst hx hb dX12_isKept_230 ki_1 ?_
                                    refine lv_goto (tgt := 235) hx hb dX12_isKept_231 (by decide) ?_
                                    exact j_v2 1 (((((((((((((((if_neg c4).trans (if_neg c5)).trans (if_neg c6)).trans (if_neg c7)).trans (if_neg c8)).trans (if_neg c9)).trans (if_neg c10)).trans (if_neg c11)).trans (if_neg c12)).trans (if_neg c13)).trans (if_neg c14)).trans (if_neg c15)).trans (if_neg c16)).trans (if_neg c17)).trans (if_pos c18)).symm ls (lv_sub hl [] rfl)
                                  · refine lv_aload_n hx hb dX12_isKept_175 rfl (lv_at hl 0 rfl) ?_
                                    refine gf_X12_151 (v := .long (σ.2.1 0 7)) hC hP kM_0 rfl dX12_isKept_176 ?_
                                    refine lv_ldc2 (own := RX12) (v := 175252482) hx hb hC.2.2.2.1 (hC.2.2.2.2.1 _ kK_X12_249) dX12_isKept_179 ?_
                                    refine W.lcmp hx hb dX12_isKept_182 ?_
                                    refine lv_if_eq (tgt := 230) hx hb dX12_isKept_183 (by decide) (fun c19 => ?_) (fun c19 => ?_)
                                    · refine lv_iconst hx hb dX12_isKept_230 ki_1 ?_
                                      refine lv_goto (tgt := 235) hx hb dX12_isKept_231 (by decide) ?_
                                      exact j_v2 1 ((((((((((((((((if_neg c4).trans (if_neg c5)).trans (if_neg c6)).trans (if_neg c7)).trans (if_neg c8)).trans (if_neg c9)).trans (if_neg c10)).trans (if_neg c11)).trans (if_neg c12)).trans (if_neg c13)).trans (if_neg c14)).trans (if_neg c15)).trans (if_neg c16)).trans (if_neg c17)).trans (if_neg c18)).trans (if_pos c19)).symm ls (lv_sub hl [] rfl)
                                    · refine lv_aload_n hx hb dX12_isKept_186 rfl (lv_at hl 0 rfl) ?_
                                      refine gf_X12_151 (v := .long (σ.2.1 0 7)) hC hP kM_0 rfl dX12_isKept_187 ?_
                                      refine lv_ldc2 (own := RX12) (v := 1841546) hx hb hC.2.2.2.1 (hC.2.2.2.2.1 _ kK_X12_251) dX12_isKept_190 ?_
                                      refine W.lcmp hx hb dX12_isKept_193 ?_
                                      refine lv_if_eq (tgt := 230) hx hb dX12_isKept_194 (by decide) (fun c20 => ?_) (fun c20 => ?_)
                                      · refine lv_iconst hx hb dX12_isKept_230 ki_1 ?_
                                        refine lv_goto (tgt := 235) hx hb dX12_isKept_231 (by decide) ?_
                                        exact j_v2 1 (((((((((((((((((if_neg c4).trans (if_neg c5)).trans (if_neg c6)).trans (if_neg c7)).trans (if_neg c8)).trans (if_neg c9)).trans (if_neg c10)).trans (if_neg c11)).trans (if_neg c12)).trans (if_neg c13)).trans (if_neg c14)).trans (if_neg c15)).trans (if_neg c16)).trans (if_neg c17)).trans (if_neg c18)).trans (if_neg c19)).trans (if_pos c20)).symm ls (lv_sub hl [] rfl)
                                      · refine lv_aload_n hx hb dX12_isKept_197 rfl (lv_at hl 0 rfl) ?_
                                        refine gf_X12_151 (v := .long (σ.2.1 0 7)) hC hP kM_0 rfl dX12_isKept_198 ?_
                                        refine lv_ldc2 (own := RX12) (v := 10631) hx hb hC.2.2.2.1 (hC.2.2.2.2.1 _ kK_X12_187) dX12_isKept_201 ?_
                                        refine W.lcmp hx hb dX12_isKept_204 ?_
                                        refine lv_if_eq (tgt := 230) hx hb dX12_isKept_205 (by decide) (fun c21 => ?_) (fun c21 => ?_)
                                        · refine lv_iconst hx hb dX12_isKept_230 ki_1 ?_
                                          refine lv_goto (tgt := 235) hx hb dX12_isKept_231 (by decide) ?_
                                          exact j_v2 1 ((((((((((((((((((if_neg c4).trans (if_neg c5)).trans (if_neg c6)).trans (if_neg c7)).trans (if_neg c8)).trans (if_neg c9)).trans (if_neg c10)).trans (if_neg c11)).trans (if_neg c12)).trans (if_neg c13)).trans (if_neg c14)).trans (if_neg c15)).trans (if_neg c16)).trans (if_neg c17)).trans (if_neg c18)).trans (if_neg c19)).trans (if_neg c20)).trans (if_pos c21)).symm ls (lv_sub hl [] rfl)
                                        · refine lv_aload_n hx hb dX12_isKept_208 rfl (lv_at hl 0 rfl) ?_
                                          refine gf_X12_151 (v := .long (σ.2.1 0 7)) hC hP kM_0 rfl dX12_isKept_209 ?_
                                          refine lv_ldc2 (own := RX12) (v := 1111) hx hb hC.2.2.2.1 (hC.2.2.2.2.1 _ kK_X12_206) dX12_isKept_212 ?_
                                          refine W.lcmp hx hb dX12_isKept_215 ?_
                                          refine lv_if_eq (tgt := 230) hx hb dX12_isKept_216 (by decide) (fun c22 => ?_) (fun c22 => ?_)
                                          · refine lv_iconst hx hb dX12_isKept_230 ki_1 ?_
                                            refine lv_goto (tgt := 235) hx hb dX12_isKept_231 (by decide) ?_
                                            exact j_v2 1 (((((((((((((((((((if_neg c4).trans (if_neg c5)).trans (if_neg c6)).trans (if_neg c7)).trans (if_neg c8)).trans (if_neg c9)).trans (if_neg c10)).trans (if_neg c11)).trans (if_neg c12)).trans (if_neg c13)).trans (if_neg c14)).trans (if_neg c15)).trans (if_neg c16)).trans (if_neg c17)).trans (if_neg c18)).trans (if_neg c19)).trans (if_neg c20)).trans (if_neg c21)).trans (if_pos c22)).symm ls (lv_sub hl [] rfl)
                                          · refine lv_aload_n hx hb dX12_isKept_219 rfl (lv_at hl 0 rfl) ?_
                                            refine gf_X12_151 (v := .long (σ.2.1 0 7)) hC hP kM_0 rfl dX12_isKept_220 ?_
                                            refine lv_ldc2 (own := RX12) (v := 423) hx hb hC.2.2.2.1 (hC.2.2.2.2.1 _ kK_X12_208) dX12_isKept_223 ?_
                                            refine W.lcmp hx hb dX12_isKept_226 ?_
                                            refine lv_if_ne (tgt := 234) hx hb dX12_isKept_227 (by decide) (fun c23 => ?_) (fun c23 => ?_)
                                            · refine lv_iconst hx hb dX12_isKept_234 ki_0 ?_
                                              exact j_v2 0 ((((((((((((((((((((if_neg c4).trans (if_neg c5)).trans (if_neg c6)).trans (if_neg c7)).trans (if_neg c8)).trans (if_neg c9)).trans (if_neg c10)).trans (if_neg c11)).trans (if_neg c12)).trans (if_neg c13)).trans (if_neg c14)).trans (if_neg c15)).trans (if_neg c16)).trans (if_neg c17)).trans (if_neg c18)).trans (if_neg c19)).trans (if_neg c20)).trans (if_neg c21)).trans (if_neg c22)).trans (if_neg c23)).symm ls (lv_sub hl [] rfl)
                                            · refine lv_iconst hx hb dX12_isKept_230 ki_1 ?_
                                              refine lv_goto (tgt := 235) hx hb dX12_isKept_231 (by decide) ?_
                                              exact j_v2 1 ((((((((((((((((((((if_neg c4).trans (if_neg c5)).trans (if_neg c6)).trans (if_neg c7)).trans (if_neg c8)).trans (if_neg c9)).trans (if_neg c10)).trans (if_neg c11)).trans (if_neg c12)).trans (if_neg c13)).trans (if_neg c14)).trans (if_neg c15)).trans (if_neg c16)).trans (if_neg c17)).trans (if_neg c18)).trans (if_neg c19)).trans (if_neg c20)).trans (if_neg c21)).trans (if_neg c22)).trans (if_pos c23)).symm ls (lv_sub hl [] rfl)
    · replace hf := fx_ie c1 hf
      refine lv_iconst hx hb dX12_isKept_8 ki_1 ?_
      exact fx_zretp rfl hf hC hr hk hP hS dX12_isKept_9
  exact main _ _ _ hP hS hl

set_option maxHeartbeats 4000000 in
set_option maxRecDepth 100000 in
theorem ctX12_wareNamed (l : Launch) {a1 : Int32} {σ : FH} {v : Int32} (hf : fX12_wareNamed a1 σ = some v) : fx_Mi l yX12_wareNamed cX12_wareNamed 3 (some .int) (0) LM (fun ad ec => [.ref (ad 0), .int a1]) σ v σ := by
  unfold fX12_wareNamed at hf
  refine fx_mi' (own := RX12) rfl (by decide +kernel) ?_
  intro p e s m args below meth c D cy ad ec A hC hr hk hP hS
  have hx := hC.1
  have hb := hC.2.1
  have hl := lv_entry ([.ref (ad 0), .int a1]) (n := 3) (Nat.le_of_ble_eq_true rfl)
  show W _ _ _ _ _ _ _ _ _ _ _ _ _ _ _ (entryFrame m ([.ref (ad 0), .int a1] : List Value).toArray 3)
  rw [lg_entry_eq]
  generalize (lg_sl ([.ref (ad 0), .int a1]) ++ List.replicate (3 - (lg_sl ([.ref (ad 0), .int a1])).length) Slot.unset).toArray = ls at hl ⊢
  have hl : lv_has ls 3 [(0, .ref (ad 0)), (1, .int a1)] := hl
  have main : ∀ (H : Heap) (locs : List Loc) (ls : Array Slot), fx_P D cy LM ad σ H → va_S A s.heap H locs → lv_has ls 3 [(0, .ref (ad 0)), (1, .int a1)] → W p l e (fx_R (0)) s m args below meth c H locs 0 0 (fx_Qi D cy LM ad A below args s v σ) (F0 m 0 ls []) := by
    intro H locs ls hP hS hl
    refine lv_bipush hx hb dX12_wareNamed_0 kb_6 ?_
    refine lv_iload_n hx hb dX12_wareNamed_2 rfl (lv_at hl 1 rfl) ?_
    refine lv_imul hx hb dX12_wareNamed_3 ?_
    obtain ⟨v1, ev1, hf⟩ := fxL_e hf
    refine fx_ti ev1 ?_
    refine lv_istore_n (lv' := [(2, .int v1), (0, .ref (ad 0)), (1, .int a1)]) hx hb dX12_wareNamed_4 rfl hl (by decide) rfl (fun ls hl => ?_)
    obtain ⟨K2, hK2, hf⟩ := fxL_e hf
    have k_K2 : ∀  (H : Heap) (locs : List Loc) (ls : Array Slot), fx_P D cy LM ad σ H → va_S A s.heap H locs → lv_has ls 3 [] → K2 = some v → W p l e (fx_R (0)) s m args below meth c H locs 0 0 (fx_Qi D cy LM ad A below args s v σ) (F0 m 51 ls []) := by
      intro  H locs ls hP hS hl hf
      replace hf := hK2.symm.trans hf
      refine lv_iconst hx hb dX12_wareNamed_51 ki_m1 ?_
      exact fx_iretp hf hC hr hk hP hS dX12_wareNamed_52
    have L10 : ∀ (n5 : Nat) (w3 : Int32) (H : Heap) (locs : List Loc) (ls : Array Slot), fx_P D cy LM ad σ H → va_S A s.heap H locs → lv_has ls 3 [(0, .ref (ad 0)), (1, .int a1), (2, .int w3)] → fX12_wareNamed_5 a1 σ K2 n5 w3 = some v → W p l e (fx_R (0)) s m args below meth c H locs 0 0 (fx_Qi D cy LM ad A below args s v σ) (F0 m 5 ls []) := by
      intro n5
      induction n5 with
      | zero =>
        intro w3 H locs ls hP hS hl hf
        rw [fX12_wareNamed_5] at hf
        cases hf
      | succ n5 ih4 =>
        intro w3 H locs ls hP hS hl hf
        rw [fX12_wareNamed_5] at hf
        refine lv_iload_n hx hb dX12_wareNamed_5 rfl (lv_at hl 2 rfl) ?_
        refine lv_bipush hx hb dX12_wareNamed_6 kb_6 ?_
        refine lv_iload_n hx hb dX12_wareNamed_8 rfl (lv_at hl 1 rfl) ?_
        refine lv_imul hx hb dX12_wareNamed_9 ?_
        refine lv_aload_n hx hb dX12_wareNamed_10 rfl (lv_at hl 0 rfl) ?_
        refine gf_X12_13 (v := .ref (ad 2)) hC hP kM_0 rfl dX12_wareNamed_11 ?_
        refine lv_iconst hx hb dX12_wareNamed_14 ki_3 ?_
        refine lv_iload_n hx hb dX12_wareNamed_15 rfl (lv_at hl 1 rfl) ?_
        refine lv_imul hx hb dX12_wareNamed_16 ?_
        refine lv_iconst hx hb dX12_wareNamed_17 ki_0 ?_
        refine lv_iadd hx hb dX12_wareNamed_18 ?_
        obtain ⟨h6, hf⟩ := fxG_e hf
        refine fx_iald hC hP kM_2 (fx_inp h6) dX12_wareNamed_19 ?_
        refine lv_iadd hx hb dX12_wareNamed_20 ?_
        refine lv_icmp_ge (tgt := 51) hx hb dX12_wareNamed_21 (by decide) (fun c7 => ?_) (fun c7 => ?_)
        · replace hf := fx_it c7 hf
          exact k_K2  _ _ _ hP hS (lv_sub hl [] rfl) hf
        · replace hf := fx_ie c7 hf
          refine lv_aload_n hx hb dX12_wareNamed_24 rfl (lv_at hl 0 rfl) ?_
          refine gf_X12_16 (v := .ref (ad 3)) hC hP kM_0 rfl dX12_wareNamed_25 ?_
          refine lv_iload_n hx hb dX12_wareNamed_28 rfl (lv_at hl 2 rfl) ?_
          obtain ⟨h8, hf⟩ := fxG_e hf
          refine fx_lald hC hP kM_3 (fx_inp h8) dX12_wareNamed_29 ?_
          refine lv_aload_n hx hb dX12_wareNamed_30 rfl (lv_at hl 0 rfl) ?_
          refine gf_X12_151 (v := .long (σ.2.1 0 7)) hC hP kM_0 rfl dX12_wareNamed_31 ?_
          refine W.lcmp hx hb dX12_wareNamed_34 ?_
          refine lv_if_ne (tgt := 45) hx hb dX12_wareNamed_35 (by decide) (fun c9 => ?_) (fun c9 => ?_)
          · replace hf := fx_ie c9 hf
            refine lv_iinc (v := (w3 + 1)) (lv' := [(2, .int (w3 + 1)), (0, .ref (ad 0)), (1, .int a1)]) hx hb dX12_wareNamed_45 hl (k := 2) rfl (congrArg (fun z => w3 + z) ki_1) (by decide) rfl (fun ls hl => ?_)
            refine lv_goto (tgt := 5) hx hb dX12_wareNamed_48 (by decide) ?_
            exact ih4 (w3 + 1) _ _ _ hP hS (lv_sub hl [1, 2, 0] rfl) hf
          · replace hf := fx_it c9 hf
            refine lv_iload_n hx hb dX12_wareNamed_38 rfl (lv_at hl 2 rfl) ?_
            refine lv_bipush hx hb dX12_wareNamed_39 kb_6 ?_
            refine lv_iload_n hx hb dX12_wareNamed_41 rfl (lv_at hl 1 rfl) ?_
            refine lv_imul hx hb dX12_wareNamed_42 ?_
            refine lv_isub hx hb dX12_wareNamed_43 ?_
            exact fx_iretp hf hC hr hk hP hS dX12_wareNamed_44
    exact L10 FU v1 _ _ _ hP hS (lv_sub hl [1, 2, 0] rfl) hf
  exact main _ _ _ hP hS hl

set_option maxHeartbeats 4000000 in
set_option maxRecDepth 100000 in
theorem ctX12_partyNamed (l : Launch) {a1 : Int32} {σ : FH} {v : Int32} (hf : fX12_partyNamed a1 σ = some v) : fx_Mi l yX12_partyNamed cX12_partyNamed 3 (some .int) (0) LM (fun ad ec => [.ref (ad 0), .int a1]) σ v σ := by
  unfold fX12_partyNamed at hf
  refine fx_mi' (own := RX12) rfl (by decide +kernel) ?_
  intro p e s m args below meth c D cy ad ec A hC hr hk hP hS
  have hx := hC.1
  have hb := hC.2.1
  have hl := lv_entry ([.ref (ad 0), .int a1]) (n := 3) (Nat.le_of_ble_eq_true rfl)
  show W _ _ _ _ _ _ _ _ _ _ _ _ _ _ _ (entryFrame m ([.ref (ad 0), .int a1] : List Value).toArray 3)
  rw [lg_entry_eq]
  generalize (lg_sl ([.ref (ad 0), .int a1]) ++ List.replicate (3 - (lg_sl ([.ref (ad 0), .int a1])).length) Slot.unset).toArray = ls at hl ⊢
  have hl : lv_has ls 3 [(0, .ref (ad 0)), (1, .int a1)] := hl
  have main : ∀ (H : Heap) (locs : List Loc) (ls : Array Slot), fx_P D cy LM ad σ H → va_S A s.heap H locs → lv_has ls 3 [(0, .ref (ad 0)), (1, .int a1)] → W p l e (fx_R (0)) s m args below meth c H locs 0 0 (fx_Qi D cy LM ad A below args s v σ) (F0 m 0 ls []) := by
    intro H locs ls hP hS hl
    refine lv_iconst hx hb dX12_partyNamed_0 ki_5 ?_
    refine lv_iload_n hx hb dX12_partyNamed_1 rfl (lv_at hl 1 rfl) ?_
    refine lv_imul hx hb dX12_partyNamed_2 ?_
    obtain ⟨v1, ev1, hf⟩ := fxL_e hf
    refine fx_ti ev1 ?_
    refine lv_istore_n (lv' := [(2, .int v1), (0, .ref (ad 0)), (1, .int a1)]) hx hb dX12_partyNamed_3 rfl hl (by decide) rfl (fun ls hl => ?_)
    obtain ⟨K2, hK2, hf⟩ := fxL_e hf
    have k_K2 : ∀  (H : Heap) (locs : List Loc) (ls : Array Slot), fx_P D cy LM ad σ H → va_S A s.heap H locs → lv_has ls 3 [] → K2 = some v → W p l e (fx_R (0)) s m args below meth c H locs 0 0 (fx_Qi D cy LM ad A below args s v σ) (F0 m 48 ls []) := by
      intro  H locs ls hP hS hl hf
      replace hf := hK2.symm.trans hf
      refine lv_iconst hx hb dX12_partyNamed_48 ki_m1 ?_
      exact fx_iretp hf hC hr hk hP hS dX12_partyNamed_49
    have L10 : ∀ (n5 : Nat) (w3 : Int32) (H : Heap) (locs : List Loc) (ls : Array Slot), fx_P D cy LM ad σ H → va_S A s.heap H locs → lv_has ls 3 [(0, .ref (ad 0)), (1, .int a1), (2, .int w3)] → fX12_partyNamed_4 a1 σ K2 n5 w3 = some v → W p l e (fx_R (0)) s m args below meth c H locs 0 0 (fx_Qi D cy LM ad A below args s v σ) (F0 m 4 ls []) := by
      intro n5
      induction n5 with
      | zero =>
        intro w3 H locs ls hP hS hl hf
        rw [fX12_partyNamed_4] at hf
        cases hf
      | succ n5 ih4 =>
        intro w3 H locs ls hP hS hl hf
        rw [fX12_partyNamed_4] at hf
        refine lv_iload_n hx hb dX12_partyNamed_4 rfl (lv_at hl 2 rfl) ?_
        refine lv_iconst hx hb dX12_partyNamed_5 ki_5 ?_
        refine lv_iload_n hx hb dX12_partyNamed_6 rfl (lv_at hl 1 rfl) ?_
        refine lv_imul hx hb dX12_partyNamed_7 ?_
        refine lv_aload_n hx hb dX12_partyNamed_8 rfl (lv_at hl 0 rfl) ?_
        refine gf_X12_13 (v := .ref (ad 2)) hC hP kM_0 rfl dX12_partyNamed_9 ?_
        refine lv_iconst hx hb dX12_partyNamed_12 ki_3 ?_
        refine lv_iload_n hx hb dX12_partyNamed_13 rfl (lv_at hl 1 rfl) ?_
        refine lv_imul hx hb dX12_partyNamed_14 ?_
        refine lv_iconst hx hb dX12_partyNamed_15 ki_1 ?_
        refine lv_iadd hx hb dX12_partyNamed_16 ?_
        obtain ⟨h6, hf⟩ := fxG_e hf
        refine fx_iald hC hP kM_2 (fx_inp h6) dX12_partyNamed_17 ?_
        refine lv_iadd hx hb dX12_partyNamed_18 ?_
        refine lv_icmp_ge (tgt := 48) hx hb dX12_partyNamed_19 (by decide) (fun c7 => ?_) (fun c7 => ?_)
        · replace hf := fx_it c7 hf
          exact k_K2  _ _ _ hP hS (lv_sub hl [] rfl) hf
        · replace hf := fx_ie c7 hf
          refine lv_aload_n hx hb dX12_partyNamed_22 rfl (lv_at hl 0 rfl) ?_
          refine gf_X12_20 (v := .ref (ad 4)) hC hP kM_0 rfl dX12_partyNamed_23 ?_
          refine lv_iload_n hx hb dX12_partyNamed_26 rfl (lv_at hl 2 rfl) ?_
          obtain ⟨h8, hf⟩ := fxG_e hf
          refine fx_lald hC hP kM_4 (fx_inp h8) dX12_partyNamed_27 ?_
          refine lv_aload_n hx hb dX12_partyNamed_28 rfl (lv_at hl 0 rfl) ?_
          refine gf_X12_151 (v := .long (σ.2.1 0 7)) hC hP kM_0 rfl dX12_partyNamed_29 ?_
          refine W.lcmp hx hb dX12_partyNamed_32 ?_
          refine lv_if_ne (tgt := 42) hx hb dX12_partyNamed_33 (by decide) (fun c9 => ?_) (fun c9 => ?_)
          · replace hf := fx_ie c9 hf
            refine lv_iinc (v := (w3 + 1)) (lv' := [(2, .int (w3 + 1)), (0, .ref (ad 0)), (1, .int a1)]) hx hb dX12_partyNamed_42 hl (k := 2) rfl (congrArg (fun z => w3 + z) ki_1) (by decide) rfl (fun ls hl => ?_)
            refine lv_goto (tgt := 4) hx hb dX12_partyNamed_45 (by decide) ?_
            exact ih4 (w3 + 1) _ _ _ hP hS (lv_sub hl [1, 2, 0] rfl) hf
          · replace hf := fx_it c9 hf
            refine lv_iload_n hx hb dX12_partyNamed_36 rfl (lv_at hl 2 rfl) ?_
            refine lv_iconst hx hb dX12_partyNamed_37 ki_5 ?_
            refine lv_iload_n hx hb dX12_partyNamed_38 rfl (lv_at hl 1 rfl) ?_
            refine lv_imul hx hb dX12_partyNamed_39 ?_
            refine lv_isub hx hb dX12_partyNamed_40 ?_
            exact fx_iretp hf hC hr hk hP hS dX12_partyNamed_41
    exact L10 FU v1 _ _ _ hP hS (lv_sub hl [1, 2, 0] rfl) hf
  exact main _ _ _ hP hS hl

set_option maxHeartbeats 4000000 in
set_option maxRecDepth 100000 in
theorem ctX12_needsNumber (l : Launch) {a1 : Int32} {a2 : Int32} {σ σ' : FH} {v : Int32} (hf : fX12_needsNumber a1 a2 σ = some (v, σ')) : fx_Mi l yX12_needsNumber cX12_needsNumber 3 (some .boolean) (2) LM (fun ad ec => [.ref (ad 0), .int a1, .int a2]) σ v σ' := by
  unfold fX12_needsNumber at hf
  refine fx_mi' (own := RX12) rfl (by decide +kernel) ?_
  intro p e s m args below meth c D cy ad ec A hC hr hk hP hS
  have hx := hC.1
  have hb := hC.2.1
  have hl := lv_entry ([.ref (ad 0), .int a1, .int a2]) (n := 3) (Nat.le_of_ble_eq_true rfl)
  show W _ _ _ _ _ _ _ _ _ _ _ _ _ _ _ (entryFrame m ([.ref (ad 0), .int a1, .int a2] : List Value).toArray 3)
  rw [lg_entry_eq]
  generalize (lg_sl ([.ref (ad 0), .int a1, .int a2]) ++ List.replicate (3 - (lg_sl ([.ref (ad 0), .int a1, .int a2])).length) Slot.unset).toArray = ls at hl ⊢
  have hl : lv_has ls 3 [(0, .ref (ad 0)), (1, .int a1), (2, .int a2)] := hl
  have main : ∀ (H : Heap) (locs : List Loc) (ls : Array Slot), fx_P D cy LM ad σ H → va_S A s.heap H locs → lv_has ls 3 [(0, .ref (ad 0)), (1, .int a1), (2, .int a2)] → W p l e (fx_R (2)) s m args below meth c H locs 0 0 (fx_Qi D cy LM ad A below args s v σ') (F0 m 0 ls []) := by
    intro H locs ls hP hS hl
    refine lv_aload_n hx hb dX12_needsNumber_0 rfl (lv_at hl 0 rfl) ?_
    refine gf_X12_158 (v := .int (σ.1 0 6)) hC hP kM_0 rfl dX12_needsNumber_1 ?_
    refine lv_iconst hx hb dX12_needsNumber_4 ki_2 ?_
    refine lv_icmp_eq (tgt := 14) hx hb dX12_needsNumber_5 (by decide) (fun c1 => ?_) (fun c1 => ?_)
    · replace hf := fx_it c1 hf
      refine lv_aload_n hx hb dX12_needsNumber_14 rfl (lv_at hl 0 rfl) ?_
      refine gf_X12_155 (v := .int (σ.1 0 8)) hC hP kM_0 rfl dX12_needsNumber_15 ?_
      refine lv_iload_n hx hb dX12_needsNumber_18 rfl (lv_at hl 1 rfl) ?_
      refine lv_iload_n hx hb dX12_needsNumber_19 rfl (lv_at hl 2 rfl) ?_
      obtain ⟨r3, hc2, hf⟩ := fxBP_e hf
      refine fx_ci hC hS (fx_runS (As := [.int (σ.1 0 8), .int a1, .int a2]) (rest := []) hC hP hS (ctX12_within l hc2 D cy ad ec _) kMS_X12_253 kC_X12_within hd_X12_within.2 rfl ⟨(Nat.le_of_ble_eq_true rfl), (Nat.le_of_ble_eq_true rfl)⟩ ⟨Nat.le_refl 0, Nat.le_refl 0⟩ hl.1 (Nat.le_of_ble_eq_true rfl) rfl dX12_needsNumber_20) (fun H locs hP hS => ?_)
      refine lv_if_ne (tgt := 32) hx hb dX12_needsNumber_23 (by decide) (fun c5 => ?_) (fun c5 => ?_)
      · replace hf := fx_ie c5 hf
        refine lv_aload_n hx hb dX12_needsNumber_32 rfl (lv_at hl 0 rfl) ?_
        refine lv_aload_n hx hb dX12_needsNumber_33 rfl (lv_at hl 0 rfl) ?_
        refine gf_X12_155 (v := .int (σ.1 0 8)) hC hP kM_0 rfl dX12_needsNumber_34 ?_
        obtain ⟨σ6, eσ6, hf⟩ := fxL_e hf
        refine pf_X12_257 hC hP hS kM_0 dX12_needsNumber_37 (fun H locs hP hS => ?_)
        replace hP := fx_Pe eσ6 hP
        refine lv_aload_n hx hb dX12_needsNumber_40 rfl (lv_at hl 0 rfl) ?_
        obtain ⟨σ9, hc7, hf⟩ := fxBV_e hf
        refine fx_cv hC hS (fx_runV (i := 0) (As := []) (rest := []) hC hP hS (ctX12_nextToken l hc7 D cy ad ec _) kM_0 (by decide) rfl kMV_X12_203 kC_X12_nextToken hd_X12_nextToken rfl ⟨(Nat.le_of_ble_eq_true rfl), (Nat.le_of_ble_eq_true rfl)⟩ ⟨Nat.le_refl 0, Nat.le_refl 0⟩ hl.1 (Nat.le_of_ble_eq_true rfl) rfl dX12_needsNumber_41) (fun H locs hP hS => ?_)
        refine lv_iconst hx hb dX12_needsNumber_44 ki_1 ?_
        exact fx_zretf rfl hf hC hr hk hP hS dX12_needsNumber_45
      · replace hf := fx_it c5 hf
        refine lv_aload_n hx hb dX12_needsNumber_26 rfl (lv_at hl 0 rfl) ?_
        refine lv_iconst hx hb dX12_needsNumber_27 ki_4 ?_
        obtain ⟨r11, σ12, hc10, hf⟩ := fxBI_e hf
        refine fx_ci hC hS (fx_runV (i := 0) (As := [.int 4]) (rest := []) hC hP hS (ctX12_fails l hc10 D cy ad ec _) kM_0 (by decide) rfl kMV_X12_197 kC_X12_fails hd_X12_fails rfl ⟨(Nat.le_of_ble_eq_true rfl), (Nat.le_of_ble_eq_true rfl)⟩ ⟨Nat.le_refl 0, Nat.le_refl 0⟩ hl.1 (Nat.le_of_ble_eq_true rfl) rfl dX12_needsNumber_28) (fun H locs hP hS => ?_)
        obtain ⟨h13, hf⟩ := fxG_e hf
        exact fx_zretf (fx_bon h13) hf hC hr hk hP hS dX12_needsNumber_31
    · replace hf := fx_ie c1 hf
      refine lv_aload_n hx hb dX12_needsNumber_8 rfl (lv_at hl 0 rfl) ?_
      refine lv_iconst hx hb dX12_needsNumber_9 ki_1 ?_
      obtain ⟨r15, σ16, hc14, hf⟩ := fxBI_e hf
      refine fx_ci hC hS (fx_runV (i := 0) (As := [.int 1]) (rest := []) hC hP hS (ctX12_fails l hc14 D cy ad ec _) kM_0 (by decide) rfl kMV_X12_197 kC_X12_fails hd_X12_fails rfl ⟨(Nat.le_of_ble_eq_true rfl), (Nat.le_of_ble_eq_true rfl)⟩ ⟨Nat.le_refl 0, Nat.le_refl 0⟩ hl.1 (Nat.le_of_ble_eq_true rfl) rfl dX12_needsNumber_10) (fun H locs hP hS => ?_)
      obtain ⟨h17, hf⟩ := fxG_e hf
      exact fx_zretf (fx_bon h17) hf hC hr hk hP hS dX12_needsNumber_13
  exact main _ _ _ hP hS hl

set_option maxHeartbeats 4000000 in
set_option maxRecDepth 100000 in
theorem ctX12_needsBoth (l : Launch) {a1 : Int64} {a3 : Int32} {a4 : Int32} {σ σ' : FH} {v : Int32} (hf : fX12_needsBoth a1 a3 a4 σ = some (v, σ')) : fx_Mi l yX12_needsBoth cX12_needsBoth 5 (some .boolean) (3) LM (fun ad ec => [.ref (ad 0), .long a1, .int a3, .int a4]) σ v σ' := by
  unfold fX12_needsBoth at hf
  refine fx_mi' (own := RX12) rfl (by decide +kernel) ?_
  intro p e s m args below meth c D cy ad ec A hC hr hk hP hS
  have hx := hC.1
  have hb := hC.2.1
  have hl := lv_entry ([.ref (ad 0), .long a1, .int a3, .int a4]) (n := 5) (Nat.le_of_ble_eq_true rfl)
  show W _ _ _ _ _ _ _ _ _ _ _ _ _ _ _ (entryFrame m ([.ref (ad 0), .long a1, .int a3, .int a4] : List Value).toArray 5)
  rw [lg_entry_eq]
  generalize (lg_sl ([.ref (ad 0), .long a1, .int a3, .int a4]) ++ List.replicate (5 - (lg_sl ([.ref (ad 0), .long a1, .int a3, .int a4])).length) Slot.unset).toArray = ls at hl ⊢
  have hl : lv_has ls 5 [(0, .ref (ad 0)), (1, .long a1), (3, .int a3), (4, .int a4)] := hl
  have main : ∀ (H : Heap) (locs : List Loc) (ls : Array Slot), fx_P D cy LM ad σ H → va_S A s.heap H locs → lv_has ls 5 [(0, .ref (ad 0)), (1, .long a1), (3, .int a3), (4, .int a4)] → W p l e (fx_R (3)) s m args below meth c H locs 0 0 (fx_Qi D cy LM ad A below args s v σ') (F0 m 0 ls []) := by
    intro H locs ls hP hS hl
    refine lv_aload_n hx hb dX12_needsBoth_0 rfl (lv_at hl 0 rfl) ?_
    refine lv_lload_n hx hb dX12_needsBoth_1 rfl (lv_at hl 1 rfl) ?_
    obtain ⟨r2, hc1, hf⟩ := fxBP_e hf
    refine fx_ci hC hS (fx_runV (i := 0) (As := [.long a1]) (rest := []) hC hP hS (ctX12_isWord l hc1 D cy ad ec _) kM_0 (by decide) rfl kMV_X12_189 kC_X12_isWord hd_X12_isWord rfl ⟨(Nat.le_of_ble_eq_true rfl), (Nat.le_of_ble_eq_true rfl)⟩ ⟨Nat.le_refl 0, Nat.le_refl 0⟩ hl.1 (Nat.le_of_ble_eq_true rfl) rfl dX12_needsBoth_2) (fun H locs hP hS => ?_)
    refine lv_if_ne (tgt := 14) hx hb dX12_needsBoth_5 (by decide) (fun c4 => ?_) (fun c4 => ?_)
    · replace hf := fx_ie c4 hf
      refine lv_aload_n hx hb dX12_needsBoth_14 rfl (lv_at hl 0 rfl) ?_
      obtain ⟨σ7, hc5, hf⟩ := fxBV_e hf
      refine fx_cv hC hS (fx_runV (i := 0) (As := []) (rest := []) hC hP hS (ctX12_nextToken l hc5 D cy ad ec _) kM_0 (by decide) rfl kMV_X12_203 kC_X12_nextToken hd_X12_nextToken rfl ⟨(Nat.le_of_ble_eq_true rfl), (Nat.le_of_ble_eq_true rfl)⟩ ⟨Nat.le_refl 0, Nat.le_refl 0⟩ hl.1 (Nat.le_of_ble_eq_true rfl) rfl dX12_needsBoth_15) (fun H locs hP hS => ?_)
      refine lv_aload_n hx hb dX12_needsBoth_18 rfl (lv_at hl 0 rfl) ?_
      refine lv_iload_n hx hb dX12_needsBoth_19 rfl (lv_at hl 2 rfl) ?_
      refine lv_iload hx hb dX12_needsBoth_20 (lv_at hl 3 rfl) ?_
      obtain ⟨r9, σ10, hc8, hf⟩ := fxBI_e hf
      refine fx_ci hC hS (fx_runV (i := 0) (As := [.int a3, .int a4]) (rest := []) hC hP hS (ctX12_needsNumber l hc8 D cy ad ec _) kM_0 (by decide) rfl kMV_X12_260 kC_X12_needsNumber hd_X12_needsNumber rfl ⟨(Nat.le_of_ble_eq_true rfl), (Nat.le_of_ble_eq_true rfl)⟩ ⟨Nat.le_refl 0, Nat.le_refl 0⟩ hl.1 (Nat.le_of_ble_eq_true rfl) rfl dX12_needsBoth_22) (fun H locs hP hS => ?_)
      obtain ⟨h11, hf⟩ := fxG_e hf
      exact fx_zretf (fx_bon h11) hf hC hr hk hP hS dX12_needsBoth_25
    · replace hf := fx_it c4 hf
      refine lv_aload_n hx hb dX12_needsBoth_8 rfl (lv_at hl 0 rfl) ?_
      refine lv_iconst hx hb dX12_needsBoth_9 ki_1 ?_
      obtain ⟨r13, σ14, hc12, hf⟩ := fxBI_e hf
      refine fx_ci hC hS (fx_runV (i := 0) (As := [.int 1]) (rest := []) hC hP hS (ctX12_fails l hc12 D cy ad ec _) kM_0 (by decide) rfl kMV_X12_197 kC_X12_fails hd_X12_fails rfl ⟨(Nat.le_of_ble_eq_true rfl), (Nat.le_of_ble_eq_true rfl)⟩ ⟨Nat.le_refl 0, Nat.le_refl 0⟩ hl.1 (Nat.le_of_ble_eq_true rfl) rfl dX12_needsBoth_10) (fun H locs hP hS => ?_)
      obtain ⟨h15, hf⟩ := fxG_e hf
      exact fx_zretf (fx_bon h15) hf hC hr hk hP hS dX12_needsBoth_13
  exact main _ _ _ hP hS hl

set_option maxHeartbeats 4000000 in
set_option maxRecDepth 100000 in
theorem ctX12_closes (l : Launch) {σ σ' : FH} {v : Int32} (hf : fX12_closes σ = some (v, σ')) : fx_Mi l yX12_closes cX12_closes 1 (some .boolean) (2) LM (fun ad ec => [.ref (ad 0)]) σ v σ' := by
  unfold fX12_closes at hf
  refine fx_mi' (own := RX12) rfl (by decide +kernel) ?_
  intro p e s m args below meth c D cy ad ec A hC hr hk hP hS
  have hx := hC.1
  have hb := hC.2.1
  have hl := lv_entry ([.ref (ad 0)]) (n := 1) (Nat.le_of_ble_eq_true rfl)
  show W _ _ _ _ _ _ _ _ _ _ _ _ _ _ _ (entryFrame m ([.ref (ad 0)] : List Value).toArray 1)
  rw [lg_entry_eq]
  generalize (lg_sl ([.ref (ad 0)]) ++ List.replicate (1 - (lg_sl ([.ref (ad 0)])).length) Slot.unset).toArray = ls at hl ⊢
  have hl : lv_has ls 1 [(0, .ref (ad 0))] := hl
  have main : ∀ (H : Heap) (locs : List Loc) (ls : Array Slot), fx_P D cy LM ad σ H → va_S A s.heap H locs → lv_has ls 1 [(0, .ref (ad 0))] → W p l e (fx_R (2)) s m args below meth c H locs 0 0 (fx_Qi D cy LM ad A below args s v σ') (F0 m 0 ls []) := by
    intro H locs ls hP hS hl
    refine lv_aload_n hx hb dX12_closes_0 rfl (lv_at hl 0 rfl) ?_
    refine lv_bipush hx hb dX12_closes_1 kb_59 ?_
    obtain ⟨r2, hc1, hf⟩ := fxBP_e hf
    refine fx_ci hC hS (fx_runV (i := 0) (As := [.int 59]) (rest := []) hC hP hS (ctX12_isSign l hc1 D cy ad ec _) kM_0 (by decide) rfl kMV_X12_193 kC_X12_isSign hd_X12_isSign rfl ⟨(Nat.le_of_ble_eq_true rfl), (Nat.le_of_ble_eq_true rfl)⟩ ⟨Nat.le_refl 0, Nat.le_refl 0⟩ hl.1 (Nat.le_of_ble_eq_true rfl) rfl dX12_closes_3) (fun H locs hP hS => ?_)
    refine lv_if_ne (tgt := 15) hx hb dX12_closes_6 (by decide) (fun c4 => ?_) (fun c4 => ?_)
    · replace hf := fx_ie c4 hf
      refine lv_aload_n hx hb dX12_closes_15 rfl (lv_at hl 0 rfl) ?_
      obtain ⟨σ7, hc5, hf⟩ := fxBV_e hf
      refine fx_cv hC hS (fx_runV (i := 0) (As := []) (rest := []) hC hP hS (ctX12_nextToken l hc5 D cy ad ec _) kM_0 (by decide) rfl kMV_X12_203 kC_X12_nextToken hd_X12_nextToken rfl ⟨(Nat.le_of_ble_eq_true rfl), (Nat.le_of_ble_eq_true rfl)⟩ ⟨Nat.le_refl 0, Nat.le_refl 0⟩ hl.1 (Nat.le_of_ble_eq_true rfl) rfl dX12_closes_16) (fun H locs hP hS => ?_)
      refine lv_iconst hx hb dX12_closes_19 ki_1 ?_
      exact fx_zretf rfl hf hC hr hk hP hS dX12_closes_20
    · replace hf := fx_it c4 hf
      refine lv_aload_n hx hb dX12_closes_9 rfl (lv_at hl 0 rfl) ?_
      refine lv_iconst hx hb dX12_closes_10 ki_1 ?_
      obtain ⟨r9, σ10, hc8, hf⟩ := fxBI_e hf
      refine fx_ci hC hS (fx_runV (i := 0) (As := [.int 1]) (rest := []) hC hP hS (ctX12_fails l hc8 D cy ad ec _) kM_0 (by decide) rfl kMV_X12_197 kC_X12_fails hd_X12_fails rfl ⟨(Nat.le_of_ble_eq_true rfl), (Nat.le_of_ble_eq_true rfl)⟩ ⟨Nat.le_refl 0, Nat.le_refl 0⟩ hl.1 (Nat.le_of_ble_eq_true rfl) rfl dX12_closes_11) (fun H locs hP hS => ?_)
      obtain ⟨h11, hf⟩ := fxG_e hf
      exact fx_zretf (fx_bon h11) hf hC hr hk hP hS dX12_closes_14
  exact main _ _ _ hP hS hl

set_option maxHeartbeats 4000000 in
set_option maxRecDepth 100000 in
theorem ctX12_needsNew (l : Launch) {σ σ' : FH} {v : Int32} (hf : fX12_needsNew σ = some (v, σ')) : fx_Mi l yX12_needsNew cX12_needsNew 1 (some .boolean) (2) LM (fun ad ec => [.ref (ad 0)]) σ v σ' := by
  unfold fX12_needsNew at hf
  refine fx_mi' (own := RX12) rfl (by decide +kernel) ?_
  intro p e s m args below meth c D cy ad ec A hC hr hk hP hS
  have hx := hC.1
  have hb := hC.2.1
  have hl := lv_entry ([.ref (ad 0)]) (n := 1) (Nat.le_of_ble_eq_true rfl)
  show W _ _ _ _ _ _ _ _ _ _ _ _ _ _ _ (entryFrame m ([.ref (ad 0)] : List Value).toArray 1)
  rw [lg_entry_eq]
  generalize (lg_sl ([.ref (ad 0)]) ++ List.replicate (1 - (lg_sl ([.ref (ad 0)])).length) Slot.unset).toArray = ls at hl ⊢
  have hl : lv_has ls 1 [(0, .ref (ad 0))] := hl
  have main : ∀ (H : Heap) (locs : List Loc) (ls : Array Slot), fx_P D cy LM ad σ H → va_S A s.heap H locs → lv_has ls 1 [(0, .ref (ad 0))] → W p l e (fx_R (2)) s m args below meth c H locs 0 0 (fx_Qi D cy LM ad A below args s v σ') (F0 m 0 ls []) := by
    intro H locs ls hP hS hl
    refine lv_aload_n hx hb dX12_needsNew_0 rfl (lv_at hl 0 rfl) ?_
    obtain ⟨r2, hc1, hf⟩ := fxBP_e hf
    refine fx_ci hC hS (fx_runV (i := 0) (As := []) (rest := []) hC hP hS (ctX12_isKept l hc1 D cy ad ec _) kM_0 (by decide) rfl kMV_X12_264 kC_X12_isKept hd_X12_isKept rfl ⟨(Nat.le_of_ble_eq_true rfl), (Nat.le_of_ble_eq_true rfl)⟩ ⟨Nat.le_refl 0, Nat.le_refl 0⟩ hl.1 (Nat.le_of_ble_eq_true rfl) rfl dX12_needsNew_1) (fun H locs hP hS => ?_)
    refine lv_if_eq (tgt := 13) hx hb dX12_needsNew_4 (by decide) (fun c4 => ?_) (fun c4 => ?_)
    · replace hf := fx_it c4 hf
      refine lv_aload_n hx hb dX12_needsNew_13 rfl (lv_at hl 0 rfl) ?_
      refine lv_iconst hx hb dX12_needsNew_14 ki_1 ?_
      obtain ⟨r6, hc5, hf⟩ := fxBP_e hf
      refine fx_ci hC hS (fx_runV (i := 0) (As := [.int 1]) (rest := []) hC hP hS (ctX12_wareNamed l hc5 D cy ad ec _) kM_0 (by decide) rfl kMV_X12_268 kC_X12_wareNamed hd_X12_wareNamed rfl ⟨(Nat.le_of_ble_eq_true rfl), (Nat.le_of_ble_eq_true rfl)⟩ ⟨Nat.le_refl 0, Nat.le_refl 0⟩ hl.1 (Nat.le_of_ble_eq_true rfl) rfl dX12_needsNew_15) (fun H locs hP hS => ?_)
      obtain ⟨J8, hJ8, hf⟩ := fxL_e hf
      have j_J8 : ∀  (H : Heap) (locs : List Loc) (ls : Array Slot), fx_P D cy LM ad σ H → va_S A s.heap H locs → lv_has ls 1 [(0, .ref (ad 0))] → J8 = some (v, σ') → W p l e (fx_R (2)) s m args below meth c H locs 0 0 (fx_Qi D cy LM ad A below args s v σ') (F0 m 29 ls []) := by
        intro  H locs ls hP hS hl hf
        replace hf := hJ8.symm.trans hf
        refine lv_aload_n hx hb dX12_needsNew_29 rfl (lv_at hl 0 rfl) ?_
        refine lv_iconst hx hb dX12_needsNew_30 ki_3 ?_
        obtain ⟨r10, σ11, hc9, hf⟩ := fxBI_e hf
        refine fx_ci hC hS (fx_runV (i := 0) (As := [.int 3]) (rest := []) hC hP hS (ctX12_fails l hc9 D cy ad ec _) kM_0 (by decide) rfl kMV_X12_197 kC_X12_fails hd_X12_fails rfl ⟨(Nat.le_of_ble_eq_true rfl), (Nat.le_of_ble_eq_true rfl)⟩ ⟨Nat.le_refl 0, Nat.le_refl 0⟩ hl.1 (Nat.le_of_ble_eq_true rfl) rfl dX12_needsNew_31) (fun H locs hP hS => ?_)
        obtain ⟨h12, hf⟩ := fxG_e hf
        exact fx_zretf (fx_bon h12) hf hC hr hk hP hS dX12_needsNew_34
      refine lv_if_ge (tgt := 29) hx hb dX12_needsNew_18 (by decide) (fun c13 => ?_) (fun c13 => ?_)
      · replace hf := fx_it c13 hf
        exact j_J8  _ _ _ hP hS (lv_sub hl [0] rfl) hf
      · replace hf := fx_ie c13 hf
        refine lv_aload_n hx hb dX12_needsNew_21 rfl (lv_at hl 0 rfl) ?_
        refine lv_iconst hx hb dX12_needsNew_22 ki_1 ?_
        obtain ⟨r15, hc14, hf⟩ := fxBP_e hf
        refine fx_ci hC hS (fx_runV (i := 0) (As := [.int 1]) (rest := []) hC hP hS (ctX12_partyNamed l hc14 D cy ad ec _) kM_0 (by decide) rfl kMV_X12_271 kC_X12_partyNamed hd_X12_partyNamed rfl ⟨(Nat.le_of_ble_eq_true rfl), (Nat.le_of_ble_eq_true rfl)⟩ ⟨Nat.le_refl 0, Nat.le_refl 0⟩ hl.1 (Nat.le_of_ble_eq_true rfl) rfl dX12_needsNew_23) (fun H locs hP hS => ?_)
        refine lv_if_lt (tgt := 35) hx hb dX12_needsNew_26 (by decide) (fun c17 => ?_) (fun c17 => ?_)
        · replace hf := fx_it c17 hf
          refine lv_aload_n hx hb dX12_needsNew_35 rfl (lv_at hl 0 rfl) ?_
          refine lv_aload_n hx hb dX12_needsNew_36 rfl (lv_at hl 0 rfl) ?_
          refine gf_X12_151 (v := .long (σ.2.1 0 7)) hC hP kM_0 rfl dX12_needsNew_37 ?_
          obtain ⟨σ18, eσ18, hf⟩ := fxL_e hf
          refine pf_X12_274 hC hP hS kM_0 dX12_needsNew_40 (fun H locs hP hS => ?_)
          replace hP := fx_Pe eσ18 hP
          refine lv_aload_n hx hb dX12_needsNew_43 rfl (lv_at hl 0 rfl) ?_
          obtain ⟨σ21, hc19, hf⟩ := fxBV_e hf
          refine fx_cv hC hS (fx_runV (i := 0) (As := []) (rest := []) hC hP hS (ctX12_nextToken l hc19 D cy ad ec _) kM_0 (by decide) rfl kMV_X12_203 kC_X12_nextToken hd_X12_nextToken rfl ⟨(Nat.le_of_ble_eq_true rfl), (Nat.le_of_ble_eq_true rfl)⟩ ⟨Nat.le_refl 0, Nat.le_refl 0⟩ hl.1 (Nat.le_of_ble_eq_true rfl) rfl dX12_needsNew_44) (fun H locs hP hS => ?_)
          refine lv_iconst hx hb dX12_needsNew_47 ki_1 ?_
          exact fx_zretf rfl hf hC hr hk hP hS dX12_needsNew_48
        · replace hf := fx_ie c17 hf
          exact j_J8  _ _ _ hP hS (lv_sub hl [0] rfl) hf
    · replace hf := fx_ie c4 hf
      refine lv_aload_n hx hb dX12_needsNew_7 rfl (lv_at hl 0 rfl) ?_
      refine lv_iconst hx hb dX12_needsNew_8 ki_1 ?_
      obtain ⟨r23, σ24, hc22, hf⟩ := fxBI_e hf
      refine fx_ci hC hS (fx_runV (i := 0) (As := [.int 1]) (rest := []) hC hP hS (ctX12_fails l hc22 D cy ad ec _) kM_0 (by decide) rfl kMV_X12_197 kC_X12_fails hd_X12_fails rfl ⟨(Nat.le_of_ble_eq_true rfl), (Nat.le_of_ble_eq_true rfl)⟩ ⟨Nat.le_refl 0, Nat.le_refl 0⟩ hl.1 (Nat.le_of_ble_eq_true rfl) rfl dX12_needsNew_9) (fun H locs hP hS => ?_)
      obtain ⟨h25, hf⟩ := fxG_e hf
      exact fx_zretf (fx_bon h25) hf hC hr hk hP hS dX12_needsNew_12
  exact main _ _ _ hP hS hl

set_option maxHeartbeats 4000000 in
set_option maxRecDepth 100000 in
theorem ctX12_needsWare (l : Launch) {a1 : Int32} {σ σ' : FH} {v : Int32} (hf : fX12_needsWare a1 σ = some (v, σ')) : fx_Mi l yX12_needsWare cX12_needsWare 2 (some .boolean) (1) LM (fun ad ec => [.ref (ad 0), .int a1]) σ v σ' := by
  unfold fX12_needsWare at hf
  refine fx_mi' (own := RX12) rfl (by decide +kernel) ?_
  intro p e s m args below meth c D cy ad ec A hC hr hk hP hS
  have hx := hC.1
  have hb := hC.2.1
  have hl := lv_entry ([.ref (ad 0), .int a1]) (n := 2) (Nat.le_of_ble_eq_true rfl)
  show W _ _ _ _ _ _ _ _ _ _ _ _ _ _ _ (entryFrame m ([.ref (ad 0), .int a1] : List Value).toArray 2)
  rw [lg_entry_eq]
  generalize (lg_sl ([.ref (ad 0), .int a1]) ++ List.replicate (2 - (lg_sl ([.ref (ad 0), .int a1])).length) Slot.unset).toArray = ls at hl ⊢
  have hl : lv_has ls 2 [(0, .ref (ad 0)), (1, .int a1)] := hl
  have main : ∀ (H : Heap) (locs : List Loc) (ls : Array Slot), fx_P D cy LM ad σ H → va_S A s.heap H locs → lv_has ls 2 [(0, .ref (ad 0)), (1, .int a1)] → W p l e (fx_R (1)) s m args below meth c H locs 0 0 (fx_Qi D cy LM ad A below args s v σ') (F0 m 0 ls []) := by
    intro H locs ls hP hS hl
    refine lv_aload_n hx hb dX12_needsWare_0 rfl (lv_at hl 0 rfl) ?_
    obtain ⟨r2, hc1, hf⟩ := fxBP_e hf
    refine fx_ci hC hS (fx_runV (i := 0) (As := []) (rest := []) hC hP hS (ctX12_isKept l hc1 D cy ad ec _) kM_0 (by decide) rfl kMV_X12_264 kC_X12_isKept hd_X12_isKept rfl ⟨(Nat.le_of_ble_eq_true rfl), (Nat.le_of_ble_eq_true rfl)⟩ ⟨Nat.le_refl 0, Nat.le_refl 0⟩ hl.1 (Nat.le_of_ble_eq_true rfl) rfl dX12_needsWare_1) (fun H locs hP hS => ?_)
    refine lv_if_eq (tgt := 13) hx hb dX12_needsWare_4 (by decide) (fun c4 => ?_) (fun c4 => ?_)
    · replace hf := fx_it c4 hf
      refine lv_aload_n hx hb dX12_needsWare_13 rfl (lv_at hl 0 rfl) ?_
      refine lv_aload_n hx hb dX12_needsWare_14 rfl (lv_at hl 0 rfl) ?_
      refine lv_iload_n hx hb dX12_needsWare_15 rfl (lv_at hl 1 rfl) ?_
      obtain ⟨r6, hc5, hf⟩ := fxBP_e hf
      refine fx_ci hC hS (fx_runV (i := 0) (As := [.int a1]) (rest := [.ref (ad 0)]) hC hP hS (ctX12_wareNamed l hc5 D cy ad ec _) kM_0 (by decide) rfl kMV_X12_268 kC_X12_wareNamed hd_X12_wareNamed rfl ⟨(Nat.le_of_ble_eq_true rfl), (Nat.le_of_ble_eq_true rfl)⟩ ⟨Nat.le_refl 0, Nat.le_refl 0⟩ hl.1 (Nat.le_of_ble_eq_true rfl) rfl dX12_needsWare_16) (fun H locs hP hS => ?_)
      obtain ⟨σ8, eσ8, hf⟩ := fxL_e hf
      refine pf_X12_257 hC hP hS kM_0 dX12_needsWare_19 (fun H locs hP hS => ?_)
      replace hP := fx_Pe eσ8 hP
      refine lv_aload_n hx hb dX12_needsWare_22 rfl (lv_at hl 0 rfl) ?_
      refine gf_X12_257 (v := .int (σ8.1 0 35)) hC hP kM_0 rfl dX12_needsWare_23 ?_
      refine lv_if_ge (tgt := 37) hx hb dX12_needsWare_26 (by decide) (fun c9 => ?_) (fun c9 => ?_)
      · replace hf := fx_it c9 hf
        refine lv_iconst hx hb dX12_needsWare_37 ki_1 ?_
        refine lv_goto (tgt := 42) hx hb dX12_needsWare_38 (by decide) ?_
        exact fx_zretf rfl hf hC hr hk hP hS dX12_needsWare_42
      · replace hf := fx_ie c9 hf
        refine lv_aload_n hx hb dX12_needsWare_29 rfl (lv_at hl 0 rfl) ?_
        refine lv_iconst hx hb dX12_needsWare_30 ki_2 ?_
        obtain ⟨r11, σ12, hc10, hf⟩ := fxBI_e hf
        refine fx_ci hC hS (fx_runV (i := 0) (As := [.int 2]) (rest := []) hC hP hS (ctX12_fails l hc10 D cy ad ec _) kM_0 (by decide) rfl kMV_X12_197 kC_X12_fails hd_X12_fails rfl ⟨(Nat.le_of_ble_eq_true rfl), (Nat.le_of_ble_eq_true rfl)⟩ ⟨Nat.le_refl 0, Nat.le_refl 0⟩ hl.1 (Nat.le_of_ble_eq_true rfl) rfl dX12_needsWare_31) (fun H locs hP hS => ?_)
        refine lv_if_eq (tgt := 41) hx hb dX12_needsWare_34 (by decide) (fun c13 => ?_) (fun c13 => ?_)
        · replace hf := fx_it c13 hf
          refine lv_iconst hx hb dX12_needsWare_41 ki_0 ?_
          exact fx_zretf rfl hf hC hr hk hP hS dX12_needsWare_42
        · replace hf := fx_ie c13 hf
          refine lv_iconst hx hb dX12_needsWare_37 ki_1 ?_
          refine lv_goto (tgt := 42) hx hb dX12_needsWare_38 (by decide) ?_
          exact fx_zretf rfl hf hC hr hk hP hS dX12_needsWare_42
    · replace hf := fx_ie c4 hf
      refine lv_aload_n hx hb dX12_needsWare_7 rfl (lv_at hl 0 rfl) ?_
      refine lv_iconst hx hb dX12_needsWare_8 ki_1 ?_
      obtain ⟨r15, σ16, hc14, hf⟩ := fxBI_e hf
      refine fx_ci hC hS (fx_runV (i := 0) (As := [.int 1]) (rest := []) hC hP hS (ctX12_fails l hc14 D cy ad ec _) kM_0 (by decide) rfl kMV_X12_197 kC_X12_fails hd_X12_fails rfl ⟨(Nat.le_of_ble_eq_true rfl), (Nat.le_of_ble_eq_true rfl)⟩ ⟨Nat.le_refl 0, Nat.le_refl 0⟩ hl.1 (Nat.le_of_ble_eq_true rfl) rfl dX12_needsWare_9) (fun H locs hP hS => ?_)
      obtain ⟨h17, hf⟩ := fxG_e hf
      exact fx_zretf (fx_bon h17) hf hC hr hk hP hS dX12_needsWare_12
  exact main _ _ _ hP hS hl

set_option maxHeartbeats 4000000 in
set_option maxRecDepth 100000 in
theorem ctX12_needsParty (l : Launch) {a1 : Int32} {σ σ' : FH} {v : Int32} (hf : fX12_needsParty a1 σ = some (v, σ')) : fx_Mi l yX12_needsParty cX12_needsParty 2 (some .boolean) (1) LM (fun ad ec => [.ref (ad 0), .int a1]) σ v σ' := by
  unfold fX12_needsParty at hf
  refine fx_mi' (own := RX12) rfl (by decide +kernel) ?_
  intro p e s m args below meth c D cy ad ec A hC hr hk hP hS
  have hx := hC.1
  have hb := hC.2.1
  have hl := lv_entry ([.ref (ad 0), .int a1]) (n := 2) (Nat.le_of_ble_eq_true rfl)
  show W _ _ _ _ _ _ _ _ _ _ _ _ _ _ _ (entryFrame m ([.ref (ad 0), .int a1] : List Value).toArray 2)
  rw [lg_entry_eq]
  generalize (lg_sl ([.ref (ad 0), .int a1]) ++ List.replicate (2 - (lg_sl ([.ref (ad 0), .int a1])).length) Slot.unset).toArray = ls at hl ⊢
  have hl : lv_has ls 2 [(0, .ref (ad 0)), (1, .int a1)] := hl
  have main : ∀ (H : Heap) (locs : List Loc) (ls : Array Slot), fx_P D cy LM ad σ H → va_S A s.heap H locs → lv_has ls 2 [(0, .ref (ad 0)), (1, .int a1)] → W p l e (fx_R (1)) s m args below meth c H locs 0 0 (fx_Qi D cy LM ad A below args s v σ') (F0 m 0 ls []) := by
    intro H locs ls hP hS hl
    refine lv_aload_n hx hb dX12_needsParty_0 rfl (lv_at hl 0 rfl) ?_
    obtain ⟨r2, hc1, hf⟩ := fxBP_e hf
    refine fx_ci hC hS (fx_runV (i := 0) (As := []) (rest := []) hC hP hS (ctX12_isKept l hc1 D cy ad ec _) kM_0 (by decide) rfl kMV_X12_264 kC_X12_isKept hd_X12_isKept rfl ⟨(Nat.le_of_ble_eq_true rfl), (Nat.le_of_ble_eq_true rfl)⟩ ⟨Nat.le_refl 0, Nat.le_refl 0⟩ hl.1 (Nat.le_of_ble_eq_true rfl) rfl dX12_needsParty_1) (fun H locs hP hS => ?_)
    refine lv_if_eq (tgt := 13) hx hb dX12_needsParty_4 (by decide) (fun c4 => ?_) (fun c4 => ?_)
    · replace hf := fx_it c4 hf
      refine lv_aload_n hx hb dX12_needsParty_13 rfl (lv_at hl 0 rfl) ?_
      refine lv_aload_n hx hb dX12_needsParty_14 rfl (lv_at hl 0 rfl) ?_
      refine lv_iload_n hx hb dX12_needsParty_15 rfl (lv_at hl 1 rfl) ?_
      obtain ⟨r6, hc5, hf⟩ := fxBP_e hf
      refine fx_ci hC hS (fx_runV (i := 0) (As := [.int a1]) (rest := [.ref (ad 0)]) hC hP hS (ctX12_partyNamed l hc5 D cy ad ec _) kM_0 (by decide) rfl kMV_X12_271 kC_X12_partyNamed hd_X12_partyNamed rfl ⟨(Nat.le_of_ble_eq_true rfl), (Nat.le_of_ble_eq_true rfl)⟩ ⟨Nat.le_refl 0, Nat.le_refl 0⟩ hl.1 (Nat.le_of_ble_eq_true rfl) rfl dX12_needsParty_16) (fun H locs hP hS => ?_)
      obtain ⟨σ8, eσ8, hf⟩ := fxL_e hf
      refine pf_X12_257 hC hP hS kM_0 dX12_needsParty_19 (fun H locs hP hS => ?_)
      replace hP := fx_Pe eσ8 hP
      refine lv_aload_n hx hb dX12_needsParty_22 rfl (lv_at hl 0 rfl) ?_
      refine gf_X12_257 (v := .int (σ8.1 0 35)) hC hP kM_0 rfl dX12_needsParty_23 ?_
      refine lv_if_ge (tgt := 37) hx hb dX12_needsParty_26 (by decide) (fun c9 => ?_) (fun c9 => ?_)
      · replace hf := fx_it c9 hf
        refine lv_iconst hx hb dX12_needsParty_37 ki_1 ?_
        refine lv_goto (tgt := 42) hx hb dX12_needsParty_38 (by decide) ?_
        exact fx_zretf rfl hf hC hr hk hP hS dX12_needsParty_42
      · replace hf := fx_ie c9 hf
        refine lv_aload_n hx hb dX12_needsParty_29 rfl (lv_at hl 0 rfl) ?_
        refine lv_iconst hx hb dX12_needsParty_30 ki_2 ?_
        obtain ⟨r11, σ12, hc10, hf⟩ := fxBI_e hf
        refine fx_ci hC hS (fx_runV (i := 0) (As := [.int 2]) (rest := []) hC hP hS (ctX12_fails l hc10 D cy ad ec _) kM_0 (by decide) rfl kMV_X12_197 kC_X12_fails hd_X12_fails rfl ⟨(Nat.le_of_ble_eq_true rfl), (Nat.le_of_ble_eq_true rfl)⟩ ⟨Nat.le_refl 0, Nat.le_refl 0⟩ hl.1 (Nat.le_of_ble_eq_true rfl) rfl dX12_needsParty_31) (fun H locs hP hS => ?_)
        refine lv_if_eq (tgt := 41) hx hb dX12_needsParty_34 (by decide) (fun c13 => ?_) (fun c13 => ?_)
        · replace hf := fx_it c13 hf
          refine lv_iconst hx hb dX12_needsParty_41 ki_0 ?_
          exact fx_zretf rfl hf hC hr hk hP hS dX12_needsParty_42
        · replace hf := fx_ie c13 hf
          refine lv_iconst hx hb dX12_needsParty_37 ki_1 ?_
          refine lv_goto (tgt := 42) hx hb dX12_needsParty_38 (by decide) ?_
          exact fx_zretf rfl hf hC hr hk hP hS dX12_needsParty_42
    · replace hf := fx_ie c4 hf
      refine lv_aload_n hx hb dX12_needsParty_7 rfl (lv_at hl 0 rfl) ?_
      refine lv_iconst hx hb dX12_needsParty_8 ki_1 ?_
      obtain ⟨r15, σ16, hc14, hf⟩ := fxBI_e hf
      refine fx_ci hC hS (fx_runV (i := 0) (As := [.int 1]) (rest := []) hC hP hS (ctX12_fails l hc14 D cy ad ec _) kM_0 (by decide) rfl kMV_X12_197 kC_X12_fails hd_X12_fails rfl ⟨(Nat.le_of_ble_eq_true rfl), (Nat.le_of_ble_eq_true rfl)⟩ ⟨Nat.le_refl 0, Nat.le_refl 0⟩ hl.1 (Nat.le_of_ble_eq_true rfl) rfl dX12_needsParty_9) (fun H locs hP hS => ?_)
      obtain ⟨h17, hf⟩ := fxG_e hf
      exact fx_zretf (fx_bon h17) hf hC hr hk hP hS dX12_needsParty_12
  exact main _ _ _ hP hS hl

set_option maxHeartbeats 4000000 in
set_option maxRecDepth 100000 in
theorem ctX12_readsWare (l : Launch) {σ σ' : FH} {v : Int32} (hf : fX12_readsWare σ = some (v, σ')) : fx_Mi l yX12_readsWare cX12_readsWare 2 (some .boolean) (4) LM (fun ad ec => [.ref (ad 0)]) σ v σ' := by
  unfold fX12_readsWare at hf
  refine fx_mi' (own := RX12) rfl (by decide +kernel) ?_
  intro p e s m args below meth c D cy ad ec A hC hr hk hP hS
  have hx := hC.1
  have hb := hC.2.1
  have hl := lv_entry ([.ref (ad 0)]) (n := 2) (Nat.le_of_ble_eq_true rfl)
  show W _ _ _ _ _ _ _ _ _ _ _ _ _ _ _ (entryFrame m ([.ref (ad 0)] : List Value).toArray 2)
  rw [lg_entry_eq]
  generalize (lg_sl ([.ref (ad 0)]) ++ List.replicate (2 - (lg_sl ([.ref (ad 0)])).length) Slot.unset).toArray = ls at hl ⊢
  have hl : lv_has ls 2 [(0, .ref (ad 0))] := hl
  have main : ∀ (H : Heap) (locs : List Loc) (ls : Array Slot), fx_P D cy LM ad σ H → va_S A s.heap H locs → lv_has ls 2 [(0, .ref (ad 0))] → W p l e (fx_R (4)) s m args below meth c H locs 0 0 (fx_Qi D cy LM ad A below args s v σ') (F0 m 0 ls []) := by
    intro H locs ls hP hS hl
    refine lv_bipush hx hb dX12_readsWare_0 kb_6 ?_
    refine lv_aload_n hx hb dX12_readsWare_2 rfl (lv_at hl 0 rfl) ?_
    refine gf_X12_13 (v := .ref (ad 2)) hC hP kM_0 rfl dX12_readsWare_3 ?_
    refine lv_iconst hx hb dX12_readsWare_6 ki_3 ?_
    obtain ⟨h1, hf⟩ := fxG_e hf
    refine fx_iald hC hP kM_2 (fx_inp h1) dX12_readsWare_7 ?_
    refine lv_iadd hx hb dX12_readsWare_8 ?_
    obtain ⟨v2, ev2, hf⟩ := fxL_e hf
    refine fx_ti ev2 ?_
    refine lv_istore_n (lv' := [(1, .int v2), (0, .ref (ad 0))]) hx hb dX12_readsWare_9 rfl hl (by decide) rfl (fun ls hl => ?_)
    refine lv_iload_n hx hb dX12_readsWare_10 rfl (lv_at hl 0 rfl) ?_
    refine lv_bipush hx hb dX12_readsWare_11 kb_12 ?_
    refine lv_icmp_ne (tgt := 22) hx hb dX12_readsWare_13 (by decide) (fun c3 => ?_) (fun c3 => ?_)
    · replace hf := fx_ie c3 hf
      refine lv_aload_n hx hb dX12_readsWare_22 rfl (lv_at hl 1 rfl) ?_
      obtain ⟨σ6, hc4, hf⟩ := fxBV_e hf
      refine fx_cv hC hS (fx_runV (i := 0) (As := []) (rest := []) hC hP hS (ctX12_nextToken l hc4 D cy ad ec _) kM_0 (by decide) rfl kMV_X12_203 kC_X12_nextToken hd_X12_nextToken rfl ⟨(Nat.le_of_ble_eq_true rfl), (Nat.le_of_ble_eq_true rfl)⟩ ⟨Nat.le_refl 0, Nat.le_refl 0⟩ hl.1 (Nat.le_of_ble_eq_true rfl) rfl dX12_readsWare_23) (fun H locs hP hS => ?_)
      refine lv_aload_n hx hb dX12_readsWare_26 rfl (lv_at hl 1 rfl) ?_
      obtain ⟨r8, σ9, hc7, hf⟩ := fxBI_e hf
      refine fx_ci hC hS (fx_runV (i := 0) (As := []) (rest := []) hC hP hS (ctX12_needsNew l hc7 D cy ad ec _) kM_0 (by decide) rfl kMV_X12_277 kC_X12_needsNew hd_X12_needsNew rfl ⟨(Nat.le_of_ble_eq_true rfl), (Nat.le_of_ble_eq_true rfl)⟩ ⟨Nat.le_refl 0, Nat.le_refl 0⟩ hl.1 (Nat.le_of_ble_eq_true rfl) rfl dX12_readsWare_27) (fun H locs hP hS => ?_)
      refine lv_if_ne (tgt := 35) hx hb dX12_readsWare_30 (by decide) (fun c10 => ?_) (fun c10 => ?_)
      · replace hf := fx_ie c10 hf
        refine lv_aload_n hx hb dX12_readsWare_35 rfl (lv_at hl 1 rfl) ?_
        refine gf_X12_23 (v := .ref (ad 5)) hC hP kM_0 rfl dX12_readsWare_36 ?_
        refine lv_iload_n hx hb dX12_readsWare_39 rfl (lv_at hl 0 rfl) ?_
        refine lv_aload_n hx hb dX12_readsWare_40 rfl (lv_at hl 1 rfl) ?_
        refine lv_ldc2 (own := RX12) (v := 8740238) hx hb hC.2.2.2.1 (hC.2.2.2.2.1 _ kK_X12_245) dX12_readsWare_41 ?_
        obtain ⟨r12, hc11, hf⟩ := fxBP_e hf
        refine fx_ci hC hS (fx_runV (i := 0) (As := [.long 8740238]) (rest := [.int v2, .ref (ad 5)]) hC hP hS (ctX12_isWord l hc11 D cy ad ec _) kM_0 (by decide) rfl kMV_X12_189 kC_X12_isWord hd_X12_isWord rfl ⟨(Nat.le_of_ble_eq_true rfl), (Nat.le_of_ble_eq_true rfl)⟩ ⟨Nat.le_refl 0, Nat.le_refl 0⟩ hl.1 (Nat.le_of_ble_eq_true rfl) rfl dX12_readsWare_44) (fun H locs hP hS => ?_)
        obtain ⟨J14, hJ14, hf⟩ := fxL_e hf
        have j_J14 : ∀ (y15 : Int32) (H : Heap) (locs : List Loc) (ls : Array Slot), fx_P D cy LM ad σ9 H → va_S A s.heap H locs → lv_has ls 2 [(0, .ref (ad 0)), (1, .int v2)] → J14 y15 = some (v, σ') → W p l e (fx_R (4)) s m args below meth c H locs 0 0 (fx_Qi D cy LM ad A below args s v σ') (F0 m 97 ls [.int y15, .int v2, .ref (ad 5)]) := by
          intro y15 H locs ls hP hS hl hf
          replace hf := fxk1 hJ14 hf
          obtain ⟨h16, hf⟩ := fxG_e hf
          obtain ⟨σ17, eσ17, hf⟩ := fxL_e hf
          refine fx_iast hC hP hS kM_5 (fx_inp h16) dX12_readsWare_97 (fun H locs hP hS => ?_)
          replace hP := fx_Pe eσ17 hP
          refine lv_aload_n hx hb dX12_readsWare_98 rfl (lv_at hl 0 rfl) ?_
          refine gf_X12_23 (v := .ref (ad 5)) hC hP kM_0 rfl dX12_readsWare_99 ?_
          refine lv_iload_n hx hb dX12_readsWare_102 rfl (lv_at hl 1 rfl) ?_
          obtain ⟨h18, hf⟩ := fxG_e hf
          refine fx_iald hC hP kM_5 (fx_inp h18) dX12_readsWare_103 ?_
          refine lv_if_ge (tgt := 113) hx hb dX12_readsWare_104 (by decide) (fun c19 => ?_) (fun c19 => ?_)
          · replace hf := fx_it c19 hf
            refine lv_aload_n hx hb dX12_readsWare_113 rfl (lv_at hl 0 rfl) ?_
            obtain ⟨σ22, hc20, hf⟩ := fxBV_e hf
            refine fx_cv hC hS (fx_runV (i := 0) (As := []) (rest := []) hC hP hS (ctX12_nextToken l hc20 D cy ad ec _) kM_0 (by decide) rfl kMV_X12_203 kC_X12_nextToken hd_X12_nextToken rfl ⟨(Nat.le_of_ble_eq_true rfl), (Nat.le_of_ble_eq_true rfl)⟩ ⟨Nat.le_refl 0, Nat.le_refl 0⟩ hl.1 (Nat.le_of_ble_eq_true rfl) rfl dX12_readsWare_114) (fun H locs hP hS => ?_)
            refine lv_aload_n hx hb dX12_readsWare_117 rfl (lv_at hl 0 rfl) ?_
            refine lv_ldc2 (own := RX12) (v := 12391871) hx hb hC.2.2.2.1 (hC.2.2.2.2.1 _ kK_X12_221) dX12_readsWare_118 ?_
            refine lv_iconst hx hb dX12_readsWare_121 ki_2 ?_
            refine lv_bipush hx hb dX12_readsWare_122 kb_60 ?_
            obtain ⟨r24, σ25, hc23, hf⟩ := fxBI_e hf
            refine fx_ci hC hS (fx_runV (i := 0) (As := [.long 12391871, .int 2, .int 60]) (rest := []) hC hP hS (ctX12_needsBoth l hc23 D cy ad ec _) kM_0 (by decide) rfl kMV_X12_280 kC_X12_needsBoth hd_X12_needsBoth rfl ⟨(Nat.le_of_ble_eq_true rfl), (Nat.le_of_ble_eq_true rfl)⟩ ⟨Nat.le_refl 0, Nat.le_refl 0⟩ hl.1 (Nat.le_of_ble_eq_true rfl) rfl dX12_readsWare_124) (fun H locs hP hS => ?_)
            refine lv_if_ne (tgt := 132) hx hb dX12_readsWare_127 (by decide) (fun c26 => ?_) (fun c26 => ?_)
            · replace hf := fx_ie c26 hf
              refine lv_aload_n hx hb dX12_readsWare_132 rfl (lv_at hl 0 rfl) ?_
              refine gf_X12_26 (v := .ref (ad 6)) hC hP kM_0 rfl dX12_readsWare_133 ?_
              refine lv_iload_n hx hb dX12_readsWare_136 rfl (lv_at hl 1 rfl) ?_
              refine lv_aload_n hx hb dX12_readsWare_137 rfl (lv_at hl 0 rfl) ?_
              refine gf_X12_257 (v := .int (σ25.1 0 35)) hC hP kM_0 rfl dX12_readsWare_138 ?_
              obtain ⟨h27, hf⟩ := fxG_e hf
              obtain ⟨σ28, eσ28, hf⟩ := fxL_e hf
              refine fx_iast hC hP hS kM_6 (fx_inp h27) dX12_readsWare_141 (fun H locs hP hS => ?_)
              replace hP := fx_Pe eσ28 hP
              refine lv_aload_n hx hb dX12_readsWare_142 rfl (lv_at hl 0 rfl) ?_
              refine lv_ldc2 (own := RX12) (v := 90050) hx hb hC.2.2.2.1 (hC.2.2.2.2.1 _ kK_X12_223) dX12_readsWare_143 ?_
              refine lv_iconst hx hb dX12_readsWare_146 ki_0 ?_
              refine lv_bipush hx hb dX12_readsWare_147 kb_30 ?_
              obtain ⟨r30, σ31, hc29, hf⟩ := fxBI_e hf
              refine fx_ci hC hS (fx_runV (i := 0) (As := [.long 90050, .int 0, .int 30]) (rest := []) hC hP hS (ctX12_needsBoth l hc29 D cy ad ec _) kM_0 (by decide) rfl kMV_X12_280 kC_X12_needsBoth hd_X12_needsBoth rfl ⟨(Nat.le_of_ble_eq_true rfl), (Nat.le_of_ble_eq_true rfl)⟩ ⟨Nat.le_refl 0, Nat.le_refl 0⟩ hl.1 (Nat.le_of_ble_eq_true rfl) rfl dX12_readsWare_149) (fun H locs hP hS => ?_)
              refine lv_if_ne (tgt := 157) hx hb dX12_readsWare_152 (by decide) (fun c32 => ?_) (fun c32 => ?_)
              · replace hf := fx_ie c32 hf
                refine lv_aload_n hx hb dX12_readsWare_157 rfl (lv_at hl 0 rfl) ?_
                refine gf_X12_29 (v := .ref (ad 7)) hC hP kM_0 rfl dX12_readsWare_158 ?_
                refine lv_iload_n hx hb dX12_readsWare_161 rfl (lv_at hl 1 rfl) ?_
                refine lv_aload_n hx hb dX12_readsWare_162 rfl (lv_at hl 0 rfl) ?_
                refine gf_X12_257 (v := .int (σ31.1 0 35)) hC hP kM_0 rfl dX12_readsWare_163 ?_
                refine lv_aload_n hx hb dX12_readsWare_166 rfl (lv_at hl 0 rfl) ?_
                refine gf_X12_26 (v := .ref (ad 6)) hC hP kM_0 rfl dX12_readsWare_167 ?_
                refine lv_iload_n hx hb dX12_readsWare_170 rfl (lv_at hl 1 rfl) ?_
                obtain ⟨h33, hf⟩ := fxG_e hf
                refine fx_iald hC hP kM_6 (fx_inp h33) dX12_readsWare_171 ?_
                refine lv_iconst hx hb dX12_readsWare_172 ki_2 ?_
                refine lv_idiv hx hb dX12_readsWare_173 (by decide) ?_
                refine fx_min hC hl.1 kL_X12_284 kMt_min kMi kMc_min (Nat.le_of_ble_eq_true rfl) (Nat.le_of_ble_eq_true rfl) ⟨Nat.le_refl 0, Nat.le_refl 0⟩ dX12_readsWare_174 ?_
                obtain ⟨h34, hf⟩ := fxG_e hf
                obtain ⟨σ35, eσ35, hf⟩ := fxL_e hf
                refine fx_iast hC hP hS kM_7 (fx_inp h34) dX12_readsWare_177 (fun H locs hP hS => ?_)
                replace hP := fx_Pe eσ35 hP
                refine lv_aload_n hx hb dX12_readsWare_178 rfl (lv_at hl 0 rfl) ?_
                refine gf_X12_16 (v := .ref (ad 3)) hC hP kM_0 rfl dX12_readsWare_179 ?_
                refine lv_iload_n hx hb dX12_readsWare_182 rfl (lv_at hl 1 rfl) ?_
                refine lv_aload_n hx hb dX12_readsWare_183 rfl (lv_at hl 0 rfl) ?_
                refine gf_X12_274 (v := .long (σ35.2.1 0 36)) hC hP kM_0 rfl dX12_readsWare_184 ?_
                obtain ⟨h36, hf⟩ := fxG_e hf
                obtain ⟨σ37, eσ37, hf⟩ := fxL_e hf
                refine fx_last hC hP hS kM_3 (fx_inp h36) dX12_readsWare_187 (fun H locs hP hS => ?_)
                replace hP := fx_Pe eσ37 hP
                refine lv_aload_n hx hb dX12_readsWare_188 rfl (lv_at hl 0 rfl) ?_
                refine gf_X12_13 (v := .ref (ad 2)) hC hP kM_0 rfl dX12_readsWare_189 ?_
                refine lv_iconst hx hb dX12_readsWare_192 ki_3 ?_
                refine lv_dup2_11 hx hb dX12_readsWare_193 rfl rfl ?_
                obtain ⟨h38, hf⟩ := fxG_e hf
                refine fx_iald hC hP kM_2 (fx_inp h38) dX12_readsWare_194 ?_
                refine lv_iconst hx hb dX12_readsWare_195 ki_1 ?_
                refine lv_iadd hx hb dX12_readsWare_196 ?_
                obtain ⟨h39, hf⟩ := fxG_e hf
                obtain ⟨σ40, eσ40, hf⟩ := fxL_e hf
                refine fx_iast hC hP hS kM_2 (fx_inp h39) dX12_readsWare_197 (fun H locs hP hS => ?_)
                replace hP := fx_Pe eσ40 hP
                refine lv_aload_n hx hb dX12_readsWare_198 rfl (lv_at hl 0 rfl) ?_
                obtain ⟨r42, σ43, hc41, hf⟩ := fxBI_e hf
                refine fx_ci hC hS (fx_runV (i := 0) (As := []) (rest := []) hC hP hS (ctX12_closes l hc41 D cy ad ec _) kM_0 (by decide) rfl kMV_X12_290 kC_X12_closes hd_X12_closes rfl ⟨(Nat.le_of_ble_eq_true rfl), (Nat.le_of_ble_eq_true rfl)⟩ ⟨Nat.le_refl 0, Nat.le_refl 0⟩ hl.1 (Nat.le_of_ble_eq_true rfl) rfl dX12_readsWare_199) (fun H locs hP hS => ?_)
                obtain ⟨h44, hf⟩ := fxG_e hf
                exact fx_zretf (fx_bon h44) hf hC hr hk hP hS dX12_readsWare_202
              · replace hf := fx_it c32 hf
                refine lv_iconst hx hb dX12_readsWare_155 ki_0 ?_
                exact fx_zretf rfl hf hC hr hk hP hS dX12_readsWare_156
            · replace hf := fx_it c26 hf
              refine lv_iconst hx hb dX12_readsWare_130 ki_0 ?_
              exact fx_zretf rfl hf hC hr hk hP hS dX12_readsWare_131
          · replace hf := fx_ie c19 hf
            refine lv_aload_n hx hb dX12_readsWare_107 rfl (lv_at hl 0 rfl) ?_
            refine lv_iconst hx hb dX12_readsWare_108 ki_1 ?_
            obtain ⟨r46, σ47, hc45, hf⟩ := fxBI_e hf
            refine fx_ci hC hS (fx_runV (i := 0) (As := [.int 1]) (rest := []) hC hP hS (ctX12_fails l hc45 D cy ad ec _) kM_0 (by decide) rfl kMV_X12_197 kC_X12_fails hd_X12_fails rfl ⟨(Nat.le_of_ble_eq_true rfl), (Nat.le_of_ble_eq_true rfl)⟩ ⟨Nat.le_refl 0, Nat.le_refl 0⟩ hl.1 (Nat.le_of_ble_eq_true rfl) rfl dX12_readsWare_109) (fun H locs hP hS => ?_)
            obtain ⟨h48, hf⟩ := fxG_e hf
            exact fx_zretf (fx_bon h48) hf hC hr hk hP hS dX12_readsWare_112
        refine lv_if_eq (tgt := 54) hx hb dX12_readsWare_47 (by decide) (fun c49 => ?_) (fun c49 => ?_)
        · replace hf := fx_it c49 hf
          refine lv_aload_n hx hb dX12_readsWare_54 rfl (lv_at hl 1 rfl) ?_
          refine lv_ldc2 (own := RX12) (v := 38444009) hx hb hC.2.2.2.1 (hC.2.2.2.2.1 _ kK_X12_247) dX12_readsWare_55 ?_
          obtain ⟨r51, hc50, hf⟩ := fxBP_e hf
          refine fx_ci hC hS (fx_runV (i := 0) (As := [.long 38444009]) (rest := [.int v2, .ref (ad 5)]) hC hP hS (ctX12_isWord l hc50 D cy ad ec _) kM_0 (by decide) rfl kMV_X12_189 kC_X12_isWord hd_X12_isWord rfl ⟨(Nat.le_of_ble_eq_true rfl), (Nat.le_of_ble_eq_true rfl)⟩ ⟨Nat.le_refl 0, Nat.le_refl 0⟩ hl.1 (Nat.le_of_ble_eq_true rfl) rfl dX12_readsWare_58) (fun H locs hP hS => ?_)
          refine lv_if_eq (tgt := 68) hx hb dX12_readsWare_61 (by decide) (fun c53 => ?_) (fun c53 => ?_)
          · replace hf := fx_it c53 hf
            refine lv_aload_n hx hb dX12_readsWare_68 rfl (lv_at hl 1 rfl) ?_
            refine lv_ldc2 (own := RX12) (v := 175252482) hx hb hC.2.2.2.1 (hC.2.2.2.2.1 _ kK_X12_249) dX12_readsWare_69 ?_
            obtain ⟨r55, hc54, hf⟩ := fxBP_e hf
            refine fx_ci hC hS (fx_runV (i := 0) (As := [.long 175252482]) (rest := [.int v2, .ref (ad 5)]) hC hP hS (ctX12_isWord l hc54 D cy ad ec _) kM_0 (by decide) rfl kMV_X12_189 kC_X12_isWord hd_X12_isWord rfl ⟨(Nat.le_of_ble_eq_true rfl), (Nat.le_of_ble_eq_true rfl)⟩ ⟨Nat.le_refl 0, Nat.le_refl 0⟩ hl.1 (Nat.le_of_ble_eq_true rfl) rfl dX12_readsWare_72) (fun H locs hP hS => ?_)
            refine lv_if_eq (tgt := 82) hx hb dX12_readsWare_75 (by decide) (fun c57 => ?_) (fun c57 => ?_)
            · replace hf := fx_it c57 hf
              refine lv_aload_n hx hb dX12_readsWare_82 rfl (lv_at hl 1 rfl) ?_
              refine lv_ldc2 (own := RX12) (v := 1841546) hx hb hC.2.2.2.1 (hC.2.2.2.2.1 _ kK_X12_251) dX12_readsWare_83 ?_
              obtain ⟨r59, hc58, hf⟩ := fxBP_e hf
              refine fx_ci hC hS (fx_runV (i := 0) (As := [.long 1841546]) (rest := [.int v2, .ref (ad 5)]) hC hP hS (ctX12_isWord l hc58 D cy ad ec _) kM_0 (by decide) rfl kMV_X12_189 kC_X12_isWord hd_X12_isWord rfl ⟨(Nat.le_of_ble_eq_true rfl), (Nat.le_of_ble_eq_true rfl)⟩ ⟨Nat.le_refl 0, Nat.le_refl 0⟩ hl.1 (Nat.le_of_ble_eq_true rfl) rfl dX12_readsWare_86) (fun H locs hP hS => ?_)
              refine lv_if_eq (tgt := 96) hx hb dX12_readsWare_89 (by decide) (fun c61 => ?_) (fun c61 => ?_)
              · replace hf := fx_it c61 hf
                refine lv_iconst hx hb dX12_readsWare_96 ki_m1 ?_
                exact j_J14 (-1) _ _ _ hP hS (lv_sub hl [1, 0] rfl) hf
              · replace hf := fx_ie c61 hf
                refine lv_iconst hx hb dX12_readsWare_92 ki_3 ?_
                refine lv_goto (tgt := 97) hx hb dX12_readsWare_93 (by decide) ?_
                exact j_J14 3 _ _ _ hP hS (lv_sub hl [1, 0] rfl) hf
            · replace hf := fx_ie c57 hf
              refine lv_iconst hx hb dX12_readsWare_78 ki_2 ?_
              refine lv_goto (tgt := 97) hx hb dX12_readsWare_79 (by decide) ?_
              exact j_J14 2 _ _ _ hP hS (lv_sub hl [1, 0] rfl) hf
          · replace hf := fx_ie c53 hf
            refine lv_iconst hx hb dX12_readsWare_64 ki_1 ?_
            refine lv_goto (tgt := 97) hx hb dX12_readsWare_65 (by decide) ?_
            exact j_J14 1 _ _ _ hP hS (lv_sub hl [1, 0] rfl) hf
        · replace hf := fx_ie c49 hf
          refine lv_iconst hx hb dX12_readsWare_50 ki_0 ?_
          refine lv_goto (tgt := 97) hx hb dX12_readsWare_51 (by decide) ?_
          exact j_J14 0 _ _ _ hP hS (lv_sub hl [1, 0] rfl) hf
      · replace hf := fx_it c10 hf
        refine lv_iconst hx hb dX12_readsWare_33 ki_0 ?_
        exact fx_zretf rfl hf hC hr hk hP hS dX12_readsWare_34
    · replace hf := fx_it c3 hf
      refine lv_aload_n hx hb dX12_readsWare_16 rfl (lv_at hl 1 rfl) ?_
      refine lv_iconst hx hb dX12_readsWare_17 ki_5 ?_
      obtain ⟨r63, σ64, hc62, hf⟩ := fxBI_e hf
      refine fx_ci hC hS (fx_runV (i := 0) (As := [.int 5]) (rest := []) hC hP hS (ctX12_fails l hc62 D cy ad ec _) kM_0 (by decide) rfl kMV_X12_197 kC_X12_fails hd_X12_fails rfl ⟨(Nat.le_of_ble_eq_true rfl), (Nat.le_of_ble_eq_true rfl)⟩ ⟨Nat.le_refl 0, Nat.le_refl 0⟩ hl.1 (Nat.le_of_ble_eq_true rfl) rfl dX12_readsWare_18) (fun H locs hP hS => ?_)
      obtain ⟨h65, hf⟩ := fxG_e hf
      exact fx_zretf (fx_bon h65) hf hC hr hk hP hS dX12_readsWare_21
  exact main _ _ _ hP hS hl

set_option maxHeartbeats 4000000 in
set_option maxRecDepth 100000 in
theorem ctX12_readsParty (l : Launch) {σ σ' : FH} {v : Int32} (hf : fX12_readsParty σ = some (v, σ')) : fx_Mi l yX12_readsParty cX12_readsParty 2 (some .boolean) (4) LM (fun ad ec => [.ref (ad 0)]) σ v σ' := by
  unfold fX12_readsParty at hf
  refine fx_mi' (own := RX12) rfl (by decide +kernel) ?_
  intro p e s m args below meth c D cy ad ec A hC hr hk hP hS
  have hx := hC.1
  have hb := hC.2.1
  have hl := lv_entry ([.ref (ad 0)]) (n := 2) (Nat.le_of_ble_eq_true rfl)
  show W _ _ _ _ _ _ _ _ _ _ _ _ _ _ _ (entryFrame m ([.ref (ad 0)] : List Value).toArray 2)
  rw [lg_entry_eq]
  generalize (lg_sl ([.ref (ad 0)]) ++ List.replicate (2 - (lg_sl ([.ref (ad 0)])).length) Slot.unset).toArray = ls at hl ⊢
  have hl : lv_has ls 2 [(0, .ref (ad 0))] := hl
  have main : ∀ (H : Heap) (locs : List Loc) (ls : Array Slot), fx_P D cy LM ad σ H → va_S A s.heap H locs → lv_has ls 2 [(0, .ref (ad 0))] → W p l e (fx_R (4)) s m args below meth c H locs 0 0 (fx_Qi D cy LM ad A below args s v σ') (F0 m 0 ls []) := by
    intro H locs ls hP hS hl
    refine lv_iconst hx hb dX12_readsParty_0 ki_5 ?_
    refine lv_aload_n hx hb dX12_readsParty_1 rfl (lv_at hl 0 rfl) ?_
    refine gf_X12_13 (v := .ref (ad 2)) hC hP kM_0 rfl dX12_readsParty_2 ?_
    refine lv_iconst hx hb dX12_readsParty_5 ki_4 ?_
    obtain ⟨h1, hf⟩ := fxG_e hf
    refine fx_iald hC hP kM_2 (fx_inp h1) dX12_readsParty_6 ?_
    refine lv_iadd hx hb dX12_readsParty_7 ?_
    obtain ⟨v2, ev2, hf⟩ := fxL_e hf
    refine fx_ti ev2 ?_
    refine lv_istore_n (lv' := [(1, .int v2), (0, .ref (ad 0))]) hx hb dX12_readsParty_8 rfl hl (by decide) rfl (fun ls hl => ?_)
    refine lv_iload_n hx hb dX12_readsParty_9 rfl (lv_at hl 0 rfl) ?_
    refine lv_bipush hx hb dX12_readsParty_10 kb_10 ?_
    refine lv_icmp_ne (tgt := 21) hx hb dX12_readsParty_12 (by decide) (fun c3 => ?_) (fun c3 => ?_)
    · replace hf := fx_ie c3 hf
      refine lv_aload_n hx hb dX12_readsParty_21 rfl (lv_at hl 1 rfl) ?_
      obtain ⟨σ6, hc4, hf⟩ := fxBV_e hf
      refine fx_cv hC hS (fx_runV (i := 0) (As := []) (rest := []) hC hP hS (ctX12_nextToken l hc4 D cy ad ec _) kM_0 (by decide) rfl kMV_X12_203 kC_X12_nextToken hd_X12_nextToken rfl ⟨(Nat.le_of_ble_eq_true rfl), (Nat.le_of_ble_eq_true rfl)⟩ ⟨Nat.le_refl 0, Nat.le_refl 0⟩ hl.1 (Nat.le_of_ble_eq_true rfl) rfl dX12_readsParty_22) (fun H locs hP hS => ?_)
      refine lv_aload_n hx hb dX12_readsParty_25 rfl (lv_at hl 1 rfl) ?_
      obtain ⟨r8, σ9, hc7, hf⟩ := fxBI_e hf
      refine fx_ci hC hS (fx_runV (i := 0) (As := []) (rest := []) hC hP hS (ctX12_needsNew l hc7 D cy ad ec _) kM_0 (by decide) rfl kMV_X12_277 kC_X12_needsNew hd_X12_needsNew rfl ⟨(Nat.le_of_ble_eq_true rfl), (Nat.le_of_ble_eq_true rfl)⟩ ⟨Nat.le_refl 0, Nat.le_refl 0⟩ hl.1 (Nat.le_of_ble_eq_true rfl) rfl dX12_readsParty_26) (fun H locs hP hS => ?_)
      refine lv_if_eq (tgt := 45) hx hb dX12_readsParty_29 (by decide) (fun c10 => ?_) (fun c10 => ?_)
      · replace hf := fx_it c10 hf
        refine lv_iconst hx hb dX12_readsParty_45 ki_0 ?_
        exact fx_zretf rfl hf hC hr hk hP hS dX12_readsParty_46
      · replace hf := fx_ie c10 hf
        refine lv_aload_n hx hb dX12_readsParty_32 rfl (lv_at hl 1 rfl) ?_
        refine lv_ldc2 (own := RX12) (v := 10197082) hx hb hC.2.2.2.1 (hC.2.2.2.2.1 _ kK_X12_227) dX12_readsParty_33 ?_
        refine lv_iconst hx hb dX12_readsParty_36 ki_0 ?_
        refine lv_bipush hx hb dX12_readsParty_37 kb_40 ?_
        obtain ⟨r12, σ13, hc11, hf⟩ := fxBI_e hf
        refine fx_ci hC hS (fx_runV (i := 0) (As := [.long 10197082, .int 0, .int 40]) (rest := []) hC hP hS (ctX12_needsBoth l hc11 D cy ad ec _) kM_0 (by decide) rfl kMV_X12_280 kC_X12_needsBoth hd_X12_needsBoth rfl ⟨(Nat.le_of_ble_eq_true rfl), (Nat.le_of_ble_eq_true rfl)⟩ ⟨Nat.le_refl 0, Nat.le_refl 0⟩ hl.1 (Nat.le_of_ble_eq_true rfl) rfl dX12_readsParty_39) (fun H locs hP hS => ?_)
        refine lv_if_ne (tgt := 47) hx hb dX12_readsParty_42 (by decide) (fun c14 => ?_) (fun c14 => ?_)
        · replace hf := fx_ie c14 hf
          refine lv_aload_n hx hb dX12_readsParty_47 rfl (lv_at hl 1 rfl) ?_
          refine gf_X12_32 (v := .ref (ad 8)) hC hP kM_0 rfl dX12_readsParty_48 ?_
          refine lv_iload_n hx hb dX12_readsParty_51 rfl (lv_at hl 0 rfl) ?_
          refine lv_aload_n hx hb dX12_readsParty_52 rfl (lv_at hl 1 rfl) ?_
          refine gf_X12_257 (v := .int (σ13.1 0 35)) hC hP kM_0 rfl dX12_readsParty_53 ?_
          obtain ⟨h15, hf⟩ := fxG_e hf
          obtain ⟨σ16, eσ16, hf⟩ := fxL_e hf
          refine fx_iast hC hP hS kM_8 (fx_inp h15) dX12_readsParty_56 (fun H locs hP hS => ?_)
          replace hP := fx_Pe eσ16 hP
          refine lv_aload_n hx hb dX12_readsParty_57 rfl (lv_at hl 1 rfl) ?_
          refine gf_X12_35 (v := .ref (ad 9)) hC hP kM_0 rfl dX12_readsParty_58 ?_
          refine lv_iload_n hx hb dX12_readsParty_61 rfl (lv_at hl 0 rfl) ?_
          refine lv_iconst hx hb dX12_readsParty_62 ki_0 ?_
          obtain ⟨h17, hf⟩ := fxG_e hf
          obtain ⟨σ18, eσ18, hf⟩ := fxL_e hf
          refine fx_iast hC hP hS kM_9 (fx_inp h17) dX12_readsParty_63 (fun H locs hP hS => ?_)
          replace hP := fx_Pe eσ18 hP
          refine lv_aload_n hx hb dX12_readsParty_64 rfl (lv_at hl 1 rfl) ?_
          refine gf_X12_20 (v := .ref (ad 4)) hC hP kM_0 rfl dX12_readsParty_65 ?_
          refine lv_iload_n hx hb dX12_readsParty_68 rfl (lv_at hl 0 rfl) ?_
          refine lv_aload_n hx hb dX12_readsParty_69 rfl (lv_at hl 1 rfl) ?_
          refine gf_X12_274 (v := .long (σ18.2.1 0 36)) hC hP kM_0 rfl dX12_readsParty_70 ?_
          obtain ⟨h19, hf⟩ := fxG_e hf
          obtain ⟨σ20, eσ20, hf⟩ := fxL_e hf
          refine fx_last hC hP hS kM_4 (fx_inp h19) dX12_readsParty_73 (fun H locs hP hS => ?_)
          replace hP := fx_Pe eσ20 hP
          refine lv_aload_n hx hb dX12_readsParty_74 rfl (lv_at hl 1 rfl) ?_
          refine gf_X12_13 (v := .ref (ad 2)) hC hP kM_0 rfl dX12_readsParty_75 ?_
          refine lv_iconst hx hb dX12_readsParty_78 ki_4 ?_
          refine lv_dup2_11 hx hb dX12_readsParty_79 rfl rfl ?_
          obtain ⟨h21, hf⟩ := fxG_e hf
          refine fx_iald hC hP kM_2 (fx_inp h21) dX12_readsParty_80 ?_
          refine lv_iconst hx hb dX12_readsParty_81 ki_1 ?_
          refine lv_iadd hx hb dX12_readsParty_82 ?_
          obtain ⟨h22, hf⟩ := fxG_e hf
          obtain ⟨σ23, eσ23, hf⟩ := fxL_e hf
          refine fx_iast hC hP hS kM_2 (fx_inp h22) dX12_readsParty_83 (fun H locs hP hS => ?_)
          replace hP := fx_Pe eσ23 hP
          refine lv_aload_n hx hb dX12_readsParty_84 rfl (lv_at hl 1 rfl) ?_
          obtain ⟨r25, σ26, hc24, hf⟩ := fxBI_e hf
          refine fx_ci hC hS (fx_runV (i := 0) (As := []) (rest := []) hC hP hS (ctX12_closes l hc24 D cy ad ec _) kM_0 (by decide) rfl kMV_X12_290 kC_X12_closes hd_X12_closes rfl ⟨(Nat.le_of_ble_eq_true rfl), (Nat.le_of_ble_eq_true rfl)⟩ ⟨Nat.le_refl 0, Nat.le_refl 0⟩ hl.1 (Nat.le_of_ble_eq_true rfl) rfl dX12_readsParty_85) (fun H locs hP hS => ?_)
          obtain ⟨h27, hf⟩ := fxG_e hf
          exact fx_zretf (fx_bon h27) hf hC hr hk hP hS dX12_readsParty_88
        · replace hf := fx_it c14 hf
          refine lv_iconst hx hb dX12_readsParty_45 ki_0 ?_
          exact fx_zretf rfl hf hC hr hk hP hS dX12_readsParty_46
    · replace hf := fx_it c3 hf
      refine lv_aload_n hx hb dX12_readsParty_15 rfl (lv_at hl 1 rfl) ?_
      refine lv_iconst hx hb dX12_readsParty_16 ki_5 ?_
      obtain ⟨r29, σ30, hc28, hf⟩ := fxBI_e hf
      refine fx_ci hC hS (fx_runV (i := 0) (As := [.int 5]) (rest := []) hC hP hS (ctX12_fails l hc28 D cy ad ec _) kM_0 (by decide) rfl kMV_X12_197 kC_X12_fails hd_X12_fails rfl ⟨(Nat.le_of_ble_eq_true rfl), (Nat.le_of_ble_eq_true rfl)⟩ ⟨Nat.le_refl 0, Nat.le_refl 0⟩ hl.1 (Nat.le_of_ble_eq_true rfl) rfl dX12_readsParty_17) (fun H locs hP hS => ?_)
      obtain ⟨h31, hf⟩ := fxG_e hf
      exact fx_zretf (fx_bon h31) hf hC hr hk hP hS dX12_readsParty_20
  exact main _ _ _ hP hS hl

set_option maxHeartbeats 4000000 in
set_option maxRecDepth 100000 in
theorem ctX12_readsFor (l : Launch) {σ σ' : FH} {v : Int32} (hf : fX12_readsFor σ = some (v, σ')) : fx_Mi l yX12_readsFor cX12_readsFor 2 (some .boolean) (3) LM (fun ad ec => [.ref (ad 0)]) σ v σ' := by
  unfold fX12_readsFor at hf
  refine fx_mi' (own := RX12) rfl (by decide +kernel) ?_
  intro p e s m args below meth c D cy ad ec A hC hr hk hP hS
  have hx := hC.1
  have hb := hC.2.1
  have hl := lv_entry ([.ref (ad 0)]) (n := 2) (Nat.le_of_ble_eq_true rfl)
  show W _ _ _ _ _ _ _ _ _ _ _ _ _ _ _ (entryFrame m ([.ref (ad 0)] : List Value).toArray 2)
  rw [lg_entry_eq]
  generalize (lg_sl ([.ref (ad 0)]) ++ List.replicate (2 - (lg_sl ([.ref (ad 0)])).length) Slot.unset).toArray = ls at hl ⊢
  have hl : lv_has ls 2 [(0, .ref (ad 0))] := hl
  have main : ∀ (H : Heap) (locs : List Loc) (ls : Array Slot), fx_P D cy LM ad σ H → va_S A s.heap H locs → lv_has ls 2 [(0, .ref (ad 0))] → W p l e (fx_R (3)) s m args below meth c H locs 0 0 (fx_Qi D cy LM ad A below args s v σ') (F0 m 0 ls []) := by
    intro H locs ls hP hS hl
    refine lv_aload_n hx hb dX12_readsFor_0 rfl (lv_at hl 0 rfl) ?_
    obtain ⟨σ3, hc1, hf⟩ := fxBV_e hf
    refine fx_cv hC hS (fx_runV (i := 0) (As := []) (rest := []) hC hP hS (ctX12_nextToken l hc1 D cy ad ec _) kM_0 (by decide) rfl kMV_X12_203 kC_X12_nextToken hd_X12_nextToken rfl ⟨(Nat.le_of_ble_eq_true rfl), (Nat.le_of_ble_eq_true rfl)⟩ ⟨Nat.le_refl 0, Nat.le_refl 0⟩ hl.1 (Nat.le_of_ble_eq_true rfl) rfl dX12_readsFor_1) (fun H locs hP hS => ?_)
    refine lv_aload_n hx hb dX12_readsFor_4 rfl (lv_at hl 0 rfl) ?_
    refine lv_iconst hx hb dX12_readsFor_5 ki_1 ?_
    obtain ⟨r5, σ6, hc4, hf⟩ := fxBI_e hf
    refine fx_ci hC hS (fx_runV (i := 0) (As := [.int 1]) (rest := []) hC hP hS (ctX12_needsParty l hc4 D cy ad ec _) kM_0 (by decide) rfl kMV_X12_293 kC_X12_needsParty hd_X12_needsParty rfl ⟨(Nat.le_of_ble_eq_true rfl), (Nat.le_of_ble_eq_true rfl)⟩ ⟨Nat.le_refl 0, Nat.le_refl 0⟩ hl.1 (Nat.le_of_ble_eq_true rfl) rfl dX12_readsFor_6) (fun H locs hP hS => ?_)
    refine lv_if_ne (tgt := 14) hx hb dX12_readsFor_9 (by decide) (fun c7 => ?_) (fun c7 => ?_)
    · replace hf := fx_ie c7 hf
      refine lv_iconst hx hb dX12_readsFor_14 ki_5 ?_
      refine lv_aload_n hx hb dX12_readsFor_15 rfl (lv_at hl 0 rfl) ?_
      refine gf_X12_257 (v := .int (σ6.1 0 35)) hC hP kM_0 rfl dX12_readsFor_16 ?_
      refine lv_iadd hx hb dX12_readsFor_19 ?_
      obtain ⟨v8, ev8, hf⟩ := fxL_e hf
      refine fx_ti ev8 ?_
      refine lv_istore_n (lv' := [(1, .int v8), (0, .ref (ad 0))]) hx hb dX12_readsFor_20 rfl hl (by decide) rfl (fun ls hl => ?_)
      refine lv_aload_n hx hb dX12_readsFor_21 rfl (lv_at hl 1 rfl) ?_
      obtain ⟨σ11, hc9, hf⟩ := fxBV_e hf
      refine fx_cv hC hS (fx_runV (i := 0) (As := []) (rest := []) hC hP hS (ctX12_nextToken l hc9 D cy ad ec _) kM_0 (by decide) rfl kMV_X12_203 kC_X12_nextToken hd_X12_nextToken rfl ⟨(Nat.le_of_ble_eq_true rfl), (Nat.le_of_ble_eq_true rfl)⟩ ⟨Nat.le_refl 0, Nat.le_refl 0⟩ hl.1 (Nat.le_of_ble_eq_true rfl) rfl dX12_readsFor_22) (fun H locs hP hS => ?_)
      refine lv_aload_n hx hb dX12_readsFor_25 rfl (lv_at hl 1 rfl) ?_
      refine lv_iconst hx hb dX12_readsFor_26 ki_1 ?_
      obtain ⟨r13, σ14, hc12, hf⟩ := fxBI_e hf
      refine fx_ci hC hS (fx_runV (i := 0) (As := [.int 1]) (rest := []) hC hP hS (ctX12_needsWare l hc12 D cy ad ec _) kM_0 (by decide) rfl kMV_X12_296 kC_X12_needsWare hd_X12_needsWare rfl ⟨(Nat.le_of_ble_eq_true rfl), (Nat.le_of_ble_eq_true rfl)⟩ ⟨Nat.le_refl 0, Nat.le_refl 0⟩ hl.1 (Nat.le_of_ble_eq_true rfl) rfl dX12_readsFor_27) (fun H locs hP hS => ?_)
      refine lv_if_ne (tgt := 35) hx hb dX12_readsFor_30 (by decide) (fun c15 => ?_) (fun c15 => ?_)
      · replace hf := fx_ie c15 hf
        refine lv_aload_n hx hb dX12_readsFor_35 rfl (lv_at hl 1 rfl) ?_
        refine gf_X12_35 (v := .ref (ad 9)) hC hP kM_0 rfl dX12_readsFor_36 ?_
        refine lv_iload_n hx hb dX12_readsFor_39 rfl (lv_at hl 0 rfl) ?_
        obtain ⟨h16, hf⟩ := fxG_e hf
        refine fx_iald hC hP kM_9 (fx_inp h16) dX12_readsFor_40 ?_
        refine lv_aload_n hx hb dX12_readsFor_41 rfl (lv_at hl 1 rfl) ?_
        refine gf_X12_257 (v := .int (σ14.1 0 35)) hC hP kM_0 rfl dX12_readsFor_42 ?_
        refine lv_ishr hx hb dX12_readsFor_45 ?_
        refine lv_iconst hx hb dX12_readsFor_46 ki_1 ?_
        refine lv_iand hx hb dX12_readsFor_47 ?_
        refine lv_iconst hx hb dX12_readsFor_48 ki_1 ?_
        refine lv_icmp_ne (tgt := 58) hx hb dX12_readsFor_49 (by decide) (fun c17 => ?_) (fun c17 => ?_)
        · replace hf := fx_ie c17 hf
          refine lv_aload_n hx hb dX12_readsFor_58 rfl (lv_at hl 1 rfl) ?_
          refine gf_X12_35 (v := .ref (ad 9)) hC hP kM_0 rfl dX12_readsFor_59 ?_
          refine lv_iload_n hx hb dX12_readsFor_62 rfl (lv_at hl 0 rfl) ?_
          refine lv_dup2_11 hx hb dX12_readsFor_63 rfl rfl ?_
          obtain ⟨h18, hf⟩ := fxG_e hf
          refine fx_iald hC hP kM_9 (fx_inp h18) dX12_readsFor_64 ?_
          refine lv_iconst hx hb dX12_readsFor_65 ki_1 ?_
          refine lv_aload_n hx hb dX12_readsFor_66 rfl (lv_at hl 1 rfl) ?_
          refine gf_X12_257 (v := .int (σ14.1 0 35)) hC hP kM_0 rfl dX12_readsFor_67 ?_
          refine lv_ishl hx hb dX12_readsFor_70 ?_
          refine lv_ior hx hb dX12_readsFor_71 ?_
          obtain ⟨h19, hf⟩ := fxG_e hf
          obtain ⟨σ20, eσ20, hf⟩ := fxL_e hf
          refine fx_iast hC hP hS kM_9 (fx_inp h19) dX12_readsFor_72 (fun H locs hP hS => ?_)
          replace hP := fx_Pe eσ20 hP
          refine lv_aload_n hx hb dX12_readsFor_73 rfl (lv_at hl 1 rfl) ?_
          obtain ⟨σ23, hc21, hf⟩ := fxBV_e hf
          refine fx_cv hC hS (fx_runV (i := 0) (As := []) (rest := []) hC hP hS (ctX12_nextToken l hc21 D cy ad ec _) kM_0 (by decide) rfl kMV_X12_203 kC_X12_nextToken hd_X12_nextToken rfl ⟨(Nat.le_of_ble_eq_true rfl), (Nat.le_of_ble_eq_true rfl)⟩ ⟨Nat.le_refl 0, Nat.le_refl 0⟩ hl.1 (Nat.le_of_ble_eq_true rfl) rfl dX12_readsFor_74) (fun H locs hP hS => ?_)
          refine lv_aload_n hx hb dX12_readsFor_77 rfl (lv_at hl 1 rfl) ?_
          obtain ⟨r25, σ26, hc24, hf⟩ := fxBI_e hf
          refine fx_ci hC hS (fx_runV (i := 0) (As := []) (rest := []) hC hP hS (ctX12_closes l hc24 D cy ad ec _) kM_0 (by decide) rfl kMV_X12_290 kC_X12_closes hd_X12_closes rfl ⟨(Nat.le_of_ble_eq_true rfl), (Nat.le_of_ble_eq_true rfl)⟩ ⟨Nat.le_refl 0, Nat.le_refl 0⟩ hl.1 (Nat.le_of_ble_eq_true rfl) rfl dX12_readsFor_78) (fun H locs hP hS => ?_)
          obtain ⟨h27, hf⟩ := fxG_e hf
          exact fx_zretf (fx_bon h27) hf hC hr hk hP hS dX12_readsFor_81
        · replace hf := fx_it c17 hf
          refine lv_aload_n hx hb dX12_readsFor_52 rfl (lv_at hl 1 rfl) ?_
          refine lv_iconst hx hb dX12_readsFor_53 ki_3 ?_
          obtain ⟨r29, σ30, hc28, hf⟩ := fxBI_e hf
          refine fx_ci hC hS (fx_runV (i := 0) (As := [.int 3]) (rest := []) hC hP hS (ctX12_fails l hc28 D cy ad ec _) kM_0 (by decide) rfl kMV_X12_197 kC_X12_fails hd_X12_fails rfl ⟨(Nat.le_of_ble_eq_true rfl), (Nat.le_of_ble_eq_true rfl)⟩ ⟨Nat.le_refl 0, Nat.le_refl 0⟩ hl.1 (Nat.le_of_ble_eq_true rfl) rfl dX12_readsFor_54) (fun H locs hP hS => ?_)
          obtain ⟨h31, hf⟩ := fxG_e hf
          exact fx_zretf (fx_bon h31) hf hC hr hk hP hS dX12_readsFor_57
      · replace hf := fx_it c15 hf
        refine lv_iconst hx hb dX12_readsFor_33 ki_0 ?_
        exact fx_zretf rfl hf hC hr hk hP hS dX12_readsFor_34
    · replace hf := fx_it c7 hf
      refine lv_iconst hx hb dX12_readsFor_12 ki_0 ?_
      exact fx_zretf rfl hf hC hr hk hP hS dX12_readsFor_13
  exact main _ _ _ hP hS hl

set_option maxHeartbeats 4000000 in
set_option maxRecDepth 100000 in
theorem ctX12_readsFine (l : Launch) {σ σ' : FH} {v : Int32} (hf : fX12_readsFine σ = some (v, σ')) : fx_Mi l yX12_readsFine cX12_readsFine 1 (some .boolean) (3) LM (fun ad ec => [.ref (ad 0)]) σ v σ' := by
  unfold fX12_readsFine at hf
  refine fx_mi' (own := RX12) rfl (by decide +kernel) ?_
  intro p e s m args below meth c D cy ad ec A hC hr hk hP hS
  have hx := hC.1
  have hb := hC.2.1
  have hl := lv_entry ([.ref (ad 0)]) (n := 1) (Nat.le_of_ble_eq_true rfl)
  show W _ _ _ _ _ _ _ _ _ _ _ _ _ _ _ (entryFrame m ([.ref (ad 0)] : List Value).toArray 1)
  rw [lg_entry_eq]
  generalize (lg_sl ([.ref (ad 0)]) ++ List.replicate (1 - (lg_sl ([.ref (ad 0)])).length) Slot.unset).toArray = ls at hl ⊢
  have hl : lv_has ls 1 [(0, .ref (ad 0))] := hl
  have main : ∀ (H : Heap) (locs : List Loc) (ls : Array Slot), fx_P D cy LM ad σ H → va_S A s.heap H locs → lv_has ls 1 [(0, .ref (ad 0))] → W p l e (fx_R (3)) s m args below meth c H locs 0 0 (fx_Qi D cy LM ad A below args s v σ') (F0 m 0 ls []) := by
    intro H locs ls hP hS hl
    refine lv_aload_n hx hb dX12_readsFine_0 rfl (lv_at hl 0 rfl) ?_
    refine gf_X12_299 (v := .int (σ.1 0 22)) hC hP kM_0 rfl dX12_readsFine_1 ?_
    refine lv_if_eq (tgt := 13) hx hb dX12_readsFine_4 (by decide) (fun c1 => ?_) (fun c1 => ?_)
    · replace hf := fx_it c1 hf
      refine lv_aload_n hx hb dX12_readsFine_13 rfl (lv_at hl 0 rfl) ?_
      refine lv_iconst hx hb dX12_readsFine_14 ki_1 ?_
      obtain ⟨σ2, eσ2, hf⟩ := fxL_e hf
      refine pf_X12_299 hC hP hS kM_0 rfl rfl dX12_readsFine_15 (fun H locs hP hS => ?_)
      replace hP := fx_Pe eσ2 hP
      refine lv_aload_n hx hb dX12_readsFine_18 rfl (lv_at hl 0 rfl) ?_
      obtain ⟨σ5, hc3, hf⟩ := fxBV_e hf
      refine fx_cv hC hS (fx_runV (i := 0) (As := []) (rest := []) hC hP hS (ctX12_nextToken l hc3 D cy ad ec _) kM_0 (by decide) rfl kMV_X12_203 kC_X12_nextToken hd_X12_nextToken rfl ⟨(Nat.le_of_ble_eq_true rfl), (Nat.le_of_ble_eq_true rfl)⟩ ⟨Nat.le_refl 0, Nat.le_refl 0⟩ hl.1 (Nat.le_of_ble_eq_true rfl) rfl dX12_readsFine_19) (fun H locs hP hS => ?_)
      refine lv_aload_n hx hb dX12_readsFine_22 rfl (lv_at hl 0 rfl) ?_
      refine lv_iconst hx hb dX12_readsFine_23 ki_1 ?_
      refine lv_bipush hx hb dX12_readsFine_24 kb_9 ?_
      obtain ⟨r7, σ8, hc6, hf⟩ := fxBI_e hf
      refine fx_ci hC hS (fx_runV (i := 0) (As := [.int 1, .int 9]) (rest := []) hC hP hS (ctX12_needsNumber l hc6 D cy ad ec _) kM_0 (by decide) rfl kMV_X12_260 kC_X12_needsNumber hd_X12_needsNumber rfl ⟨(Nat.le_of_ble_eq_true rfl), (Nat.le_of_ble_eq_true rfl)⟩ ⟨Nat.le_refl 0, Nat.le_refl 0⟩ hl.1 (Nat.le_of_ble_eq_true rfl) rfl dX12_readsFine_26) (fun H locs hP hS => ?_)
      refine lv_if_ne (tgt := 34) hx hb dX12_readsFine_29 (by decide) (fun c9 => ?_) (fun c9 => ?_)
      · replace hf := fx_ie c9 hf
        refine lv_aload_n hx hb dX12_readsFine_34 rfl (lv_at hl 0 rfl) ?_
        refine gf_X12_13 (v := .ref (ad 2)) hC hP kM_0 rfl dX12_readsFine_35 ?_
        refine lv_iconst hx hb dX12_readsFine_38 ki_5 ?_
        refine lv_aload_n hx hb dX12_readsFine_39 rfl (lv_at hl 0 rfl) ?_
        refine gf_X12_257 (v := .int (σ8.1 0 35)) hC hP kM_0 rfl dX12_readsFine_40 ?_
        obtain ⟨h10, hf⟩ := fxG_e hf
        obtain ⟨σ11, eσ11, hf⟩ := fxL_e hf
        refine fx_iast hC hP hS kM_2 (fx_inp h10) dX12_readsFine_43 (fun H locs hP hS => ?_)
        replace hP := fx_Pe eσ11 hP
        refine lv_aload_n hx hb dX12_readsFine_44 rfl (lv_at hl 0 rfl) ?_
        obtain ⟨r13, σ14, hc12, hf⟩ := fxBI_e hf
        refine fx_ci hC hS (fx_runV (i := 0) (As := []) (rest := []) hC hP hS (ctX12_closes l hc12 D cy ad ec _) kM_0 (by decide) rfl kMV_X12_290 kC_X12_closes hd_X12_closes rfl ⟨(Nat.le_of_ble_eq_true rfl), (Nat.le_of_ble_eq_true rfl)⟩ ⟨Nat.le_refl 0, Nat.le_refl 0⟩ hl.1 (Nat.le_of_ble_eq_true rfl) rfl dX12_readsFine_45) (fun H locs hP hS => ?_)
        obtain ⟨h15, hf⟩ := fxG_e hf
        exact fx_zretf (fx_bon h15) hf hC hr hk hP hS dX12_readsFine_48
      · replace hf := fx_it c9 hf
        refine lv_iconst hx hb dX12_readsFine_32 ki_0 ?_
        exact fx_zretf rfl hf hC hr hk hP hS dX12_readsFine_33
    · replace hf := fx_ie c1 hf
      refine lv_aload_n hx hb dX12_readsFine_7 rfl (lv_at hl 0 rfl) ?_
      refine lv_iconst hx hb dX12_readsFine_8 ki_3 ?_
      obtain ⟨r17, σ18, hc16, hf⟩ := fxBI_e hf
      refine fx_ci hC hS (fx_runV (i := 0) (As := [.int 3]) (rest := []) hC hP hS (ctX12_fails l hc16 D cy ad ec _) kM_0 (by decide) rfl kMV_X12_197 kC_X12_fails hd_X12_fails rfl ⟨(Nat.le_of_ble_eq_true rfl), (Nat.le_of_ble_eq_true rfl)⟩ ⟨Nat.le_refl 0, Nat.le_refl 0⟩ hl.1 (Nat.le_of_ble_eq_true rfl) rfl dX12_readsFine_9) (fun H locs hP hS => ?_)
      obtain ⟨h19, hf⟩ := fxG_e hf
      exact fx_zretf (fx_bon h19) hf hC hr hk hP hS dX12_readsFine_12
  exact main _ _ _ hP hS hl

set_option maxHeartbeats 4000000 in
set_option maxRecDepth 100000 in
theorem ctX12_readsWorks (l : Launch) {σ σ' : FH} {v : Int32} (hf : fX12_readsWorks σ = some (v, σ')) : fx_Mi l yX12_readsWorks cX12_readsWorks 1 (some .boolean) (3) LM (fun ad ec => [.ref (ad 0)]) σ v σ' := by
  unfold fX12_readsWorks at hf
  refine fx_mi' (own := RX12) rfl (by decide +kernel) ?_
  intro p e s m args below meth c D cy ad ec A hC hr hk hP hS
  have hx := hC.1
  have hb := hC.2.1
  have hl := lv_entry ([.ref (ad 0)]) (n := 1) (Nat.le_of_ble_eq_true rfl)
  show W _ _ _ _ _ _ _ _ _ _ _ _ _ _ _ (entryFrame m ([.ref (ad 0)] : List Value).toArray 1)
  rw [lg_entry_eq]
  generalize (lg_sl ([.ref (ad 0)]) ++ List.replicate (1 - (lg_sl ([.ref (ad 0)])).length) Slot.unset).toArray = ls at hl ⊢
  have hl : lv_has ls 1 [(0, .ref (ad 0))] := hl
  have main : ∀ (H : Heap) (locs : List Loc) (ls : Array Slot), fx_P D cy LM ad σ H → va_S A s.heap H locs → lv_has ls 1 [(0, .ref (ad 0))] → W p l e (fx_R (3)) s m args below meth c H locs 0 0 (fx_Qi D cy LM ad A below args s v σ') (F0 m 0 ls []) := by
    intro H locs ls hP hS hl
    refine lv_aload_n hx hb dX12_readsWorks_0 rfl (lv_at hl 0 rfl) ?_
    refine gf_X12_41 (v := .ref (ad 11)) hC hP kM_0 rfl dX12_readsWorks_1 ?_
    refine lv_iconst hx hb dX12_readsWorks_4 ki_1 ?_
    obtain ⟨h1, hf⟩ := fxG_e hf
    refine fx_iald hC hP kM_11 (fx_inp h1) dX12_readsWorks_5 ?_
    refine lv_aload_n hx hb dX12_readsWorks_6 rfl (lv_at hl 0 rfl) ?_
    refine gf_X12_38 (v := .ref (ad 10)) hC hP kM_0 rfl dX12_readsWorks_7 ?_
    refine lv_iconst hx hb dX12_readsWorks_10 ki_1 ?_
    obtain ⟨h2, hf⟩ := fxG_e hf
    refine fx_iald hC hP kM_10 (fx_inp h2) dX12_readsWorks_11 ?_
    refine lv_icmp_le (tgt := 21) hx hb dX12_readsWorks_12 (by decide) (fun c3 => ?_) (fun c3 => ?_)
    · replace hf := fx_it c3 hf
      refine lv_aload_n hx hb dX12_readsWorks_21 rfl (lv_at hl 0 rfl) ?_
      obtain ⟨σ6, hc4, hf⟩ := fxBV_e hf
      refine fx_cv hC hS (fx_runV (i := 0) (As := []) (rest := []) hC hP hS (ctX12_nextToken l hc4 D cy ad ec _) kM_0 (by decide) rfl kMV_X12_203 kC_X12_nextToken hd_X12_nextToken rfl ⟨(Nat.le_of_ble_eq_true rfl), (Nat.le_of_ble_eq_true rfl)⟩ ⟨Nat.le_refl 0, Nat.le_refl 0⟩ hl.1 (Nat.le_of_ble_eq_true rfl) rfl dX12_readsWorks_22) (fun H locs hP hS => ?_)
      refine lv_aload_n hx hb dX12_readsWorks_25 rfl (lv_at hl 0 rfl) ?_
      refine gf_X12_38 (v := .ref (ad 10)) hC hP kM_0 rfl dX12_readsWorks_26 ?_
      refine lv_iconst hx hb dX12_readsWorks_29 ki_1 ?_
      refine lv_aload_n hx hb dX12_readsWorks_30 rfl (lv_at hl 0 rfl) ?_
      refine gf_X12_172 (v := .int (σ6.1 0 21)) hC hP kM_0 rfl dX12_readsWorks_31 ?_
      obtain ⟨h7, hf⟩ := fxG_e hf
      obtain ⟨σ8, eσ8, hf⟩ := fxL_e hf
      refine fx_iast hC hP hS kM_10 (fx_inp h7) dX12_readsWorks_34 (fun H locs hP hS => ?_)
      replace hP := fx_Pe eσ8 hP
      refine lv_aload_n hx hb dX12_readsWorks_35 rfl (lv_at hl 0 rfl) ?_
      obtain ⟨r10, σ11, hc9, hf⟩ := fxBI_e hf
      refine fx_ci hC hS (fx_runV (i := 0) (As := []) (rest := []) hC hP hS (ctX12_reads l hc9 D cy ad ec _) kM_0 (by decide) rfl kMV_X12_303 kC_X12_reads hd_X12_reads rfl ⟨(Nat.le_of_ble_eq_true rfl), (Nat.le_of_ble_eq_true rfl)⟩ ⟨Nat.le_refl 0, Nat.le_refl 0⟩ hl.1 (Nat.le_of_ble_eq_true rfl) rfl dX12_readsWorks_36) (fun H locs hP hS => ?_)
      refine lv_if_ne (tgt := 44) hx hb dX12_readsWorks_39 (by decide) (fun c12 => ?_) (fun c12 => ?_)
      · replace hf := fx_ie c12 hf
        refine lv_aload_n hx hb dX12_readsWorks_44 rfl (lv_at hl 0 rfl) ?_
        refine gf_X12_41 (v := .ref (ad 11)) hC hP kM_0 rfl dX12_readsWorks_45 ?_
        refine lv_iconst hx hb dX12_readsWorks_48 ki_1 ?_
        refine lv_aload_n hx hb dX12_readsWorks_49 rfl (lv_at hl 0 rfl) ?_
        refine gf_X12_172 (v := .int (σ11.1 0 21)) hC hP kM_0 rfl dX12_readsWorks_50 ?_
        obtain ⟨h13, hf⟩ := fxG_e hf
        obtain ⟨σ14, eσ14, hf⟩ := fxL_e hf
        refine fx_iast hC hP hS kM_11 (fx_inp h13) dX12_readsWorks_53 (fun H locs hP hS => ?_)
        replace hP := fx_Pe eσ14 hP
        refine lv_iconst hx hb dX12_readsWorks_54 ki_1 ?_
        exact fx_zretf rfl hf hC hr hk hP hS dX12_readsWorks_55
      · replace hf := fx_it c12 hf
        refine lv_iconst hx hb dX12_readsWorks_42 ki_0 ?_
        exact fx_zretf rfl hf hC hr hk hP hS dX12_readsWorks_43
    · replace hf := fx_ie c3 hf
      refine lv_aload_n hx hb dX12_readsWorks_15 rfl (lv_at hl 0 rfl) ?_
      refine lv_iconst hx hb dX12_readsWorks_16 ki_3 ?_
      obtain ⟨r16, σ17, hc15, hf⟩ := fxBI_e hf
      refine fx_ci hC hS (fx_runV (i := 0) (As := [.int 3]) (rest := []) hC hP hS (ctX12_fails l hc15 D cy ad ec _) kM_0 (by decide) rfl kMV_X12_197 kC_X12_fails hd_X12_fails rfl ⟨(Nat.le_of_ble_eq_true rfl), (Nat.le_of_ble_eq_true rfl)⟩ ⟨Nat.le_refl 0, Nat.le_refl 0⟩ hl.1 (Nat.le_of_ble_eq_true rfl) rfl dX12_readsWorks_17) (fun H locs hP hS => ?_)
      obtain ⟨h18, hf⟩ := fxG_e hf
      exact fx_zretf (fx_bon h18) hf hC hr hk hP hS dX12_readsWorks_20
  exact main _ _ _ hP hS hl

set_option maxHeartbeats 4000000 in
set_option maxRecDepth 100000 in
theorem ctX12_begins (l : Launch) {σ σ' : FH} (hf : fX12_begins σ = some σ') : fx_Mv l yX12_begins cX12_begins 1 none (2) LM (fun ad ec => [.ref (ad 0)]) σ σ' := by
  unfold fX12_begins at hf
  refine fx_mv' (own := RX12) rfl (by decide +kernel) ?_
  intro p e s m args below meth c D cy ad ec A hC hr hk hP hS
  have hx := hC.1
  have hb := hC.2.1
  have hl := lv_entry ([.ref (ad 0)]) (n := 1) (Nat.le_of_ble_eq_true rfl)
  show W _ _ _ _ _ _ _ _ _ _ _ _ _ _ _ (entryFrame m ([.ref (ad 0)] : List Value).toArray 1)
  rw [lg_entry_eq]
  generalize (lg_sl ([.ref (ad 0)]) ++ List.replicate (1 - (lg_sl ([.ref (ad 0)])).length) Slot.unset).toArray = ls at hl ⊢
  have hl : lv_has ls 1 [(0, .ref (ad 0))] := hl
  have main : ∀ (H : Heap) (locs : List Loc) (ls : Array Slot), fx_P D cy LM ad σ H → va_S A s.heap H locs → lv_has ls 1 [(0, .ref (ad 0))] → W p l e (fx_R (2)) s m args below meth c H locs 0 0 (fx_Qv D cy LM ad A below args s σ') (F0 m 0 ls []) := by
    intro H locs ls hP hS hl
    refine lv_aload_n hx hb dX12_begins_0 rfl (lv_at hl 0 rfl) ?_
    refine lv_aload_n hx hb dX12_begins_1 rfl (lv_at hl 0 rfl) ?_
    refine gf_X12_139 (v := .int (σ.1 0 1)) hC hP kM_0 rfl dX12_begins_2 ?_
    obtain ⟨σ1, eσ1, hf⟩ := fxL_e hf
    refine pf_X12_142 hC hP hS kM_0 dX12_begins_5 (fun H locs hP hS => ?_)
    replace hP := fx_Pe eσ1 hP
    refine lv_aload_n hx hb dX12_begins_8 rfl (lv_at hl 0 rfl) ?_
    refine lv_iconst hx hb dX12_begins_9 ki_0 ?_
    obtain ⟨σ2, eσ2, hf⟩ := fxL_e hf
    refine pf_X12_139 hC hP hS kM_0 dX12_begins_10 (fun H locs hP hS => ?_)
    replace hP := fx_Pe eσ2 hP
    refine lv_aload_n hx hb dX12_begins_13 rfl (lv_at hl 0 rfl) ?_
    refine lv_iconst hx hb dX12_begins_14 ki_0 ?_
    obtain ⟨σ3, eσ3, hf⟩ := fxL_e hf
    refine pf_X12_145 hC hP hS kM_0 dX12_begins_15 (fun H locs hP hS => ?_)
    replace hP := fx_Pe eσ3 hP
    refine lv_aload_n hx hb dX12_begins_18 rfl (lv_at hl 0 rfl) ?_
    obtain ⟨σ6, hc4, hf⟩ := fxBV_e hf
    refine fx_cv hC hS (fx_runV (i := 0) (As := []) (rest := []) hC hP hS (ctX12_nextToken l hc4 D cy ad ec _) kM_0 (by decide) rfl kMV_X12_203 kC_X12_nextToken hd_X12_nextToken rfl ⟨(Nat.le_of_ble_eq_true rfl), (Nat.le_of_ble_eq_true rfl)⟩ ⟨Nat.le_refl 0, Nat.le_refl 0⟩ hl.1 (Nat.le_of_ble_eq_true rfl) rfl dX12_begins_19) (fun H locs hP hS => ?_)
    exact fx_vretf hf hC hr hk hP hS dX12_begins_22
  exact main _ _ _ hP hS hl

set_option maxHeartbeats 4000000 in
set_option maxRecDepth 100000 in
theorem ctX12_readsAll (l : Launch) {σ σ' : FH} {v : Int32} (hf : fX12_readsAll σ = some (v, σ')) : fx_Mi l yX12_readsAll cX12_readsAll 2 (some .boolean) (5) LM (fun ad ec => [.ref (ad 0)]) σ v σ' := by
  unfold fX12_readsAll at hf
  refine fx_mi' (own := RX12) rfl (by decide +kernel) ?_
  intro p e s m args below meth c D cy ad ec A hC hr hk hP hS
  have hx := hC.1
  have hb := hC.2.1
  have hl := lv_entry ([.ref (ad 0)]) (n := 2) (Nat.le_of_ble_eq_true rfl)
  show W _ _ _ _ _ _ _ _ _ _ _ _ _ _ _ (entryFrame m ([.ref (ad 0)] : List Value).toArray 2)
  rw [lg_entry_eq]
  generalize (lg_sl ([.ref (ad 0)]) ++ List.replicate (2 - (lg_sl ([.ref (ad 0)])).length) Slot.unset).toArray = ls at hl ⊢
  have hl : lv_has ls 2 [(0, .ref (ad 0))] := hl
  have main : ∀ (H : Heap) (locs : List Loc) (ls : Array Slot), fx_P D cy LM ad σ H → va_S A s.heap H locs → lv_has ls 2 [(0, .ref (ad 0))] → W p l e (fx_R (5)) s m args below meth c H locs 0 0 (fx_Qi D cy LM ad A below args s v σ') (F0 m 0 ls []) := by
    intro H locs ls hP hS hl
    refine lv_aload_n hx hb dX12_readsAll_0 rfl (lv_at hl 0 rfl) ?_
    refine lv_iconst hx hb dX12_readsAll_1 ki_1 ?_
    obtain ⟨σ3, hc1, hf⟩ := fxBV_e hf
    refine fx_cv hC hS (fx_runV (i := 0) (As := [.int 1]) (rest := []) hC hP hS (ctX12_usual l hc1 D cy ad ec _) kM_0 (by decide) rfl kMV_X12_129 kC_X12_usual hd_X12_usual rfl ⟨(Nat.le_of_ble_eq_true rfl), (Nat.le_of_ble_eq_true rfl)⟩ ⟨Nat.le_refl 0, Nat.le_refl 0⟩ hl.1 (Nat.le_of_ble_eq_true rfl) rfl dX12_readsAll_2) (fun H locs hP hS => ?_)
    refine lv_aload_n hx hb dX12_readsAll_5 rfl (lv_at hl 0 rfl) ?_
    refine gf_X12_38 (v := .ref (ad 10)) hC hP kM_0 rfl dX12_readsAll_6 ?_
    refine lv_iconst hx hb dX12_readsAll_9 ki_1 ?_
    refine lv_sipush hx hb dX12_readsAll_10 ks_1000 ?_
    obtain ⟨h4, hf⟩ := fxG_e hf
    obtain ⟨σ5, eσ5, hf⟩ := fxL_e hf
    refine fx_iast hC hP hS kM_10 (fx_inp h4) dX12_readsAll_13 (fun H locs hP hS => ?_)
    replace hP := fx_Pe eσ5 hP
    refine lv_aload_n hx hb dX12_readsAll_14 rfl (lv_at hl 0 rfl) ?_
    refine gf_X12_41 (v := .ref (ad 11)) hC hP kM_0 rfl dX12_readsAll_15 ?_
    refine lv_iconst hx hb dX12_readsAll_18 ki_1 ?_
    refine lv_sipush hx hb dX12_readsAll_19 ks_1000 ?_
    obtain ⟨h6, hf⟩ := fxG_e hf
    obtain ⟨σ7, eσ7, hf⟩ := fxL_e hf
    refine fx_iast hC hP hS kM_11 (fx_inp h6) dX12_readsAll_22 (fun H locs hP hS => ?_)
    replace hP := fx_Pe eσ7 hP
    refine lv_aload_n hx hb dX12_readsAll_23 rfl (lv_at hl 0 rfl) ?_
    refine lv_iconst hx hb dX12_readsAll_24 ki_0 ?_
    obtain ⟨σ8, eσ8, hf⟩ := fxL_e hf
    refine pf_X12_299 hC hP hS kM_0 rfl rfl dX12_readsAll_25 (fun H locs hP hS => ?_)
    replace hP := fx_Pe eσ8 hP
    refine lv_aload_n hx hb dX12_readsAll_28 rfl (lv_at hl 0 rfl) ?_
    refine lv_sipush hx hb dX12_readsAll_29 ks_1000 ?_
    obtain ⟨σ9, eσ9, hf⟩ := fxL_e hf
    refine pf_X12_172 hC hP hS kM_0 dX12_readsAll_32 (fun H locs hP hS => ?_)
    replace hP := fx_Pe eσ9 hP
    refine lv_aload_n hx hb dX12_readsAll_35 rfl (lv_at hl 0 rfl) ?_
    obtain ⟨σ12, hc10, hf⟩ := fxBV_e hf
    refine fx_cv hC hS (fx_runV (i := 0) (As := []) (rest := []) hC hP hS (ctX12_begins l hc10 D cy ad ec _) kM_0 (by decide) rfl kMV_X12_306 kC_X12_begins hd_X12_begins rfl ⟨(Nat.le_of_ble_eq_true rfl), (Nat.le_of_ble_eq_true rfl)⟩ ⟨Nat.le_refl 0, Nat.le_refl 0⟩ hl.1 (Nat.le_of_ble_eq_true rfl) rfl dX12_readsAll_36) (fun H locs hP hS => ?_)
    obtain ⟨K13, hK13, hf⟩ := fxL_e hf
    have k_K13 : ∀ (σ14 : FH) (H : Heap) (locs : List Loc) (ls : Array Slot), fx_P D cy LM ad σ14 H → va_S A s.heap H locs → lv_has ls 2 [] → K13 σ14 = some (v, σ') → W p l e (fx_R (5)) s m args below meth c H locs 0 0 (fx_Qi D cy LM ad A below args s v σ') (F0 m 146 ls []) := by
      intro σ14 H locs ls hP hS hl hf
      replace hf := fxk1 hK13 hf
      refine lv_iconst hx hb dX12_readsAll_146 ki_1 ?_
      exact fx_zretf rfl hf hC hr hk hP hS dX12_readsAll_147
    have L61 : ∀ (n17 : Nat) (σ15 : FH) (H : Heap) (locs : List Loc) (ls : Array Slot), fx_P D cy LM ad σ15 H → va_S A s.heap H locs → lv_has ls 2 [(0, .ref (ad 0))] → fX12_readsAll_39 K13 n17 σ15 = some (v, σ') → W p l e (fx_R (5)) s m args below meth c H locs 0 0 (fx_Qi D cy LM ad A below args s v σ') (F0 m 39 ls []) := by
      intro n17
      induction n17 with
      | zero =>
        intro σ15 H locs ls hP hS hl hf
        rw [fX12_readsAll_39] at hf
        cases hf
      | succ n17 ih16 =>
        intro σ15 H locs ls hP hS hl hf
        rw [fX12_readsAll_39] at hf
        refine lv_aload_n hx hb dX12_readsAll_39 rfl (lv_at hl 0 rfl) ?_
        refine gf_X12_158 (v := .int (σ15.1 0 6)) hC hP kM_0 rfl dX12_readsAll_40 ?_
        refine lv_if_eq (tgt := 146) hx hb dX12_readsAll_43 (by decide) (fun c18 => ?_) (fun c18 => ?_)
        · replace hf := fx_it c18 hf
          exact k_K13 σ15 _ _ _ hP hS (lv_sub hl [] rfl) hf
        · replace hf := fx_ie c18 hf
          refine lv_aload_n hx hb dX12_readsAll_46 rfl (lv_at hl 0 rfl) ?_
          refine lv_ldc2 (own := RX12) (v := 453929) hx hb hC.2.2.2.1 (hC.2.2.2.2.1 _ kK_X12_219) dX12_readsAll_47 ?_
          obtain ⟨r20, hc19, hf⟩ := fxBP_e hf
          refine fx_ci hC hS (fx_runV (i := 0) (As := [.long 453929]) (rest := []) hC hP hS (ctX12_isWord l hc19 D cy ad ec _) kM_0 (by decide) rfl kMV_X12_189 kC_X12_isWord hd_X12_isWord rfl ⟨(Nat.le_of_ble_eq_true rfl), (Nat.le_of_ble_eq_true rfl)⟩ ⟨Nat.le_refl 0, Nat.le_refl 0⟩ hl.1 (Nat.le_of_ble_eq_true rfl) rfl dX12_readsAll_50) (fun H locs hP hS => ?_)
          obtain ⟨J22, hJ22, hf⟩ := fxL_e hf
          have j_J22 : ∀ (y23 : Int32) (σ24 : FH) (H : Heap) (locs : List Loc) (ls : Array Slot), fx_P D cy LM ad σ24 H → va_S A s.heap H locs → lv_has ls 2 [(0, .ref (ad 0))] → J22 y23 σ24 = some (v, σ') → W p l e (fx_R (5)) s m args below meth c H locs 0 0 (fx_Qi D cy LM ad A below args s v σ') (F0 m 136 ls [.int y23]) := by
            intro y23 σ24 H locs ls hP hS hl hf
            replace hf := fxk2 hJ22 hf
            refine lv_istore_n (lv' := [(1, .int y23), (0, .ref (ad 0))]) hx hb dX12_readsAll_136 rfl hl (by decide) rfl (fun ls hl => ?_)
            refine lv_iload_n hx hb dX12_readsAll_137 rfl (lv_at hl 0 rfl) ?_
            refine lv_if_ne (tgt := 143) hx hb dX12_readsAll_138 (by decide) (fun c25 => ?_) (fun c25 => ?_)
            · replace hf := fx_ie c25 hf
              refine lv_goto (tgt := 39) hx hb dX12_readsAll_143 (by decide) ?_
              exact ih16 σ24 _ _ _ hP hS (lv_sub hl [1] rfl) hf
            · replace hf := fx_it c25 hf
              refine lv_iconst hx hb dX12_readsAll_141 ki_0 ?_
              exact fx_zretf rfl hf hC hr hk hP hS dX12_readsAll_142
          refine lv_if_eq (tgt := 63) hx hb dX12_readsAll_53 (by decide) (fun c26 => ?_) (fun c26 => ?_)
          · replace hf := fx_it c26 hf
            refine lv_aload_n hx hb dX12_readsAll_63 rfl (lv_at hl 0 rfl) ?_
            refine lv_ldc2 (own := RX12) (v := 8536426) hx hb hC.2.2.2.1 (hC.2.2.2.2.1 _ kK_X12_225) dX12_readsAll_64 ?_
            obtain ⟨r28, hc27, hf⟩ := fxBP_e hf
            refine fx_ci hC hS (fx_runV (i := 0) (As := [.long 8536426]) (rest := []) hC hP hS (ctX12_isWord l hc27 D cy ad ec _) kM_0 (by decide) rfl kMV_X12_189 kC_X12_isWord hd_X12_isWord rfl ⟨(Nat.le_of_ble_eq_true rfl), (Nat.le_of_ble_eq_true rfl)⟩ ⟨Nat.le_refl 0, Nat.le_refl 0⟩ hl.1 (Nat.le_of_ble_eq_true rfl) rfl dX12_readsAll_67) (fun H locs hP hS => ?_)
            refine lv_if_eq (tgt := 80) hx hb dX12_readsAll_70 (by decide) (fun c30 => ?_) (fun c30 => ?_)
            · replace hf := fx_it c30 hf
              refine lv_aload_n hx hb dX12_readsAll_80 rfl (lv_at hl 0 rfl) ?_
              refine lv_ldc2 (own := RX12) (v := 4797) hx hb hC.2.2.2.1 (hC.2.2.2.2.1 _ kK_X12_229) dX12_readsAll_81 ?_
              obtain ⟨r32, hc31, hf⟩ := fxBP_e hf
              refine fx_ci hC hS (fx_runV (i := 0) (As := [.long 4797]) (rest := []) hC hP hS (ctX12_isWord l hc31 D cy ad ec _) kM_0 (by decide) rfl kMV_X12_189 kC_X12_isWord hd_X12_isWord rfl ⟨(Nat.le_of_ble_eq_true rfl), (Nat.le_of_ble_eq_true rfl)⟩ ⟨Nat.le_refl 0, Nat.le_refl 0⟩ hl.1 (Nat.le_of_ble_eq_true rfl) rfl dX12_readsAll_84) (fun H locs hP hS => ?_)
              refine lv_if_eq (tgt := 97) hx hb dX12_readsAll_87 (by decide) (fun c34 => ?_) (fun c34 => ?_)
              · replace hf := fx_it c34 hf
                refine lv_aload_n hx hb dX12_readsAll_97 rfl (lv_at hl 0 rfl) ?_
                refine lv_ldc2 (own := RX12) (v := 125042) hx hb hC.2.2.2.1 (hC.2.2.2.2.1 _ kK_X12_231) dX12_readsAll_98 ?_
                obtain ⟨r36, hc35, hf⟩ := fxBP_e hf
                refine fx_ci hC hS (fx_runV (i := 0) (As := [.long 125042]) (rest := []) hC hP hS (ctX12_isWord l hc35 D cy ad ec _) kM_0 (by decide) rfl kMV_X12_189 kC_X12_isWord hd_X12_isWord rfl ⟨(Nat.le_of_ble_eq_true rfl), (Nat.le_of_ble_eq_true rfl)⟩ ⟨Nat.le_refl 0, Nat.le_refl 0⟩ hl.1 (Nat.le_of_ble_eq_true rfl) rfl dX12_readsAll_101) (fun H locs hP hS => ?_)
                refine lv_if_eq (tgt := 114) hx hb dX12_readsAll_104 (by decide) (fun c38 => ?_) (fun c38 => ?_)
                · replace hf := fx_it c38 hf
                  refine lv_aload_n hx hb dX12_readsAll_114 rfl (lv_at hl 0 rfl) ?_
                  refine lv_ldc2 (own := RX12) (v := 12531826) hx hb hC.2.2.2.1 (hC.2.2.2.2.1 _ kK_X12_233) dX12_readsAll_115 ?_
                  obtain ⟨r40, hc39, hf⟩ := fxBP_e hf
                  refine fx_ci hC hS (fx_runV (i := 0) (As := [.long 12531826]) (rest := []) hC hP hS (ctX12_isWord l hc39 D cy ad ec _) kM_0 (by decide) rfl kMV_X12_189 kC_X12_isWord hd_X12_isWord rfl ⟨(Nat.le_of_ble_eq_true rfl), (Nat.le_of_ble_eq_true rfl)⟩ ⟨Nat.le_refl 0, Nat.le_refl 0⟩ hl.1 (Nat.le_of_ble_eq_true rfl) rfl dX12_readsAll_118) (fun H locs hP hS => ?_)
                  refine lv_if_eq (tgt := 131) hx hb dX12_readsAll_121 (by decide) (fun c42 => ?_) (fun c42 => ?_)
                  · replace hf := fx_it c42 hf
                    refine lv_aload_n hx hb dX12_readsAll_131 rfl (lv_at hl 0 rfl) ?_
                    refine lv_iconst hx hb dX12_readsAll_132 ki_1 ?_
                    obtain ⟨r44, σ45, hc43, hf⟩ := fxBI_e hf
                    refine fx_ci hC hS (fx_runV (i := 0) (As := [.int 1]) (rest := []) hC hP hS (ctX12_fails l hc43 D cy ad ec _) kM_0 (by decide) rfl kMV_X12_197 kC_X12_fails hd_X12_fails rfl ⟨(Nat.le_of_ble_eq_true rfl), (Nat.le_of_ble_eq_true rfl)⟩ ⟨Nat.le_refl 0, Nat.le_refl 0⟩ hl.1 (Nat.le_of_ble_eq_true rfl) rfl dX12_readsAll_133) (fun H locs hP hS => ?_)
                    exact j_J22 r44 σ45 _ _ _ hP hS (lv_sub hl [0] rfl) hf
                  · replace hf := fx_ie c42 hf
                    refine lv_aload_n hx hb dX12_readsAll_124 rfl (lv_at hl 0 rfl) ?_
                    obtain ⟨r47, σ48, hc46, hf⟩ := fxBI_e hf
                    refine fx_ci hC hS (fx_runV (i := 0) (As := []) (rest := []) hC hP hS (ctX12_readsWorks l hc46 D cy ad ec _) kM_0 (by decide) rfl kMV_X12_321 kC_X12_readsWorks hd_X12_readsWorks rfl ⟨(Nat.le_of_ble_eq_true rfl), (Nat.le_of_ble_eq_true rfl)⟩ ⟨Nat.le_refl 0, Nat.le_refl 0⟩ hl.1 (Nat.le_of_ble_eq_true rfl) rfl dX12_readsAll_125) (fun H locs hP hS => ?_)
                    refine lv_goto (tgt := 136) hx hb dX12_readsAll_128 (by decide) ?_
                    exact j_J22 r47 σ48 _ _ _ hP hS (lv_sub hl [0] rfl) hf
                · replace hf := fx_ie c38 hf
                  refine lv_aload_n hx hb dX12_readsAll_107 rfl (lv_at hl 0 rfl) ?_
                  obtain ⟨r50, σ51, hc49, hf⟩ := fxBI_e hf
                  refine fx_ci hC hS (fx_runV (i := 0) (As := []) (rest := []) hC hP hS (ctX12_readsFine l hc49 D cy ad ec _) kM_0 (by decide) rfl kMV_X12_318 kC_X12_readsFine hd_X12_readsFine rfl ⟨(Nat.le_of_ble_eq_true rfl), (Nat.le_of_ble_eq_true rfl)⟩ ⟨Nat.le_refl 0, Nat.le_refl 0⟩ hl.1 (Nat.le_of_ble_eq_true rfl) rfl dX12_readsAll_108) (fun H locs hP hS => ?_)
                  refine lv_goto (tgt := 136) hx hb dX12_readsAll_111 (by decide) ?_
                  exact j_J22 r50 σ51 _ _ _ hP hS (lv_sub hl [0] rfl) hf
              · replace hf := fx_ie c34 hf
                refine lv_aload_n hx hb dX12_readsAll_90 rfl (lv_at hl 0 rfl) ?_
                obtain ⟨r53, σ54, hc52, hf⟩ := fxBI_e hf
                refine fx_ci hC hS (fx_runV (i := 0) (As := []) (rest := []) hC hP hS (ctX12_readsFor l hc52 D cy ad ec _) kM_0 (by decide) rfl kMV_X12_315 kC_X12_readsFor hd_X12_readsFor rfl ⟨(Nat.le_of_ble_eq_true rfl), (Nat.le_of_ble_eq_true rfl)⟩ ⟨Nat.le_refl 0, Nat.le_refl 0⟩ hl.1 (Nat.le_of_ble_eq_true rfl) rfl dX12_readsAll_91) (fun H locs hP hS => ?_)
                refine lv_goto (tgt := 136) hx hb dX12_readsAll_94 (by decide) ?_
                exact j_J22 r53 σ54 _ _ _ hP hS (lv_sub hl [0] rfl) hf
            · replace hf := fx_ie c30 hf
              refine lv_aload_n hx hb dX12_readsAll_73 rfl (lv_at hl 0 rfl) ?_
              obtain ⟨r56, σ57, hc55, hf⟩ := fxBI_e hf
              refine fx_ci hC hS (fx_runV (i := 0) (As := []) (rest := []) hC hP hS (ctX12_readsParty l hc55 D cy ad ec _) kM_0 (by decide) rfl kMV_X12_312 kC_X12_readsParty hd_X12_readsParty rfl ⟨(Nat.le_of_ble_eq_true rfl), (Nat.le_of_ble_eq_true rfl)⟩ ⟨Nat.le_refl 0, Nat.le_refl 0⟩ hl.1 (Nat.le_of_ble_eq_true rfl) rfl dX12_readsAll_74) (fun H locs hP hS => ?_)
              refine lv_goto (tgt := 136) hx hb dX12_readsAll_77 (by decide) ?_
              exact j_J22 r56 σ57 _ _ _ hP hS (lv_sub hl [0] rfl) hf
          · replace hf := fx_ie c26 hf
            refine lv_aload_n hx hb dX12_readsAll_56 rfl (lv_at hl 0 rfl) ?_
            obtain ⟨r59, σ60, hc58, hf⟩ := fxBI_e hf
            refine fx_ci hC hS (fx_runV (i := 0) (As := []) (rest := []) hC hP hS (ctX12_readsWare l hc58 D cy ad ec _) kM_0 (by decide) rfl kMV_X12_309 kC_X12_readsWare hd_X12_readsWare rfl ⟨(Nat.le_of_ble_eq_true rfl), (Nat.le_of_ble_eq_true rfl)⟩ ⟨Nat.le_refl 0, Nat.le_refl 0⟩ hl.1 (Nat.le_of_ble_eq_true rfl) rfl dX12_readsAll_57) (fun H locs hP hS => ?_)
            refine lv_goto (tgt := 136) hx hb dX12_readsAll_60 (by decide) ?_
            exact j_J22 r59 σ60 _ _ _ hP hS (lv_sub hl [0] rfl) hf
    exact L61 FU σ12 _ _ _ hP hS (lv_sub hl [0] rfl) hf
  exact main _ _ _ hP hS hl

set_option maxHeartbeats 4000000 in
set_option maxRecDepth 100000 in
theorem ctX12_shifts (l : Launch) {a0 : Nat} {na0 : Nat} {a1 : Int32} {σ σ' : FH} (hf : fX12_shifts a0 na0 a1 σ = some σ') : fx_Mv l yX12_shifts cX12_shifts 3 none (0) LM (fun ad ec => [.ref (ad a0), .int a1]) σ σ' := by
  unfold fX12_shifts at hf
  obtain ⟨h_a0, hf⟩ := fxG_e hf
  refine fx_mv' (own := RX12) rfl (by decide +kernel) ?_
  intro p e s m args below meth c D cy ad ec A hC hr hk hP hS
  have hx := hC.1
  have hb := hC.2.1
  have hl := lv_entry ([.ref (ad a0), .int a1]) (n := 3) (Nat.le_of_ble_eq_true rfl)
  show W _ _ _ _ _ _ _ _ _ _ _ _ _ _ _ (entryFrame m ([.ref (ad a0), .int a1] : List Value).toArray 3)
  rw [lg_entry_eq]
  generalize (lg_sl ([.ref (ad a0), .int a1]) ++ List.replicate (3 - (lg_sl ([.ref (ad a0), .int a1])).length) Slot.unset).toArray = ls at hl ⊢
  have hl : lv_has ls 3 [(0, .ref (ad a0)), (1, .int a1)] := hl
  have main : ∀ (H : Heap) (locs : List Loc) (ls : Array Slot), fx_P D cy LM ad σ H → va_S A s.heap H locs → lv_has ls 3 [(0, .ref (ad a0)), (1, .int a1)] → W p l e (fx_R (0)) s m args below meth c H locs 0 0 (fx_Qv D cy LM ad A below args s σ') (F0 m 0 ls []) := by
    intro H locs ls hP hS hl
    refine lv_iconst hx hb dX12_shifts_0 ki_0 ?_
    refine lv_istore_n (lv' := [(2, .int 0), (0, .ref (ad a0)), (1, .int a1)]) hx hb dX12_shifts_1 rfl hl (by decide) rfl (fun ls hl => ?_)
    obtain ⟨K1, hK1, hf⟩ := fxL_e hf
    have k_K1 : ∀ (σ2 : FH) (H : Heap) (locs : List Loc) (ls : Array Slot), fx_P D cy LM ad σ2 H → va_S A s.heap H locs → lv_has ls 3 [] → K1 σ2 = some σ' → W p l e (fx_R (0)) s m args below meth c H locs 0 0 (fx_Qv D cy LM ad A below args s σ') (F0 m 21 ls []) := by
      intro σ2 H locs ls hP hS hl hf
      replace hf := fxk1 hK1 hf
      exact fx_vretf hf hC hr hk hP hS dX12_shifts_21
    have L11 : ∀ (n6 : Nat) (w3 : Int32) (σ4 : FH) (H : Heap) (locs : List Loc) (ls : Array Slot), fx_P D cy LM ad σ4 H → va_S A s.heap H locs → lv_has ls 3 [(0, .ref (ad a0)), (1, .int a1), (2, .int w3)] → fX12_shifts_2 a0 na0 a1 K1 n6 w3 σ4 = some σ' → W p l e (fx_R (0)) s m args below meth c H locs 0 0 (fx_Qv D cy LM ad A below args s σ') (F0 m 2 ls []) := by
      intro n6
      induction n6 with
      | zero =>
        intro w3 σ4 H locs ls hP hS hl hf
        rw [fX12_shifts_2] at hf
        cases hf
      | succ n6 ih5 =>
        intro w3 σ4 H locs ls hP hS hl hf
        rw [fX12_shifts_2] at hf
        refine lv_iload_n hx hb dX12_shifts_2 rfl (lv_at hl 2 rfl) ?_
        refine lv_iload_n hx hb dX12_shifts_3 rfl (lv_at hl 1 rfl) ?_
        refine lv_icmp_ge (tgt := 21) hx hb dX12_shifts_4 (by decide) (fun c7 => ?_) (fun c7 => ?_)
        · replace hf := fx_it c7 hf
          exact k_K1 σ4 _ _ _ hP hS (lv_sub hl [] rfl) hf
        · replace hf := fx_ie c7 hf
          refine lv_aload_n hx hb dX12_shifts_7 rfl (lv_at hl 0 rfl) ?_
          refine lv_iload_n hx hb dX12_shifts_8 rfl (lv_at hl 2 rfl) ?_
          refine lv_aload_n hx hb dX12_shifts_9 rfl (lv_at hl 0 rfl) ?_
          refine lv_iload_n hx hb dX12_shifts_10 rfl (lv_at hl 1 rfl) ?_
          refine lv_iload_n hx hb dX12_shifts_11 rfl (lv_at hl 2 rfl) ?_
          refine lv_iadd hx hb dX12_shifts_12 ?_
          obtain ⟨h8, hf⟩ := fxG_e hf
          refine fx_iald hC hP h_a0 (fx_inp h8) dX12_shifts_13 ?_
          obtain ⟨h9, hf⟩ := fxG_e hf
          obtain ⟨σ10, eσ10, hf⟩ := fxL_e hf
          refine fx_iast hC hP hS h_a0 (fx_inp h9) dX12_shifts_14 (fun H locs hP hS => ?_)
          replace hP := fx_Pe eσ10 hP
          refine lv_iinc (v := (w3 + 1)) (lv' := [(2, .int (w3 + 1)), (0, .ref (ad a0)), (1, .int a1)]) hx hb dX12_shifts_15 hl (k := 2) rfl (congrArg (fun z => w3 + z) ki_1) (by decide) rfl (fun ls hl => ?_)
          refine lv_goto (tgt := 2) hx hb dX12_shifts_18 (by decide) ?_
          exact ih5 (w3 + 1) σ10 _ _ _ hP hS (lv_sub hl [1, 2, 0] rfl) hf
    exact L11 FU 0 σ _ _ _ hP hS (lv_sub hl [1, 2, 0] rfl) hf
  exact main _ _ _ hP hS hl

set_option maxHeartbeats 4000000 in
set_option maxRecDepth 100000 in
theorem ctX12_shiftsNames (l : Launch) {a0 : Nat} {na0 : Nat} {a1 : Int32} {σ σ' : FH} (hf : fX12_shiftsNames a0 na0 a1 σ = some σ') : fx_Mv l yX12_shiftsNames cX12_shiftsNames 3 none (0) LM (fun ad ec => [.ref (ad a0), .int a1]) σ σ' := by
  unfold fX12_shiftsNames at hf
  obtain ⟨h_a0, hf⟩ := fxG_e hf
  refine fx_mv' (own := RX12) rfl (by decide +kernel) ?_
  intro p e s m args below meth c D cy ad ec A hC hr hk hP hS
  have hx := hC.1
  have hb := hC.2.1
  have hl := lv_entry ([.ref (ad a0), .int a1]) (n := 3) (Nat.le_of_ble_eq_true rfl)
  show W _ _ _ _ _ _ _ _ _ _ _ _ _ _ _ (entryFrame m ([.ref (ad a0), .int a1] : List Value).toArray 3)
  rw [lg_entry_eq]
  generalize (lg_sl ([.ref (ad a0), .int a1]) ++ List.replicate (3 - (lg_sl ([.ref (ad a0), .int a1])).length) Slot.unset).toArray = ls at hl ⊢
  have hl : lv_has ls 3 [(0, .ref (ad a0)), (1, .int a1)] := hl
  have main : ∀ (H : Heap) (locs : List Loc) (ls : Array Slot), fx_P D cy LM ad σ H → va_S A s.heap H locs → lv_has ls 3 [(0, .ref (ad a0)), (1, .int a1)] → W p l e (fx_R (0)) s m args below meth c H locs 0 0 (fx_Qv D cy LM ad A below args s σ') (F0 m 0 ls []) := by
    intro H locs ls hP hS hl
    refine lv_iconst hx hb dX12_shiftsNames_0 ki_0 ?_
    refine lv_istore_n (lv' := [(2, .int 0), (0, .ref (ad a0)), (1, .int a1)]) hx hb dX12_shiftsNames_1 rfl hl (by decide) rfl (fun ls hl => ?_)
    obtain ⟨K1, hK1, hf⟩ := fxL_e hf
    have k_K1 : ∀ (σ2 : FH) (H : Heap) (locs : List Loc) (ls : Array Slot), fx_P D cy LM ad σ2 H → va_S A s.heap H locs → lv_has ls 3 [] → K1 σ2 = some σ' → W p l e (fx_R (0)) s m args below meth c H locs 0 0 (fx_Qv D cy LM ad A below args s σ') (F0 m 21 ls []) := by
      intro σ2 H locs ls hP hS hl hf
      replace hf := fxk1 hK1 hf
      exact fx_vretf hf hC hr hk hP hS dX12_shiftsNames_21
    have L11 : ∀ (n6 : Nat) (w3 : Int32) (σ4 : FH) (H : Heap) (locs : List Loc) (ls : Array Slot), fx_P D cy LM ad σ4 H → va_S A s.heap H locs → lv_has ls 3 [(0, .ref (ad a0)), (1, .int a1), (2, .int w3)] → fX12_shiftsNames_2 a0 na0 a1 K1 n6 w3 σ4 = some σ' → W p l e (fx_R (0)) s m args below meth c H locs 0 0 (fx_Qv D cy LM ad A below args s σ') (F0 m 2 ls []) := by
      intro n6
      induction n6 with
      | zero =>
        intro w3 σ4 H locs ls hP hS hl hf
        rw [fX12_shiftsNames_2] at hf
        cases hf
      | succ n6 ih5 =>
        intro w3 σ4 H locs ls hP hS hl hf
        rw [fX12_shiftsNames_2] at hf
        refine lv_iload_n hx hb dX12_shiftsNames_2 rfl (lv_at hl 2 rfl) ?_
        refine lv_iload_n hx hb dX12_shiftsNames_3 rfl (lv_at hl 1 rfl) ?_
        refine lv_icmp_ge (tgt := 21) hx hb dX12_shiftsNames_4 (by decide) (fun c7 => ?_) (fun c7 => ?_)
        · replace hf := fx_it c7 hf
          exact k_K1 σ4 _ _ _ hP hS (lv_sub hl [] rfl) hf
        · replace hf := fx_ie c7 hf
          refine lv_aload_n hx hb dX12_shiftsNames_7 rfl (lv_at hl 0 rfl) ?_
          refine lv_iload_n hx hb dX12_shiftsNames_8 rfl (lv_at hl 2 rfl) ?_
          refine lv_aload_n hx hb dX12_shiftsNames_9 rfl (lv_at hl 0 rfl) ?_
          refine lv_iload_n hx hb dX12_shiftsNames_10 rfl (lv_at hl 1 rfl) ?_
          refine lv_iload_n hx hb dX12_shiftsNames_11 rfl (lv_at hl 2 rfl) ?_
          refine lv_iadd hx hb dX12_shiftsNames_12 ?_
          obtain ⟨h8, hf⟩ := fxG_e hf
          refine fx_lald hC hP h_a0 (fx_inp h8) dX12_shiftsNames_13 ?_
          obtain ⟨h9, hf⟩ := fxG_e hf
          obtain ⟨σ10, eσ10, hf⟩ := fxL_e hf
          refine fx_last hC hP hS h_a0 (fx_inp h9) dX12_shiftsNames_14 (fun H locs hP hS => ?_)
          replace hP := fx_Pe eσ10 hP
          refine lv_iinc (v := (w3 + 1)) (lv' := [(2, .int (w3 + 1)), (0, .ref (ad a0)), (1, .int a1)]) hx hb dX12_shiftsNames_15 hl (k := 2) rfl (congrArg (fun z => w3 + z) ki_1) (by decide) rfl (fun ls hl => ?_)
          refine lv_goto (tgt := 2) hx hb dX12_shiftsNames_18 (by decide) ?_
          exact ih5 (w3 + 1) σ10 _ _ _ hP hS (lv_sub hl [1, 2, 0] rfl) hf
    exact L11 FU 0 σ _ _ _ hP hS (lv_sub hl [1, 2, 0] rfl) hf
  exact main _ _ _ hP hS hl

set_option maxHeartbeats 4000000 in
set_option maxRecDepth 100000 in
theorem ctX12_lays (l : Launch) {σ σ' : FH} (hf : fX12_lays σ = some σ') : fx_Mv l yX12_lays cX12_lays 1 none (1) LM (fun ad ec => [.ref (ad 0)]) σ σ' := by
  unfold fX12_lays at hf
  refine fx_mv' (own := RX12) rfl (by decide +kernel) ?_
  intro p e s m args below meth c D cy ad ec A hC hr hk hP hS
  have hx := hC.1
  have hb := hC.2.1
  have hl := lv_entry ([.ref (ad 0)]) (n := 1) (Nat.le_of_ble_eq_true rfl)
  show W _ _ _ _ _ _ _ _ _ _ _ _ _ _ _ (entryFrame m ([.ref (ad 0)] : List Value).toArray 1)
  rw [lg_entry_eq]
  generalize (lg_sl ([.ref (ad 0)]) ++ List.replicate (1 - (lg_sl ([.ref (ad 0)])).length) Slot.unset).toArray = ls at hl ⊢
  have hl : lv_has ls 1 [(0, .ref (ad 0))] := hl
  have main : ∀ (H : Heap) (locs : List Loc) (ls : Array Slot), fx_P D cy LM ad σ H → va_S A s.heap H locs → lv_has ls 1 [(0, .ref (ad 0))] → W p l e (fx_R (1)) s m args below meth c H locs 0 0 (fx_Qv D cy LM ad A below args s σ') (F0 m 0 ls []) := by
    intro H locs ls hP hS hl
    refine lv_aload_n hx hb dX12_lays_0 rfl (lv_at hl 0 rfl) ?_
    refine gf_X12_13 (v := .ref (ad 2)) hC hP kM_0 rfl dX12_lays_1 ?_
    refine lv_iconst hx hb dX12_lays_4 ki_3 ?_
    obtain ⟨σ3, hc1, hf⟩ := fxBV_e hf
    refine fx_cv hC hS (fx_runS (As := [.ref (ad 2), .int 3]) (rest := []) hC hP hS (ctX12_shifts l hc1 D cy ad ec _) kMS_X12_324 kC_X12_shifts hd_X12_shifts.2 rfl ⟨(Nat.le_of_ble_eq_true rfl), (Nat.le_of_ble_eq_true rfl)⟩ ⟨Nat.le_refl 0, Nat.le_refl 0⟩ hl.1 (Nat.le_of_ble_eq_true rfl) rfl dX12_lays_5) (fun H locs hP hS => ?_)
    refine lv_aload_n hx hb dX12_lays_8 rfl (lv_at hl 0 rfl) ?_
    refine gf_X12_16 (v := .ref (ad 3)) hC hP kM_0 rfl dX12_lays_9 ?_
    refine lv_bipush hx hb dX12_lays_12 kb_6 ?_
    obtain ⟨σ6, hc4, hf⟩ := fxBV_e hf
    refine fx_cv hC hS (fx_runS (As := [.ref (ad 3), .int 6]) (rest := []) hC hP hS (ctX12_shiftsNames l hc4 D cy ad ec _) kMS_X12_328 kC_X12_shiftsNames hd_X12_shiftsNames.2 rfl ⟨(Nat.le_of_ble_eq_true rfl), (Nat.le_of_ble_eq_true rfl)⟩ ⟨Nat.le_refl 0, Nat.le_refl 0⟩ hl.1 (Nat.le_of_ble_eq_true rfl) rfl dX12_lays_14) (fun H locs hP hS => ?_)
    refine lv_aload_n hx hb dX12_lays_17 rfl (lv_at hl 0 rfl) ?_
    refine gf_X12_20 (v := .ref (ad 4)) hC hP kM_0 rfl dX12_lays_18 ?_
    refine lv_iconst hx hb dX12_lays_21 ki_5 ?_
    obtain ⟨σ9, hc7, hf⟩ := fxBV_e hf
    refine fx_cv hC hS (fx_runS (As := [.ref (ad 4), .int 5]) (rest := []) hC hP hS (ctX12_shiftsNames l hc7 D cy ad ec _) kMS_X12_328 kC_X12_shiftsNames hd_X12_shiftsNames.2 rfl ⟨(Nat.le_of_ble_eq_true rfl), (Nat.le_of_ble_eq_true rfl)⟩ ⟨Nat.le_refl 0, Nat.le_refl 0⟩ hl.1 (Nat.le_of_ble_eq_true rfl) rfl dX12_lays_22) (fun H locs hP hS => ?_)
    refine lv_aload_n hx hb dX12_lays_25 rfl (lv_at hl 0 rfl) ?_
    refine gf_X12_23 (v := .ref (ad 5)) hC hP kM_0 rfl dX12_lays_26 ?_
    refine lv_bipush hx hb dX12_lays_29 kb_6 ?_
    obtain ⟨σ12, hc10, hf⟩ := fxBV_e hf
    refine fx_cv hC hS (fx_runS (As := [.ref (ad 5), .int 6]) (rest := []) hC hP hS (ctX12_shifts l hc10 D cy ad ec _) kMS_X12_324 kC_X12_shifts hd_X12_shifts.2 rfl ⟨(Nat.le_of_ble_eq_true rfl), (Nat.le_of_ble_eq_true rfl)⟩ ⟨Nat.le_refl 0, Nat.le_refl 0⟩ hl.1 (Nat.le_of_ble_eq_true rfl) rfl dX12_lays_31) (fun H locs hP hS => ?_)
    refine lv_aload_n hx hb dX12_lays_34 rfl (lv_at hl 0 rfl) ?_
    refine gf_X12_26 (v := .ref (ad 6)) hC hP kM_0 rfl dX12_lays_35 ?_
    refine lv_bipush hx hb dX12_lays_38 kb_6 ?_
    obtain ⟨σ15, hc13, hf⟩ := fxBV_e hf
    refine fx_cv hC hS (fx_runS (As := [.ref (ad 6), .int 6]) (rest := []) hC hP hS (ctX12_shifts l hc13 D cy ad ec _) kMS_X12_324 kC_X12_shifts hd_X12_shifts.2 rfl ⟨(Nat.le_of_ble_eq_true rfl), (Nat.le_of_ble_eq_true rfl)⟩ ⟨Nat.le_refl 0, Nat.le_refl 0⟩ hl.1 (Nat.le_of_ble_eq_true rfl) rfl dX12_lays_40) (fun H locs hP hS => ?_)
    refine lv_aload_n hx hb dX12_lays_43 rfl (lv_at hl 0 rfl) ?_
    refine gf_X12_29 (v := .ref (ad 7)) hC hP kM_0 rfl dX12_lays_44 ?_
    refine lv_bipush hx hb dX12_lays_47 kb_6 ?_
    obtain ⟨σ18, hc16, hf⟩ := fxBV_e hf
    refine fx_cv hC hS (fx_runS (As := [.ref (ad 7), .int 6]) (rest := []) hC hP hS (ctX12_shifts l hc16 D cy ad ec _) kMS_X12_324 kC_X12_shifts hd_X12_shifts.2 rfl ⟨(Nat.le_of_ble_eq_true rfl), (Nat.le_of_ble_eq_true rfl)⟩ ⟨Nat.le_refl 0, Nat.le_refl 0⟩ hl.1 (Nat.le_of_ble_eq_true rfl) rfl dX12_lays_49) (fun H locs hP hS => ?_)
    refine lv_aload_n hx hb dX12_lays_52 rfl (lv_at hl 0 rfl) ?_
    refine gf_X12_32 (v := .ref (ad 8)) hC hP kM_0 rfl dX12_lays_53 ?_
    refine lv_iconst hx hb dX12_lays_56 ki_5 ?_
    obtain ⟨σ21, hc19, hf⟩ := fxBV_e hf
    refine fx_cv hC hS (fx_runS (As := [.ref (ad 8), .int 5]) (rest := []) hC hP hS (ctX12_shifts l hc19 D cy ad ec _) kMS_X12_324 kC_X12_shifts hd_X12_shifts.2 rfl ⟨(Nat.le_of_ble_eq_true rfl), (Nat.le_of_ble_eq_true rfl)⟩ ⟨Nat.le_refl 0, Nat.le_refl 0⟩ hl.1 (Nat.le_of_ble_eq_true rfl) rfl dX12_lays_57) (fun H locs hP hS => ?_)
    refine lv_aload_n hx hb dX12_lays_60 rfl (lv_at hl 0 rfl) ?_
    refine gf_X12_35 (v := .ref (ad 9)) hC hP kM_0 rfl dX12_lays_61 ?_
    refine lv_iconst hx hb dX12_lays_64 ki_5 ?_
    obtain ⟨σ24, hc22, hf⟩ := fxBV_e hf
    refine fx_cv hC hS (fx_runS (As := [.ref (ad 9), .int 5]) (rest := []) hC hP hS (ctX12_shifts l hc22 D cy ad ec _) kMS_X12_324 kC_X12_shifts hd_X12_shifts.2 rfl ⟨(Nat.le_of_ble_eq_true rfl), (Nat.le_of_ble_eq_true rfl)⟩ ⟨Nat.le_refl 0, Nat.le_refl 0⟩ hl.1 (Nat.le_of_ble_eq_true rfl) rfl dX12_lays_65) (fun H locs hP hS => ?_)
    refine lv_aload_n hx hb dX12_lays_68 rfl (lv_at hl 0 rfl) ?_
    refine gf_X12_44 (v := .ref (ad 12)) hC hP kM_0 rfl dX12_lays_69 ?_
    refine lv_sipush hx hb dX12_lays_72 ks_1000 ?_
    obtain ⟨σ27, hc25, hf⟩ := fxBV_e hf
    refine fx_cv hC hS (fx_runS (As := [.ref (ad 12), .int 1000]) (rest := []) hC hP hS (ctX12_shifts l hc25 D cy ad ec _) kMS_X12_324 kC_X12_shifts hd_X12_shifts.2 rfl ⟨(Nat.le_of_ble_eq_true rfl), (Nat.le_of_ble_eq_true rfl)⟩ ⟨Nat.le_refl 0, Nat.le_refl 0⟩ hl.1 (Nat.le_of_ble_eq_true rfl) rfl dX12_lays_75) (fun H locs hP hS => ?_)
    refine lv_aload_n hx hb dX12_lays_78 rfl (lv_at hl 0 rfl) ?_
    refine gf_X12_38 (v := .ref (ad 10)) hC hP kM_0 rfl dX12_lays_79 ?_
    refine lv_iconst hx hb dX12_lays_82 ki_0 ?_
    refine lv_aload_n hx hb dX12_lays_83 rfl (lv_at hl 0 rfl) ?_
    refine gf_X12_38 (v := .ref (ad 10)) hC hP kM_0 rfl dX12_lays_84 ?_
    refine lv_iconst hx hb dX12_lays_87 ki_1 ?_
    obtain ⟨h28, hf⟩ := fxG_e hf
    refine fx_iald hC hP kM_10 (fx_inp h28) dX12_lays_88 ?_
    refine lv_sipush hx hb dX12_lays_89 ks_1000 ?_
    refine lv_isub hx hb dX12_lays_92 ?_
    obtain ⟨h29, hf⟩ := fxG_e hf
    obtain ⟨σ30, eσ30, hf⟩ := fxL_e hf
    refine fx_iast hC hP hS kM_10 (fx_inp h29) dX12_lays_93 (fun H locs hP hS => ?_)
    replace hP := fx_Pe eσ30 hP
    refine lv_aload_n hx hb dX12_lays_94 rfl (lv_at hl 0 rfl) ?_
    refine gf_X12_41 (v := .ref (ad 11)) hC hP kM_0 rfl dX12_lays_95 ?_
    refine lv_iconst hx hb dX12_lays_98 ki_0 ?_
    refine lv_aload_n hx hb dX12_lays_99 rfl (lv_at hl 0 rfl) ?_
    refine gf_X12_41 (v := .ref (ad 11)) hC hP kM_0 rfl dX12_lays_100 ?_
    refine lv_iconst hx hb dX12_lays_103 ki_1 ?_
    obtain ⟨h31, hf⟩ := fxG_e hf
    refine fx_iald hC hP kM_11 (fx_inp h31) dX12_lays_104 ?_
    refine lv_sipush hx hb dX12_lays_105 ks_1000 ?_
    refine lv_isub hx hb dX12_lays_108 ?_
    obtain ⟨h32, hf⟩ := fxG_e hf
    obtain ⟨σ33, eσ33, hf⟩ := fxL_e hf
    refine fx_iast hC hP hS kM_11 (fx_inp h32) dX12_lays_109 (fun H locs hP hS => ?_)
    replace hP := fx_Pe eσ33 hP
    exact fx_vretf hf hC hr hk hP hS dX12_lays_110
  exact main _ _ _ hP hS hl

set_option maxHeartbeats 4000000 in
set_option maxRecDepth 100000 in
theorem ctX12_copies (l : Launch) {a0 : Nat} {na0 : Nat} {a1 : Int32} {a2 : Nat} {na2 : Nat} {a3 : Int32} {σ σ' : FH} (hf : fX12_copies a0 na0 a1 a2 na2 a3 σ = some σ') : fx_Mv l yX12_copies cX12_copies 5 none (0) LM (fun ad ec => [.ref (ad a0), .int a1, .ref (ad a2), .int a3]) σ σ' := by
  unfold fX12_copies at hf
  obtain ⟨h_a0, hf⟩ := fxG_e hf
  obtain ⟨h_a2, hf⟩ := fxG_e hf
  refine fx_mv' (own := RX12) rfl (by decide +kernel) ?_
  intro p e s m args below meth c D cy ad ec A hC hr hk hP hS
  have hx := hC.1
  have hb := hC.2.1
  have hl := lv_entry ([.ref (ad a0), .int a1, .ref (ad a2), .int a3]) (n := 5) (Nat.le_of_ble_eq_true rfl)
  show W _ _ _ _ _ _ _ _ _ _ _ _ _ _ _ (entryFrame m ([.ref (ad a0), .int a1, .ref (ad a2), .int a3] : List Value).toArray 5)
  rw [lg_entry_eq]
  generalize (lg_sl ([.ref (ad a0), .int a1, .ref (ad a2), .int a3]) ++ List.replicate (5 - (lg_sl ([.ref (ad a0), .int a1, .ref (ad a2), .int a3])).length) Slot.unset).toArray = ls at hl ⊢
  have hl : lv_has ls 5 [(0, .ref (ad a0)), (1, .int a1), (2, .ref (ad a2)), (3, .int a3)] := hl
  have main : ∀ (H : Heap) (locs : List Loc) (ls : Array Slot), fx_P D cy LM ad σ H → va_S A s.heap H locs → lv_has ls 5 [(0, .ref (ad a0)), (1, .int a1), (2, .ref (ad a2)), (3, .int a3)] → W p l e (fx_R (0)) s m args below meth c H locs 0 0 (fx_Qv D cy LM ad A below args s σ') (F0 m 0 ls []) := by
    intro H locs ls hP hS hl
    refine lv_iconst hx hb dX12_copies_0 ki_0 ?_
    refine lv_istore (lv' := [(4, .int 0), (0, .ref (ad a0)), (1, .int a1), (2, .ref (ad a2)), (3, .int a3)]) hx hb dX12_copies_1 hl (by decide) rfl (fun ls hl => ?_)
    obtain ⟨K1, hK1, hf⟩ := fxL_e hf
    have k_K1 : ∀ (σ2 : FH) (H : Heap) (locs : List Loc) (ls : Array Slot), fx_P D cy LM ad σ2 H → va_S A s.heap H locs → lv_has ls 5 [] → K1 σ2 = some σ' → W p l e (fx_R (0)) s m args below meth c H locs 0 0 (fx_Qv D cy LM ad A below args s σ') (F0 m 28 ls []) := by
      intro σ2 H locs ls hP hS hl hf
      replace hf := fxk1 hK1 hf
      exact fx_vretf hf hC hr hk hP hS dX12_copies_28
    have L11 : ∀ (n6 : Nat) (w3 : Int32) (σ4 : FH) (H : Heap) (locs : List Loc) (ls : Array Slot), fx_P D cy LM ad σ4 H → va_S A s.heap H locs → lv_has ls 5 [(0, .ref (ad a0)), (1, .int a1), (2, .ref (ad a2)), (3, .int a3), (4, .int w3)] → fX12_copies_3 a0 na0 a1 a2 na2 a3 K1 n6 w3 σ4 = some σ' → W p l e (fx_R (0)) s m args below meth c H locs 0 0 (fx_Qv D cy LM ad A below args s σ') (F0 m 3 ls []) := by
      intro n6
      induction n6 with
      | zero =>
        intro w3 σ4 H locs ls hP hS hl hf
        rw [fX12_copies_3] at hf
        cases hf
      | succ n6 ih5 =>
        intro w3 σ4 H locs ls hP hS hl hf
        rw [fX12_copies_3] at hf
        refine lv_iload hx hb dX12_copies_3 (lv_at hl 4 rfl) ?_
        refine lv_bipush hx hb dX12_copies_5 kb_14 ?_
        refine lv_icmp_ge (tgt := 28) hx hb dX12_copies_7 (by decide) (fun c7 => ?_) (fun c7 => ?_)
        · replace hf := fx_it c7 hf
          exact k_K1 σ4 _ _ _ hP hS (lv_sub hl [] rfl) hf
        · replace hf := fx_ie c7 hf
          refine lv_aload_n hx hb dX12_copies_10 rfl (lv_at hl 2 rfl) ?_
          refine lv_iload_n hx hb dX12_copies_11 rfl (lv_at hl 3 rfl) ?_
          refine lv_iload hx hb dX12_copies_12 (lv_at hl 4 rfl) ?_
          refine lv_iadd hx hb dX12_copies_14 ?_
          refine lv_aload_n hx hb dX12_copies_15 rfl (lv_at hl 0 rfl) ?_
          refine lv_iload_n hx hb dX12_copies_16 rfl (lv_at hl 1 rfl) ?_
          refine lv_iload hx hb dX12_copies_17 (lv_at hl 4 rfl) ?_
          refine lv_iadd hx hb dX12_copies_19 ?_
          obtain ⟨h8, hf⟩ := fxG_e hf
          refine fx_iald hC hP h_a0 (fx_inp h8) dX12_copies_20 ?_
          obtain ⟨h9, hf⟩ := fxG_e hf
          obtain ⟨σ10, eσ10, hf⟩ := fxL_e hf
          refine fx_iast hC hP hS h_a2 (fx_inp h9) dX12_copies_21 (fun H locs hP hS => ?_)
          replace hP := fx_Pe eσ10 hP
          refine lv_iinc (v := (w3 + 1)) (lv' := [(4, .int (w3 + 1)), (0, .ref (ad a0)), (1, .int a1), (2, .ref (ad a2)), (3, .int a3)]) hx hb dX12_copies_22 hl (k := 4) rfl (congrArg (fun z => w3 + z) ki_1) (by decide) rfl (fun ls hl => ?_)
          refine lv_goto (tgt := 3) hx hb dX12_copies_25 (by decide) ?_
          exact ih5 (w3 + 1) σ10 _ _ _ hP hS (lv_sub hl [1, 2, 3, 4, 0] rfl) hf
    exact L11 FU 0 σ _ _ _ hP hS (lv_sub hl [1, 2, 3, 4, 0] rfl) hf
  exact main _ _ _ hP hS hl

set_option maxHeartbeats 4000000 in
set_option maxRecDepth 100000 in
theorem ctX12_readsLine (l : Launch) {σ σ' : FH} {v : Int32} (hf : fX12_readsLine σ = some (v, σ')) : fx_Mi l yX12_readsLine cX12_readsLine 3 (some .boolean) (3) LM (fun ad ec => [.ref (ad 0)]) σ v σ' := by
  unfold fX12_readsLine at hf
  refine fx_mi' (own := RX12) rfl (by decide +kernel) ?_
  intro p e s m args below meth c D cy ad ec A hC hr hk hP hS
  have hx := hC.1
  have hb := hC.2.1
  have hl := lv_entry ([.ref (ad 0)]) (n := 3) (Nat.le_of_ble_eq_true rfl)
  show W _ _ _ _ _ _ _ _ _ _ _ _ _ _ _ (entryFrame m ([.ref (ad 0)] : List Value).toArray 3)
  rw [lg_entry_eq]
  generalize (lg_sl ([.ref (ad 0)]) ++ List.replicate (3 - (lg_sl ([.ref (ad 0)])).length) Slot.unset).toArray = ls at hl ⊢
  have hl : lv_has ls 3 [(0, .ref (ad 0))] := hl
  have main : ∀ (H : Heap) (locs : List Loc) (ls : Array Slot), fx_P D cy LM ad σ H → va_S A s.heap H locs → lv_has ls 3 [(0, .ref (ad 0))] → W p l e (fx_R (3)) s m args below meth c H locs 0 0 (fx_Qi D cy LM ad A below args s v σ') (F0 m 0 ls []) := by
    intro H locs ls hP hS hl
    refine lv_aload_n hx hb dX12_readsLine_0 rfl (lv_at hl 0 rfl) ?_
    refine lv_ldc2 (own := RX12) (v := 464141) hx hb hC.2.2.2.1 (hC.2.2.2.2.1 _ kK_X12_235) dX12_readsLine_1 ?_
    obtain ⟨r2, hc1, hf⟩ := fxBP_e hf
    refine fx_ci hC hS (fx_runV (i := 0) (As := [.long 464141]) (rest := []) hC hP hS (ctX12_isWord l hc1 D cy ad ec _) kM_0 (by decide) rfl kMV_X12_189 kC_X12_isWord hd_X12_isWord rfl ⟨(Nat.le_of_ble_eq_true rfl), (Nat.le_of_ble_eq_true rfl)⟩ ⟨Nat.le_refl 0, Nat.le_refl 0⟩ hl.1 (Nat.le_of_ble_eq_true rfl) rfl dX12_readsLine_4) (fun H locs hP hS => ?_)
    obtain ⟨J4, hJ4, hf⟩ := fxL_e hf
    have j_J4 : ∀ (y5 : Int32) (H : Heap) (locs : List Loc) (ls : Array Slot), fx_P D cy LM ad σ H → va_S A s.heap H locs → lv_has ls 3 [(0, .ref (ad 0))] → J4 y5 = some (v, σ') → W p l e (fx_R (3)) s m args below meth c H locs 0 0 (fx_Qi D cy LM ad A below args s v σ') (F0 m 71 ls [.int y5]) := by
      intro y5 H locs ls hP hS hl hf
      replace hf := fxk1 hJ4 hf
      refine lv_istore_n (lv' := [(1, .int y5), (0, .ref (ad 0))]) hx hb dX12_readsLine_71 rfl hl (by decide) rfl (fun ls hl => ?_)
      refine lv_iload_n hx hb dX12_readsLine_72 rfl (lv_at hl 0 rfl) ?_
      refine lv_if_ge (tgt := 82) hx hb dX12_readsLine_73 (by decide) (fun c6 => ?_) (fun c6 => ?_)
      · replace hf := fx_it c6 hf
        refine lv_aload_n hx hb dX12_readsLine_82 rfl (lv_at hl 1 rfl) ?_
        refine gf_X12_84 (v := .ref (ad 25)) hC hP kM_0 rfl dX12_readsLine_83 ?_
        refine lv_iconst hx hb dX12_readsLine_86 ki_5 ?_
        obtain ⟨h7, hf⟩ := fxG_e hf
        refine fx_iald hC hP kM_25 (fx_inp h7) dX12_readsLine_87 ?_
        refine lv_bipush hx hb dX12_readsLine_88 kb_40 ?_
        refine lv_icmp_ne (tgt := 99) hx hb dX12_readsLine_90 (by decide) (fun c8 => ?_) (fun c8 => ?_)
        · replace hf := fx_ie c8 hf
          refine lv_aload_n hx hb dX12_readsLine_99 rfl (lv_at hl 1 rfl) ?_
          obtain ⟨σ11, hc9, hf⟩ := fxBV_e hf
          refine fx_cv hC hS (fx_runV (i := 0) (As := []) (rest := []) hC hP hS (ctX12_nextToken l hc9 D cy ad ec _) kM_0 (by decide) rfl kMV_X12_203 kC_X12_nextToken hd_X12_nextToken rfl ⟨(Nat.le_of_ble_eq_true rfl), (Nat.le_of_ble_eq_true rfl)⟩ ⟨Nat.le_refl 0, Nat.le_refl 0⟩ hl.1 (Nat.le_of_ble_eq_true rfl) rfl dX12_readsLine_100) (fun H locs hP hS => ?_)
          refine lv_sipush hx hb dX12_readsLine_103 ks_200 ?_
          refine lv_aload_n hx hb dX12_readsLine_106 rfl (lv_at hl 1 rfl) ?_
          refine gf_X12_84 (v := .ref (ad 25)) hC hP kM_0 rfl dX12_readsLine_107 ?_
          refine lv_iconst hx hb dX12_readsLine_110 ki_5 ?_
          obtain ⟨h12, hf⟩ := fxG_e hf
          refine fx_iald hC hP kM_25 (fx_inp h12) dX12_readsLine_111 ?_
          refine lv_iadd hx hb dX12_readsLine_112 ?_
          obtain ⟨v13, ev13, hf⟩ := fxL_e hf
          refine fx_ti ev13 ?_
          refine lv_istore_n (lv' := [(2, .int v13), (1, .int y5), (0, .ref (ad 0))]) hx hb dX12_readsLine_113 rfl hl (by decide) rfl (fun ls hl => ?_)
          refine lv_aload_n hx hb dX12_readsLine_114 rfl (lv_at hl 2 rfl) ?_
          refine gf_X12_87 (v := .ref (ad 26)) hC hP kM_0 rfl dX12_readsLine_115 ?_
          refine lv_iload_n hx hb dX12_readsLine_118 rfl (lv_at hl 0 rfl) ?_
          refine lv_iload_n hx hb dX12_readsLine_119 rfl (lv_at hl 1 rfl) ?_
          obtain ⟨h14, hf⟩ := fxG_e hf
          obtain ⟨σ15, eσ15, hf⟩ := fxL_e hf
          refine fx_iast hC hP hS kM_26 (fx_inp h14) dX12_readsLine_120 (fun H locs hP hS => ?_)
          replace hP := fx_Pe eσ15 hP
          refine lv_iload_n hx hb dX12_readsLine_121 rfl (lv_at hl 1 rfl) ?_
          refine lv_iconst hx hb dX12_readsLine_122 ki_4 ?_
          obtain ⟨J16, hJ16, hf⟩ := fxL_e hf
          have j_J16 : ∀ (σ17 : FH) (H : Heap) (locs : List Loc) (ls : Array Slot), fx_P D cy LM ad σ17 H → va_S A s.heap H locs → lv_has ls 3 [(0, .ref (ad 0)), (1, .int y5), (2, .int v13)] → J16 σ17 = some (v, σ') → W p l e (fx_R (3)) s m args below meth c H locs 0 0 (fx_Qi D cy LM ad A below args s v σ') (F0 m 166 ls []) := by
            intro σ17 H locs ls hP hS hl hf
            replace hf := fxk1 hJ16 hf
            refine lv_iload_n hx hb dX12_readsLine_166 rfl (lv_at hl 1 rfl) ?_
            refine lv_iconst hx hb dX12_readsLine_167 ki_2 ?_
            obtain ⟨J18, hJ18, hf⟩ := fxL_e hf
            have j_J18 : ∀ (σ19 : FH) (H : Heap) (locs : List Loc) (ls : Array Slot), fx_P D cy LM ad σ19 H → va_S A s.heap H locs → lv_has ls 3 [(0, .ref (ad 0)), (1, .int y5), (2, .int v13)] → J18 σ19 = some (v, σ') → W p l e (fx_R (3)) s m args below meth c H locs 0 0 (fx_Qi D cy LM ad A below args s v σ') (F0 m 235 ls []) := by
              intro σ19 H locs ls hP hS hl hf
              replace hf := fxk1 hJ18 hf
              refine lv_iload_n hx hb dX12_readsLine_235 rfl (lv_at hl 1 rfl) ?_
              refine lv_iconst hx hb dX12_readsLine_236 ki_4 ?_
              obtain ⟨J20, hJ20, hf⟩ := fxL_e hf
              have j_J20 : ∀ (σ21 : FH) (H : Heap) (locs : List Loc) (ls : Array Slot), fx_P D cy LM ad σ21 H → va_S A s.heap H locs → lv_has ls 3 [(0, .ref (ad 0))] → J20 σ21 = some (v, σ') → W p l e (fx_R (3)) s m args below meth c H locs 0 0 (fx_Qi D cy LM ad A below args s v σ') (F0 m 267 ls []) := by
                intro σ21 H locs ls hP hS hl hf
                replace hf := fxk1 hJ20 hf
                refine lv_aload_n hx hb dX12_readsLine_267 rfl (lv_at hl 0 rfl) ?_
                refine gf_X12_84 (v := .ref (ad 25)) hC hP kM_0 rfl dX12_readsLine_268 ?_
                refine lv_iconst hx hb dX12_readsLine_271 ki_5 ?_
                refine lv_dup2_11 hx hb dX12_readsLine_272 rfl rfl ?_
                obtain ⟨h22, hf⟩ := fxG_e hf
                refine fx_iald hC hP kM_25 (fx_inp h22) dX12_readsLine_273 ?_
                refine lv_iconst hx hb dX12_readsLine_274 ki_1 ?_
                refine lv_iadd hx hb dX12_readsLine_275 ?_
                obtain ⟨h23, hf⟩ := fxG_e hf
                obtain ⟨σ24, eσ24, hf⟩ := fxL_e hf
                refine fx_iast hC hP hS kM_25 (fx_inp h23) dX12_readsLine_276 (fun H locs hP hS => ?_)
                replace hP := fx_Pe eσ24 hP
                refine lv_aload_n hx hb dX12_readsLine_277 rfl (lv_at hl 0 rfl) ?_
                obtain ⟨r26, σ27, hc25, hf⟩ := fxBI_e hf
                refine fx_ci hC hS (fx_runV (i := 0) (As := []) (rest := []) hC hP hS (ctX12_closes l hc25 D cy ad ec _) kM_0 (by decide) rfl kMV_X12_290 kC_X12_closes hd_X12_closes rfl ⟨(Nat.le_of_ble_eq_true rfl), (Nat.le_of_ble_eq_true rfl)⟩ ⟨Nat.le_refl 0, Nat.le_refl 0⟩ hl.1 (Nat.le_of_ble_eq_true rfl) rfl dX12_readsLine_278) (fun H locs hP hS => ?_)
                obtain ⟨h28, hf⟩ := fxG_e hf
                exact fx_zretf (fx_bon h28) hf hC hr hk hP hS dX12_readsLine_281
              refine lv_icmp_eq (tgt := 267) hx hb dX12_readsLine_237 (by decide) (fun c29 => ?_) (fun c29 => ?_)
              · replace hf := fx_it c29 hf
                exact j_J20 σ19 _ _ _ hP hS (lv_sub hl [0] rfl) hf
              · replace hf := fx_ie c29 hf
                refine lv_iload_n hx hb dX12_readsLine_240 rfl (lv_at hl 1 rfl) ?_
                refine lv_iconst hx hb dX12_readsLine_241 ki_2 ?_
                refine lv_icmp_eq (tgt := 267) hx hb dX12_readsLine_242 (by decide) (fun c30 => ?_) (fun c30 => ?_)
                · replace hf := fx_it c30 hf
                  exact j_J20 σ19 _ _ _ hP hS (lv_sub hl [0] rfl) hf
                · replace hf := fx_ie c30 hf
                  refine lv_aload_n hx hb dX12_readsLine_245 rfl (lv_at hl 0 rfl) ?_
                  refine lv_iconst hx hb dX12_readsLine_246 ki_1 ?_
                  refine lv_bipush hx hb dX12_readsLine_247 kb_20 ?_
                  obtain ⟨r32, σ33, hc31, hf⟩ := fxBI_e hf
                  refine fx_ci hC hS (fx_runV (i := 0) (As := [.int 1, .int 20]) (rest := []) hC hP hS (ctX12_needsNumber l hc31 D cy ad ec _) kM_0 (by decide) rfl kMV_X12_260 kC_X12_needsNumber hd_X12_needsNumber rfl ⟨(Nat.le_of_ble_eq_true rfl), (Nat.le_of_ble_eq_true rfl)⟩ ⟨Nat.le_refl 0, Nat.le_refl 0⟩ hl.1 (Nat.le_of_ble_eq_true rfl) rfl dX12_readsLine_249) (fun H locs hP hS => ?_)
                  refine lv_if_ne (tgt := 257) hx hb dX12_readsLine_252 (by decide) (fun c34 => ?_) (fun c34 => ?_)
                  · replace hf := fx_ie c34 hf
                    refine lv_aload_n hx hb dX12_readsLine_257 rfl (lv_at hl 0 rfl) ?_
                    refine gf_X12_96 (v := .ref (ad 29)) hC hP kM_0 rfl dX12_readsLine_258 ?_
                    refine lv_iload_n hx hb dX12_readsLine_261 rfl (lv_at hl 2 rfl) ?_
                    refine lv_aload_n hx hb dX12_readsLine_262 rfl (lv_at hl 0 rfl) ?_
                    refine gf_X12_257 (v := .int (σ33.1 0 35)) hC hP kM_0 rfl dX12_readsLine_263 ?_
                    obtain ⟨h35, hf⟩ := fxG_e hf
                    obtain ⟨σ36, eσ36, hf⟩ := fxL_e hf
                    refine fx_iast hC hP hS kM_29 (fx_inp h35) dX12_readsLine_266 (fun H locs hP hS => ?_)
                    replace hP := fx_Pe eσ36 hP
                    exact j_J20 σ36 _ _ _ hP hS (lv_sub hl [0] rfl) hf
                  · replace hf := fx_it c34 hf
                    refine lv_iconst hx hb dX12_readsLine_255 ki_0 ?_
                    exact fx_zretf rfl hf hC hr hk hP hS dX12_readsLine_256
            obtain ⟨J37, hJ37, hf⟩ := fxL_e hf
            have j_J37 : ∀  (H : Heap) (locs : List Loc) (ls : Array Slot), fx_P D cy LM ad σ17 H → va_S A s.heap H locs → lv_has ls 3 [(0, .ref (ad 0)), (1, .int y5), (2, .int v13)] → J37 = some (v, σ') → W p l e (fx_R (3)) s m args below meth c H locs 0 0 (fx_Qi D cy LM ad A below args s v σ') (F0 m 176 ls []) := by
              intro  H locs ls hP hS hl hf
              replace hf := hJ37.symm.trans hf
              refine lv_iload_n hx hb dX12_readsLine_176 rfl (lv_at hl 1 rfl) ?_
              refine lv_iconst hx hb dX12_readsLine_177 ki_3 ?_
              obtain ⟨J38, hJ38, hf⟩ := fxL_e hf
              have j_J38 : ∀ (σ39 : FH) (H : Heap) (locs : List Loc) (ls : Array Slot), fx_P D cy LM ad σ39 H → va_S A s.heap H locs → lv_has ls 3 [(0, .ref (ad 0)), (1, .int y5), (2, .int v13)] → J38 σ39 = some (v, σ') → W p l e (fx_R (3)) s m args below meth c H locs 0 0 (fx_Qi D cy LM ad A below args s v σ') (F0 m 202 ls []) := by
                intro σ39 H locs ls hP hS hl hf
                replace hf := fxk1 hJ38 hf
                refine lv_aload_n hx hb dX12_readsLine_202 rfl (lv_at hl 0 rfl) ?_
                refine gf_X12_257 (v := .int (σ39.1 0 35)) hC hP kM_0 rfl dX12_readsLine_203 ?_
                refine lv_aload_n hx hb dX12_readsLine_206 rfl (lv_at hl 0 rfl) ?_
                refine gf_X12_90 (v := .ref (ad 27)) hC hP kM_0 rfl dX12_readsLine_207 ?_
                refine lv_iload_n hx hb dX12_readsLine_210 rfl (lv_at hl 2 rfl) ?_
                obtain ⟨h40, hf⟩ := fxG_e hf
                refine fx_iald hC hP kM_27 (fx_inp h40) dX12_readsLine_211 ?_
                refine lv_icmp_ne (tgt := 221) hx hb dX12_readsLine_212 (by decide) (fun c41 => ?_) (fun c41 => ?_)
                · replace hf := fx_ie c41 hf
                  refine lv_aload_n hx hb dX12_readsLine_221 rfl (lv_at hl 0 rfl) ?_
                  refine gf_X12_93 (v := .ref (ad 28)) hC hP kM_0 rfl dX12_readsLine_222 ?_
                  refine lv_iload_n hx hb dX12_readsLine_225 rfl (lv_at hl 2 rfl) ?_
                  refine lv_aload_n hx hb dX12_readsLine_226 rfl (lv_at hl 0 rfl) ?_
                  refine gf_X12_257 (v := .int (σ39.1 0 35)) hC hP kM_0 rfl dX12_readsLine_227 ?_
                  obtain ⟨h42, hf⟩ := fxG_e hf
                  obtain ⟨σ43, eσ43, hf⟩ := fxL_e hf
                  refine fx_iast hC hP hS kM_28 (fx_inp h42) dX12_readsLine_230 (fun H locs hP hS => ?_)
                  replace hP := fx_Pe eσ43 hP
                  refine lv_aload_n hx hb dX12_readsLine_231 rfl (lv_at hl 0 rfl) ?_
                  obtain ⟨σ46, hc44, hf⟩ := fxBV_e hf
                  refine fx_cv hC hS (fx_runV (i := 0) (As := []) (rest := []) hC hP hS (ctX12_nextToken l hc44 D cy ad ec _) kM_0 (by decide) rfl kMV_X12_203 kC_X12_nextToken hd_X12_nextToken rfl ⟨(Nat.le_of_ble_eq_true rfl), (Nat.le_of_ble_eq_true rfl)⟩ ⟨Nat.le_refl 0, Nat.le_refl 0⟩ hl.1 (Nat.le_of_ble_eq_true rfl) rfl dX12_readsLine_232) (fun H locs hP hS => ?_)
                  exact j_J18 σ46 _ _ _ hP hS (lv_sub hl [0, 1, 2] rfl) hf
                · replace hf := fx_it c41 hf
                  refine lv_aload_n hx hb dX12_readsLine_215 rfl (lv_at hl 0 rfl) ?_
                  refine lv_iconst hx hb dX12_readsLine_216 ki_3 ?_
                  obtain ⟨r48, σ49, hc47, hf⟩ := fxBI_e hf
                  refine fx_ci hC hS (fx_runV (i := 0) (As := [.int 3]) (rest := []) hC hP hS (ctX12_fails l hc47 D cy ad ec _) kM_0 (by decide) rfl kMV_X12_197 kC_X12_fails hd_X12_fails rfl ⟨(Nat.le_of_ble_eq_true rfl), (Nat.le_of_ble_eq_true rfl)⟩ ⟨Nat.le_refl 0, Nat.le_refl 0⟩ hl.1 (Nat.le_of_ble_eq_true rfl) rfl dX12_readsLine_217) (fun H locs hP hS => ?_)
                  obtain ⟨h50, hf⟩ := fxG_e hf
                  exact fx_zretf (fx_bon h50) hf hC hr hk hP hS dX12_readsLine_220
              refine lv_icmp_ne (tgt := 192) hx hb dX12_readsLine_178 (by decide) (fun c51 => ?_) (fun c51 => ?_)
              · replace hf := fx_ie c51 hf
                refine lv_aload_n hx hb dX12_readsLine_192 rfl (lv_at hl 0 rfl) ?_
                refine lv_iconst hx hb dX12_readsLine_193 ki_0 ?_
                obtain ⟨r53, σ54, hc52, hf⟩ := fxBI_e hf
                refine fx_ci hC hS (fx_runV (i := 0) (As := [.int 0]) (rest := []) hC hP hS (ctX12_needsWare l hc52 D cy ad ec _) kM_0 (by decide) rfl kMV_X12_296 kC_X12_needsWare hd_X12_needsWare rfl ⟨(Nat.le_of_ble_eq_true rfl), (Nat.le_of_ble_eq_true rfl)⟩ ⟨Nat.le_refl 0, Nat.le_refl 0⟩ hl.1 (Nat.le_of_ble_eq_true rfl) rfl dX12_readsLine_194) (fun H locs hP hS => ?_)
                refine lv_if_ne (tgt := 202) hx hb dX12_readsLine_197 (by decide) (fun c55 => ?_) (fun c55 => ?_)
                · replace hf := fx_ie c55 hf
                  exact j_J38 σ54 _ _ _ hP hS (lv_sub hl [0, 1, 2] rfl) hf
                · replace hf := fx_it c55 hf
                  refine lv_iconst hx hb dX12_readsLine_200 ki_0 ?_
                  exact fx_zretf rfl hf hC hr hk hP hS dX12_readsLine_201
              · replace hf := fx_it c51 hf
                refine lv_aload_n hx hb dX12_readsLine_181 rfl (lv_at hl 0 rfl) ?_
                refine lv_iconst hx hb dX12_readsLine_182 ki_0 ?_
                obtain ⟨r57, σ58, hc56, hf⟩ := fxBI_e hf
                refine fx_ci hC hS (fx_runV (i := 0) (As := [.int 0]) (rest := []) hC hP hS (ctX12_needsParty l hc56 D cy ad ec _) kM_0 (by decide) rfl kMV_X12_293 kC_X12_needsParty hd_X12_needsParty rfl ⟨(Nat.le_of_ble_eq_true rfl), (Nat.le_of_ble_eq_true rfl)⟩ ⟨Nat.le_refl 0, Nat.le_refl 0⟩ hl.1 (Nat.le_of_ble_eq_true rfl) rfl dX12_readsLine_183) (fun H locs hP hS => ?_)
                refine lv_if_ne (tgt := 202) hx hb dX12_readsLine_186 (by decide) (fun c59 => ?_) (fun c59 => ?_)
                · replace hf := fx_ie c59 hf
                  exact j_J38 σ58 _ _ _ hP hS (lv_sub hl [0, 1, 2] rfl) hf
                · replace hf := fx_it c59 hf
                  refine lv_goto (tgt := 200) hx hb dX12_readsLine_189 (by decide) ?_
                  refine lv_iconst hx hb dX12_readsLine_200 ki_0 ?_
                  exact fx_zretf rfl hf hC hr hk hP hS dX12_readsLine_201
            refine lv_icmp_eq (tgt := 176) hx hb dX12_readsLine_168 (by decide) (fun c60 => ?_) (fun c60 => ?_)
            · replace hf := fx_it c60 hf
              exact j_J37  _ _ _ hP hS (lv_sub hl [0, 1, 2] rfl) hf
            · replace hf := fx_ie c60 hf
              refine lv_iload_n hx hb dX12_readsLine_171 rfl (lv_at hl 1 rfl) ?_
              refine lv_iconst hx hb dX12_readsLine_172 ki_3 ?_
              refine lv_icmp_ne (tgt := 235) hx hb dX12_readsLine_173 (by decide) (fun c61 => ?_) (fun c61 => ?_)
              · replace hf := fx_ie c61 hf
                exact j_J18 σ17 _ _ _ hP hS (lv_sub hl [0, 1, 2] rfl) hf
              · replace hf := fx_it c61 hf
                exact j_J37  _ _ _ hP hS (lv_sub hl [0, 1, 2] rfl) hf
          refine lv_icmp_eq (tgt := 166) hx hb dX12_readsLine_123 (by decide) (fun c62 => ?_) (fun c62 => ?_)
          · replace hf := fx_it c62 hf
            exact j_J16 σ15 _ _ _ hP hS (lv_sub hl [2, 1, 0] rfl) hf
          · replace hf := fx_ie c62 hf
            refine lv_iload_n hx hb dX12_readsLine_126 rfl (lv_at hl 1 rfl) ?_
            refine lv_iconst hx hb dX12_readsLine_127 ki_3 ?_
            obtain ⟨J63, hJ63, hf⟩ := fxL_e hf
            have j_J63 : ∀ (σ64 : FH) (H : Heap) (locs : List Loc) (ls : Array Slot), fx_P D cy LM ad σ64 H → va_S A s.heap H locs → lv_has ls 3 [(0, .ref (ad 0)), (1, .int y5), (2, .int v13)] → J63 σ64 = some (v, σ') → W p l e (fx_R (3)) s m args below meth c H locs 0 0 (fx_Qi D cy LM ad A below args s v σ') (F0 m 152 ls []) := by
              intro σ64 H locs ls hP hS hl hf
              replace hf := fxk1 hJ63 hf
              refine lv_aload_n hx hb dX12_readsLine_152 rfl (lv_at hl 0 rfl) ?_
              refine gf_X12_90 (v := .ref (ad 27)) hC hP kM_0 rfl dX12_readsLine_153 ?_
              refine lv_iload_n hx hb dX12_readsLine_156 rfl (lv_at hl 2 rfl) ?_
              refine lv_aload_n hx hb dX12_readsLine_157 rfl (lv_at hl 0 rfl) ?_
              refine gf_X12_257 (v := .int (σ64.1 0 35)) hC hP kM_0 rfl dX12_readsLine_158 ?_
              obtain ⟨h65, hf⟩ := fxG_e hf
              obtain ⟨σ66, eσ66, hf⟩ := fxL_e hf
              refine fx_iast hC hP hS kM_27 (fx_inp h65) dX12_readsLine_161 (fun H locs hP hS => ?_)
              replace hP := fx_Pe eσ66 hP
              refine lv_aload_n hx hb dX12_readsLine_162 rfl (lv_at hl 0 rfl) ?_
              obtain ⟨σ69, hc67, hf⟩ := fxBV_e hf
              refine fx_cv hC hS (fx_runV (i := 0) (As := []) (rest := []) hC hP hS (ctX12_nextToken l hc67 D cy ad ec _) kM_0 (by decide) rfl kMV_X12_203 kC_X12_nextToken hd_X12_nextToken rfl ⟨(Nat.le_of_ble_eq_true rfl), (Nat.le_of_ble_eq_true rfl)⟩ ⟨Nat.le_refl 0, Nat.le_refl 0⟩ hl.1 (Nat.le_of_ble_eq_true rfl) rfl dX12_readsLine_163) (fun H locs hP hS => ?_)
              exact j_J16 σ69 _ _ _ hP hS (lv_sub hl [0, 1, 2] rfl) hf
            refine lv_icmp_ne (tgt := 142) hx hb dX12_readsLine_128 (by decide) (fun c70 => ?_) (fun c70 => ?_)
            · replace hf := fx_ie c70 hf
              refine lv_aload_n hx hb dX12_readsLine_142 rfl (lv_at hl 2 rfl) ?_
              refine lv_iconst hx hb dX12_readsLine_143 ki_0 ?_
              obtain ⟨r72, σ73, hc71, hf⟩ := fxBI_e hf
              refine fx_ci hC hS (fx_runV (i := 0) (As := [.int 0]) (rest := []) hC hP hS (ctX12_needsWare l hc71 D cy ad ec _) kM_0 (by decide) rfl kMV_X12_296 kC_X12_needsWare hd_X12_needsWare rfl ⟨(Nat.le_of_ble_eq_true rfl), (Nat.le_of_ble_eq_true rfl)⟩ ⟨Nat.le_refl 0, Nat.le_refl 0⟩ hl.1 (Nat.le_of_ble_eq_true rfl) rfl dX12_readsLine_144) (fun H locs hP hS => ?_)
              refine lv_if_ne (tgt := 152) hx hb dX12_readsLine_147 (by decide) (fun c74 => ?_) (fun c74 => ?_)
              · replace hf := fx_ie c74 hf
                exact j_J63 σ73 _ _ _ hP hS (lv_sub hl [2, 1, 0] rfl) hf
              · replace hf := fx_it c74 hf
                refine lv_iconst hx hb dX12_readsLine_150 ki_0 ?_
                exact fx_zretf rfl hf hC hr hk hP hS dX12_readsLine_151
            · replace hf := fx_it c70 hf
              refine lv_aload_n hx hb dX12_readsLine_131 rfl (lv_at hl 2 rfl) ?_
              refine lv_iconst hx hb dX12_readsLine_132 ki_0 ?_
              obtain ⟨r76, σ77, hc75, hf⟩ := fxBI_e hf
              refine fx_ci hC hS (fx_runV (i := 0) (As := [.int 0]) (rest := []) hC hP hS (ctX12_needsParty l hc75 D cy ad ec _) kM_0 (by decide) rfl kMV_X12_293 kC_X12_needsParty hd_X12_needsParty rfl ⟨(Nat.le_of_ble_eq_true rfl), (Nat.le_of_ble_eq_true rfl)⟩ ⟨Nat.le_refl 0, Nat.le_refl 0⟩ hl.1 (Nat.le_of_ble_eq_true rfl) rfl dX12_readsLine_133) (fun H locs hP hS => ?_)
              refine lv_if_ne (tgt := 152) hx hb dX12_readsLine_136 (by decide) (fun c78 => ?_) (fun c78 => ?_)
              · replace hf := fx_ie c78 hf
                exact j_J63 σ77 _ _ _ hP hS (lv_sub hl [2, 1, 0] rfl) hf
              · replace hf := fx_it c78 hf
                refine lv_goto (tgt := 150) hx hb dX12_readsLine_139 (by decide) ?_
                refine lv_iconst hx hb dX12_readsLine_150 ki_0 ?_
                exact fx_zretf rfl hf hC hr hk hP hS dX12_readsLine_151
        · replace hf := fx_it c8 hf
          refine lv_aload_n hx hb dX12_readsLine_93 rfl (lv_at hl 1 rfl) ?_
          refine lv_iconst hx hb dX12_readsLine_94 ki_5 ?_
          obtain ⟨r80, σ81, hc79, hf⟩ := fxBI_e hf
          refine fx_ci hC hS (fx_runV (i := 0) (As := [.int 5]) (rest := []) hC hP hS (ctX12_fails l hc79 D cy ad ec _) kM_0 (by decide) rfl kMV_X12_197 kC_X12_fails hd_X12_fails rfl ⟨(Nat.le_of_ble_eq_true rfl), (Nat.le_of_ble_eq_true rfl)⟩ ⟨Nat.le_refl 0, Nat.le_refl 0⟩ hl.1 (Nat.le_of_ble_eq_true rfl) rfl dX12_readsLine_95) (fun H locs hP hS => ?_)
          obtain ⟨h82, hf⟩ := fxG_e hf
          exact fx_zretf (fx_bon h82) hf hC hr hk hP hS dX12_readsLine_98
      · replace hf := fx_ie c6 hf
        refine lv_aload_n hx hb dX12_readsLine_76 rfl (lv_at hl 1 rfl) ?_
        refine lv_iconst hx hb dX12_readsLine_77 ki_1 ?_
        obtain ⟨r84, σ85, hc83, hf⟩ := fxBI_e hf
        refine fx_ci hC hS (fx_runV (i := 0) (As := [.int 1]) (rest := []) hC hP hS (ctX12_fails l hc83 D cy ad ec _) kM_0 (by decide) rfl kMV_X12_197 kC_X12_fails hd_X12_fails rfl ⟨(Nat.le_of_ble_eq_true rfl), (Nat.le_of_ble_eq_true rfl)⟩ ⟨Nat.le_refl 0, Nat.le_refl 0⟩ hl.1 (Nat.le_of_ble_eq_true rfl) rfl dX12_readsLine_78) (fun H locs hP hS => ?_)
        obtain ⟨h86, hf⟩ := fxG_e hf
        exact fx_zretf (fx_bon h86) hf hC hr hk hP hS dX12_readsLine_81
    refine lv_if_eq (tgt := 14) hx hb dX12_readsLine_7 (by decide) (fun c87 => ?_) (fun c87 => ?_)
    · replace hf := fx_it c87 hf
      refine lv_aload_n hx hb dX12_readsLine_14 rfl (lv_at hl 0 rfl) ?_
      refine lv_ldc2 (own := RX12) (v := 388978) hx hb hC.2.2.2.1 (hC.2.2.2.2.1 _ kK_X12_237) dX12_readsLine_15 ?_
      obtain ⟨r89, hc88, hf⟩ := fxBP_e hf
      refine fx_ci hC hS (fx_runV (i := 0) (As := [.long 388978]) (rest := []) hC hP hS (ctX12_isWord l hc88 D cy ad ec _) kM_0 (by decide) rfl kMV_X12_189 kC_X12_isWord hd_X12_isWord rfl ⟨(Nat.le_of_ble_eq_true rfl), (Nat.le_of_ble_eq_true rfl)⟩ ⟨Nat.le_refl 0, Nat.le_refl 0⟩ hl.1 (Nat.le_of_ble_eq_true rfl) rfl dX12_readsLine_18) (fun H locs hP hS => ?_)
      refine lv_if_eq (tgt := 28) hx hb dX12_readsLine_21 (by decide) (fun c91 => ?_) (fun c91 => ?_)
      · replace hf := fx_it c91 hf
        refine lv_aload_n hx hb dX12_readsLine_28 rfl (lv_at hl 0 rfl) ?_
        refine lv_ldc2 (own := RX12) (v := 208022) hx hb hC.2.2.2.1 (hC.2.2.2.2.1 _ kK_X12_239) dX12_readsLine_29 ?_
        obtain ⟨r93, hc92, hf⟩ := fxBP_e hf
        refine fx_ci hC hS (fx_runV (i := 0) (As := [.long 208022]) (rest := []) hC hP hS (ctX12_isWord l hc92 D cy ad ec _) kM_0 (by decide) rfl kMV_X12_189 kC_X12_isWord hd_X12_isWord rfl ⟨(Nat.le_of_ble_eq_true rfl), (Nat.le_of_ble_eq_true rfl)⟩ ⟨Nat.le_refl 0, Nat.le_refl 0⟩ hl.1 (Nat.le_of_ble_eq_true rfl) rfl dX12_readsLine_32) (fun H locs hP hS => ?_)
        refine lv_if_eq (tgt := 42) hx hb dX12_readsLine_35 (by decide) (fun c95 => ?_) (fun c95 => ?_)
        · replace hf := fx_it c95 hf
          refine lv_aload_n hx hb dX12_readsLine_42 rfl (lv_at hl 0 rfl) ?_
          refine lv_ldc2 (own := RX12) (v := 240223) hx hb hC.2.2.2.1 (hC.2.2.2.2.1 _ kK_X12_241) dX12_readsLine_43 ?_
          obtain ⟨r97, hc96, hf⟩ := fxBP_e hf
          refine fx_ci hC hS (fx_runV (i := 0) (As := [.long 240223]) (rest := []) hC hP hS (ctX12_isWord l hc96 D cy ad ec _) kM_0 (by decide) rfl kMV_X12_189 kC_X12_isWord hd_X12_isWord rfl ⟨(Nat.le_of_ble_eq_true rfl), (Nat.le_of_ble_eq_true rfl)⟩ ⟨Nat.le_refl 0, Nat.le_refl 0⟩ hl.1 (Nat.le_of_ble_eq_true rfl) rfl dX12_readsLine_46) (fun H locs hP hS => ?_)
          refine lv_if_eq (tgt := 56) hx hb dX12_readsLine_49 (by decide) (fun c99 => ?_) (fun c99 => ?_)
          · replace hf := fx_it c99 hf
            refine lv_aload_n hx hb dX12_readsLine_56 rfl (lv_at hl 0 rfl) ?_
            refine lv_ldc2 (own := RX12) (v := 456500) hx hb hC.2.2.2.1 (hC.2.2.2.2.1 _ kK_X12_243) dX12_readsLine_57 ?_
            obtain ⟨r101, hc100, hf⟩ := fxBP_e hf
            refine fx_ci hC hS (fx_runV (i := 0) (As := [.long 456500]) (rest := []) hC hP hS (ctX12_isWord l hc100 D cy ad ec _) kM_0 (by decide) rfl kMV_X12_189 kC_X12_isWord hd_X12_isWord rfl ⟨(Nat.le_of_ble_eq_true rfl), (Nat.le_of_ble_eq_true rfl)⟩ ⟨Nat.le_refl 0, Nat.le_refl 0⟩ hl.1 (Nat.le_of_ble_eq_true rfl) rfl dX12_readsLine_60) (fun H locs hP hS => ?_)
            refine lv_if_eq (tgt := 70) hx hb dX12_readsLine_63 (by decide) (fun c103 => ?_) (fun c103 => ?_)
            · replace hf := fx_it c103 hf
              refine lv_iconst hx hb dX12_readsLine_70 ki_m1 ?_
              exact j_J4 (-1) _ _ _ hP hS (lv_sub hl [0] rfl) hf
            · replace hf := fx_ie c103 hf
              refine lv_iconst hx hb dX12_readsLine_66 ki_4 ?_
              refine lv_goto (tgt := 71) hx hb dX12_readsLine_67 (by decide) ?_
              exact j_J4 4 _ _ _ hP hS (lv_sub hl [0] rfl) hf
          · replace hf := fx_ie c99 hf
            refine lv_iconst hx hb dX12_readsLine_52 ki_3 ?_
            refine lv_goto (tgt := 71) hx hb dX12_readsLine_53 (by decide) ?_
            exact j_J4 3 _ _ _ hP hS (lv_sub hl [0] rfl) hf
        · replace hf := fx_ie c95 hf
          refine lv_iconst hx hb dX12_readsLine_38 ki_2 ?_
          refine lv_goto (tgt := 71) hx hb dX12_readsLine_39 (by decide) ?_
          exact j_J4 2 _ _ _ hP hS (lv_sub hl [0] rfl) hf
      · replace hf := fx_ie c91 hf
        refine lv_iconst hx hb dX12_readsLine_24 ki_1 ?_
        refine lv_goto (tgt := 71) hx hb dX12_readsLine_25 (by decide) ?_
        exact j_J4 1 _ _ _ hP hS (lv_sub hl [0] rfl) hf
    · replace hf := fx_ie c87 hf
      refine lv_iconst hx hb dX12_readsLine_10 ki_0 ?_
      refine lv_goto (tgt := 71) hx hb dX12_readsLine_11 (by decide) ?_
      exact j_J4 0 _ _ _ hP hS (lv_sub hl [0] rfl) hf
  exact main _ _ _ hP hS hl

set_option maxHeartbeats 4000000 in
set_option maxRecDepth 100000 in
theorem ctX12_laysLines (l : Launch) {a1 : Int32} {a2 : Int32} {σ σ' : FH} (hf : fX12_laysLines a1 a2 σ = some σ') : fx_Mv l yX12_laysLines cX12_laysLines 4 none (0) LM (fun ad ec => [.ref (ad 0), .int a1, .int a2]) σ σ' := by
  unfold fX12_laysLines at hf
  refine fx_mv' (own := RX12) rfl (by decide +kernel) ?_
  intro p e s m args below meth c D cy ad ec A hC hr hk hP hS
  have hx := hC.1
  have hb := hC.2.1
  have hl := lv_entry ([.ref (ad 0), .int a1, .int a2]) (n := 4) (Nat.le_of_ble_eq_true rfl)
  show W _ _ _ _ _ _ _ _ _ _ _ _ _ _ _ (entryFrame m ([.ref (ad 0), .int a1, .int a2] : List Value).toArray 4)
  rw [lg_entry_eq]
  generalize (lg_sl ([.ref (ad 0), .int a1, .int a2]) ++ List.replicate (4 - (lg_sl ([.ref (ad 0), .int a1, .int a2])).length) Slot.unset).toArray = ls at hl ⊢
  have hl : lv_has ls 4 [(0, .ref (ad 0)), (1, .int a1), (2, .int a2)] := hl
  have main : ∀ (H : Heap) (locs : List Loc) (ls : Array Slot), fx_P D cy LM ad σ H → va_S A s.heap H locs → lv_has ls 4 [(0, .ref (ad 0)), (1, .int a1), (2, .int a2)] → W p l e (fx_R (0)) s m args below meth c H locs 0 0 (fx_Qv D cy LM ad A below args s σ') (F0 m 0 ls []) := by
    intro H locs ls hP hS hl
    refine lv_aload_n hx hb dX12_laysLines_0 rfl (lv_at hl 0 rfl) ?_
    refine gf_X12_84 (v := .ref (ad 25)) hC hP kM_0 rfl dX12_laysLines_1 ?_
    refine lv_iload_n hx hb dX12_laysLines_4 rfl (lv_at hl 2 rfl) ?_
    refine lv_aload_n hx hb dX12_laysLines_5 rfl (lv_at hl 0 rfl) ?_
    refine gf_X12_84 (v := .ref (ad 25)) hC hP kM_0 rfl dX12_laysLines_6 ?_
    refine lv_iload_n hx hb dX12_laysLines_9 rfl (lv_at hl 1 rfl) ?_
    obtain ⟨h1, hf⟩ := fxG_e hf
    refine fx_iald hC hP kM_25 (fx_inp h1) dX12_laysLines_10 ?_
    obtain ⟨h2, hf⟩ := fxG_e hf
    obtain ⟨σ3, eσ3, hf⟩ := fxL_e hf
    refine fx_iast hC hP hS kM_25 (fx_inp h2) dX12_laysLines_11 (fun H locs hP hS => ?_)
    replace hP := fx_Pe eσ3 hP
    refine lv_iconst hx hb dX12_laysLines_12 ki_0 ?_
    refine lv_istore_n (lv' := [(3, .int 0), (0, .ref (ad 0)), (1, .int a1), (2, .int a2)]) hx hb dX12_laysLines_13 rfl hl (by decide) rfl (fun ls hl => ?_)
    obtain ⟨K4, hK4, hf⟩ := fxL_e hf
    have k_K4 : ∀ (σ5 : FH) (H : Heap) (locs : List Loc) (ls : Array Slot), fx_P D cy LM ad σ5 H → va_S A s.heap H locs → lv_has ls 4 [] → K4 σ5 = some σ' → W p l e (fx_R (0)) s m args below meth c H locs 0 0 (fx_Qv D cy LM ad A below args s σ') (F0 m 114 ls []) := by
      intro σ5 H locs ls hP hS hl hf
      replace hf := fxk1 hK4 hf
      exact fx_vretf hf hC hr hk hP hS dX12_laysLines_114
    have L23 : ∀ (n9 : Nat) (w6 : Int32) (σ7 : FH) (H : Heap) (locs : List Loc) (ls : Array Slot), fx_P D cy LM ad σ7 H → va_S A s.heap H locs → lv_has ls 4 [(0, .ref (ad 0)), (1, .int a1), (2, .int a2), (3, .int w6)] → fX12_laysLines_14 a1 a2 K4 n9 w6 σ7 = some σ' → W p l e (fx_R (0)) s m args below meth c H locs 0 0 (fx_Qv D cy LM ad A below args s σ') (F0 m 14 ls []) := by
      intro n9
      induction n9 with
      | zero =>
        intro w6 σ7 H locs ls hP hS hl hf
        rw [fX12_laysLines_14] at hf
        cases hf
      | succ n9 ih8 =>
        intro w6 σ7 H locs ls hP hS hl hf
        rw [fX12_laysLines_14] at hf
        refine lv_iload_n hx hb dX12_laysLines_14 rfl (lv_at hl 3 rfl) ?_
        refine lv_bipush hx hb dX12_laysLines_15 kb_40 ?_
        refine lv_icmp_ge (tgt := 114) hx hb dX12_laysLines_17 (by decide) (fun c10 => ?_) (fun c10 => ?_)
        · replace hf := fx_it c10 hf
          exact k_K4 σ7 _ _ _ hP hS (lv_sub hl [] rfl) hf
        · replace hf := fx_ie c10 hf
          refine lv_aload_n hx hb dX12_laysLines_20 rfl (lv_at hl 0 rfl) ?_
          refine gf_X12_87 (v := .ref (ad 26)) hC hP kM_0 rfl dX12_laysLines_21 ?_
          refine lv_bipush hx hb dX12_laysLines_24 kb_40 ?_
          refine lv_iload_n hx hb dX12_laysLines_26 rfl (lv_at hl 2 rfl) ?_
          refine lv_imul hx hb dX12_laysLines_27 ?_
          refine lv_iload_n hx hb dX12_laysLines_28 rfl (lv_at hl 3 rfl) ?_
          refine lv_iadd hx hb dX12_laysLines_29 ?_
          refine lv_aload_n hx hb dX12_laysLines_30 rfl (lv_at hl 0 rfl) ?_
          refine gf_X12_87 (v := .ref (ad 26)) hC hP kM_0 rfl dX12_laysLines_31 ?_
          refine lv_bipush hx hb dX12_laysLines_34 kb_40 ?_
          refine lv_iload_n hx hb dX12_laysLines_36 rfl (lv_at hl 1 rfl) ?_
          refine lv_imul hx hb dX12_laysLines_37 ?_
          refine lv_iload_n hx hb dX12_laysLines_38 rfl (lv_at hl 3 rfl) ?_
          refine lv_iadd hx hb dX12_laysLines_39 ?_
          obtain ⟨h11, hf⟩ := fxG_e hf
          refine fx_iald hC hP kM_26 (fx_inp h11) dX12_laysLines_40 ?_
          obtain ⟨h12, hf⟩ := fxG_e hf
          obtain ⟨σ13, eσ13, hf⟩ := fxL_e hf
          refine fx_iast hC hP hS kM_26 (fx_inp h12) dX12_laysLines_41 (fun H locs hP hS => ?_)
          replace hP := fx_Pe eσ13 hP
          refine lv_aload_n hx hb dX12_laysLines_42 rfl (lv_at hl 0 rfl) ?_
          refine gf_X12_90 (v := .ref (ad 27)) hC hP kM_0 rfl dX12_laysLines_43 ?_
          refine lv_bipush hx hb dX12_laysLines_46 kb_40 ?_
          refine lv_iload_n hx hb dX12_laysLines_48 rfl (lv_at hl 2 rfl) ?_
          refine lv_imul hx hb dX12_laysLines_49 ?_
          refine lv_iload_n hx hb dX12_laysLines_50 rfl (lv_at hl 3 rfl) ?_
          refine lv_iadd hx hb dX12_laysLines_51 ?_
          refine lv_aload_n hx hb dX12_laysLines_52 rfl (lv_at hl 0 rfl) ?_
          refine gf_X12_90 (v := .ref (ad 27)) hC hP kM_0 rfl dX12_laysLines_53 ?_
          refine lv_bipush hx hb dX12_laysLines_56 kb_40 ?_
          refine lv_iload_n hx hb dX12_laysLines_58 rfl (lv_at hl 1 rfl) ?_
          refine lv_imul hx hb dX12_laysLines_59 ?_
          refine lv_iload_n hx hb dX12_laysLines_60 rfl (lv_at hl 3 rfl) ?_
          refine lv_iadd hx hb dX12_laysLines_61 ?_
          obtain ⟨h14, hf⟩ := fxG_e hf
          refine fx_iald hC hP kM_27 (fx_inp h14) dX12_laysLines_62 ?_
          obtain ⟨h15, hf⟩ := fxG_e hf
          obtain ⟨σ16, eσ16, hf⟩ := fxL_e hf
          refine fx_iast hC hP hS kM_27 (fx_inp h15) dX12_laysLines_63 (fun H locs hP hS => ?_)
          replace hP := fx_Pe eσ16 hP
          refine lv_aload_n hx hb dX12_laysLines_64 rfl (lv_at hl 0 rfl) ?_
          refine gf_X12_93 (v := .ref (ad 28)) hC hP kM_0 rfl dX12_laysLines_65 ?_
          refine lv_bipush hx hb dX12_laysLines_68 kb_40 ?_
          refine lv_iload_n hx hb dX12_laysLines_70 rfl (lv_at hl 2 rfl) ?_
          refine lv_imul hx hb dX12_laysLines_71 ?_
          refine lv_iload_n hx hb dX12_laysLines_72 rfl (lv_at hl 3 rfl) ?_
          refine lv_iadd hx hb dX12_laysLines_73 ?_
          refine lv_aload_n hx hb dX12_laysLines_74 rfl (lv_at hl 0 rfl) ?_
          refine gf_X12_93 (v := .ref (ad 28)) hC hP kM_0 rfl dX12_laysLines_75 ?_
          refine lv_bipush hx hb dX12_laysLines_78 kb_40 ?_
          refine lv_iload_n hx hb dX12_laysLines_80 rfl (lv_at hl 1 rfl) ?_
          refine lv_imul hx hb dX12_laysLines_81 ?_
          refine lv_iload_n hx hb dX12_laysLines_82 rfl (lv_at hl 3 rfl) ?_
          refine lv_iadd hx hb dX12_laysLines_83 ?_
          obtain ⟨h17, hf⟩ := fxG_e hf
          refine fx_iald hC hP kM_28 (fx_inp h17) dX12_laysLines_84 ?_
          obtain ⟨h18, hf⟩ := fxG_e hf
          obtain ⟨σ19, eσ19, hf⟩ := fxL_e hf
          refine fx_iast hC hP hS kM_28 (fx_inp h18) dX12_laysLines_85 (fun H locs hP hS => ?_)
          replace hP := fx_Pe eσ19 hP
          refine lv_aload_n hx hb dX12_laysLines_86 rfl (lv_at hl 0 rfl) ?_
          refine gf_X12_96 (v := .ref (ad 29)) hC hP kM_0 rfl dX12_laysLines_87 ?_
          refine lv_bipush hx hb dX12_laysLines_90 kb_40 ?_
          refine lv_iload_n hx hb dX12_laysLines_92 rfl (lv_at hl 2 rfl) ?_
          refine lv_imul hx hb dX12_laysLines_93 ?_
          refine lv_iload_n hx hb dX12_laysLines_94 rfl (lv_at hl 3 rfl) ?_
          refine lv_iadd hx hb dX12_laysLines_95 ?_
          refine lv_aload_n hx hb dX12_laysLines_96 rfl (lv_at hl 0 rfl) ?_
          refine gf_X12_96 (v := .ref (ad 29)) hC hP kM_0 rfl dX12_laysLines_97 ?_
          refine lv_bipush hx hb dX12_laysLines_100 kb_40 ?_
          refine lv_iload_n hx hb dX12_laysLines_102 rfl (lv_at hl 1 rfl) ?_
          refine lv_imul hx hb dX12_laysLines_103 ?_
          refine lv_iload_n hx hb dX12_laysLines_104 rfl (lv_at hl 3 rfl) ?_
          refine lv_iadd hx hb dX12_laysLines_105 ?_
          obtain ⟨h20, hf⟩ := fxG_e hf
          refine fx_iald hC hP kM_29 (fx_inp h20) dX12_laysLines_106 ?_
          obtain ⟨h21, hf⟩ := fxG_e hf
          obtain ⟨σ22, eσ22, hf⟩ := fxL_e hf
          refine fx_iast hC hP hS kM_29 (fx_inp h21) dX12_laysLines_107 (fun H locs hP hS => ?_)
          replace hP := fx_Pe eσ22 hP
          refine lv_iinc (v := (w6 + 1)) (lv' := [(3, .int (w6 + 1)), (0, .ref (ad 0)), (1, .int a1), (2, .int a2)]) hx hb dX12_laysLines_108 hl (k := 3) rfl (congrArg (fun z => w6 + z) ki_1) (by decide) rfl (fun ls hl => ?_)
          refine lv_goto (tgt := 14) hx hb dX12_laysLines_111 (by decide) ?_
          exact ih8 (w6 + 1) σ22 _ _ _ hP hS (lv_sub hl [1, 2, 3, 0] rfl) hf
    exact L23 FU 0 σ3 _ _ _ hP hS (lv_sub hl [1, 2, 3, 0] rfl) hf
  exact main _ _ _ hP hS hl

set_option maxHeartbeats 4000000 in
set_option maxRecDepth 100000 in
theorem ctX12_laysSaid (l : Launch) {a1 : Int32} {a2 : Int32} {σ σ' : FH} (hf : fX12_laysSaid a1 a2 σ = some σ') : fx_Mv l yX12_laysSaid cX12_laysSaid 4 none (0) LM (fun ad ec => [.ref (ad 0), .int a1, .int a2]) σ σ' := by
  unfold fX12_laysSaid at hf
  refine fx_mv' (own := RX12) rfl (by decide +kernel) ?_
  intro p e s m args below meth c D cy ad ec A hC hr hk hP hS
  have hx := hC.1
  have hb := hC.2.1
  have hl := lv_entry ([.ref (ad 0), .int a1, .int a2]) (n := 4) (Nat.le_of_ble_eq_true rfl)
  show W _ _ _ _ _ _ _ _ _ _ _ _ _ _ _ (entryFrame m ([.ref (ad 0), .int a1, .int a2] : List Value).toArray 4)
  rw [lg_entry_eq]
  generalize (lg_sl ([.ref (ad 0), .int a1, .int a2]) ++ List.replicate (4 - (lg_sl ([.ref (ad 0), .int a1, .int a2])).length) Slot.unset).toArray = ls at hl ⊢
  have hl : lv_has ls 4 [(0, .ref (ad 0)), (1, .int a1), (2, .int a2)] := hl
  have main : ∀ (H : Heap) (locs : List Loc) (ls : Array Slot), fx_P D cy LM ad σ H → va_S A s.heap H locs → lv_has ls 4 [(0, .ref (ad 0)), (1, .int a1), (2, .int a2)] → W p l e (fx_R (0)) s m args below meth c H locs 0 0 (fx_Qv D cy LM ad A below args s σ') (F0 m 0 ls []) := by
    intro H locs ls hP hS hl
    refine lv_aload_n hx hb dX12_laysSaid_0 rfl (lv_at hl 0 rfl) ?_
    refine gf_X12_99 (v := .ref (ad 30)) hC hP kM_0 rfl dX12_laysSaid_1 ?_
    refine lv_iload_n hx hb dX12_laysSaid_4 rfl (lv_at hl 2 rfl) ?_
    refine lv_aload_n hx hb dX12_laysSaid_5 rfl (lv_at hl 0 rfl) ?_
    refine gf_X12_99 (v := .ref (ad 30)) hC hP kM_0 rfl dX12_laysSaid_6 ?_
    refine lv_iload_n hx hb dX12_laysSaid_9 rfl (lv_at hl 1 rfl) ?_
    obtain ⟨h1, hf⟩ := fxG_e hf
    refine fx_iald hC hP kM_30 (fx_inp h1) dX12_laysSaid_10 ?_
    obtain ⟨h2, hf⟩ := fxG_e hf
    obtain ⟨σ3, eσ3, hf⟩ := fxL_e hf
    refine fx_iast hC hP hS kM_30 (fx_inp h2) dX12_laysSaid_11 (fun H locs hP hS => ?_)
    replace hP := fx_Pe eσ3 hP
    refine lv_iconst hx hb dX12_laysSaid_12 ki_0 ?_
    refine lv_istore_n (lv' := [(3, .int 0), (0, .ref (ad 0)), (1, .int a1), (2, .int a2)]) hx hb dX12_laysSaid_13 rfl hl (by decide) rfl (fun ls hl => ?_)
    obtain ⟨K4, hK4, hf⟩ := fxL_e hf
    have k_K4 : ∀ (σ5 : FH) (H : Heap) (locs : List Loc) (ls : Array Slot), fx_P D cy LM ad σ5 H → va_S A s.heap H locs → lv_has ls 4 [] → K4 σ5 = some σ' → W p l e (fx_R (0)) s m args below meth c H locs 0 0 (fx_Qv D cy LM ad A below args s σ') (F0 m 70 ls []) := by
      intro σ5 H locs ls hP hS hl hf
      replace hf := fxk1 hK4 hf
      exact fx_vretf hf hC hr hk hP hS dX12_laysSaid_70
    have L17 : ∀ (n9 : Nat) (w6 : Int32) (σ7 : FH) (H : Heap) (locs : List Loc) (ls : Array Slot), fx_P D cy LM ad σ7 H → va_S A s.heap H locs → lv_has ls 4 [(0, .ref (ad 0)), (1, .int a1), (2, .int a2), (3, .int w6)] → fX12_laysSaid_14 a1 a2 K4 n9 w6 σ7 = some σ' → W p l e (fx_R (0)) s m args below meth c H locs 0 0 (fx_Qv D cy LM ad A below args s σ') (F0 m 14 ls []) := by
      intro n9
      induction n9 with
      | zero =>
        intro w6 σ7 H locs ls hP hS hl hf
        rw [fX12_laysSaid_14] at hf
        cases hf
      | succ n9 ih8 =>
        intro w6 σ7 H locs ls hP hS hl hf
        rw [fX12_laysSaid_14] at hf
        refine lv_iload_n hx hb dX12_laysSaid_14 rfl (lv_at hl 3 rfl) ?_
        refine lv_bipush hx hb dX12_laysSaid_15 kb_8 ?_
        refine lv_icmp_ge (tgt := 70) hx hb dX12_laysSaid_17 (by decide) (fun c10 => ?_) (fun c10 => ?_)
        · replace hf := fx_it c10 hf
          exact k_K4 σ7 _ _ _ hP hS (lv_sub hl [] rfl) hf
        · replace hf := fx_ie c10 hf
          refine lv_aload_n hx hb dX12_laysSaid_20 rfl (lv_at hl 0 rfl) ?_
          refine gf_X12_102 (v := .ref (ad 31)) hC hP kM_0 rfl dX12_laysSaid_21 ?_
          refine lv_bipush hx hb dX12_laysSaid_24 kb_8 ?_
          refine lv_iload_n hx hb dX12_laysSaid_26 rfl (lv_at hl 2 rfl) ?_
          refine lv_imul hx hb dX12_laysSaid_27 ?_
          refine lv_iload_n hx hb dX12_laysSaid_28 rfl (lv_at hl 3 rfl) ?_
          refine lv_iadd hx hb dX12_laysSaid_29 ?_
          refine lv_aload_n hx hb dX12_laysSaid_30 rfl (lv_at hl 0 rfl) ?_
          refine gf_X12_102 (v := .ref (ad 31)) hC hP kM_0 rfl dX12_laysSaid_31 ?_
          refine lv_bipush hx hb dX12_laysSaid_34 kb_8 ?_
          refine lv_iload_n hx hb dX12_laysSaid_36 rfl (lv_at hl 1 rfl) ?_
          refine lv_imul hx hb dX12_laysSaid_37 ?_
          refine lv_iload_n hx hb dX12_laysSaid_38 rfl (lv_at hl 3 rfl) ?_
          refine lv_iadd hx hb dX12_laysSaid_39 ?_
          obtain ⟨h11, hf⟩ := fxG_e hf
          refine fx_iald hC hP kM_31 (fx_inp h11) dX12_laysSaid_40 ?_
          obtain ⟨h12, hf⟩ := fxG_e hf
          obtain ⟨σ13, eσ13, hf⟩ := fxL_e hf
          refine fx_iast hC hP hS kM_31 (fx_inp h12) dX12_laysSaid_41 (fun H locs hP hS => ?_)
          replace hP := fx_Pe eσ13 hP
          refine lv_aload_n hx hb dX12_laysSaid_42 rfl (lv_at hl 0 rfl) ?_
          refine gf_X12_105 (v := .ref (ad 32)) hC hP kM_0 rfl dX12_laysSaid_43 ?_
          refine lv_bipush hx hb dX12_laysSaid_46 kb_8 ?_
          refine lv_iload_n hx hb dX12_laysSaid_48 rfl (lv_at hl 2 rfl) ?_
          refine lv_imul hx hb dX12_laysSaid_49 ?_
          refine lv_iload_n hx hb dX12_laysSaid_50 rfl (lv_at hl 3 rfl) ?_
          refine lv_iadd hx hb dX12_laysSaid_51 ?_
          refine lv_aload_n hx hb dX12_laysSaid_52 rfl (lv_at hl 0 rfl) ?_
          refine gf_X12_105 (v := .ref (ad 32)) hC hP kM_0 rfl dX12_laysSaid_53 ?_
          refine lv_bipush hx hb dX12_laysSaid_56 kb_8 ?_
          refine lv_iload_n hx hb dX12_laysSaid_58 rfl (lv_at hl 1 rfl) ?_
          refine lv_imul hx hb dX12_laysSaid_59 ?_
          refine lv_iload_n hx hb dX12_laysSaid_60 rfl (lv_at hl 3 rfl) ?_
          refine lv_iadd hx hb dX12_laysSaid_61 ?_
          obtain ⟨h14, hf⟩ := fxG_e hf
          refine fx_zald hC hP kM_32 (fx_inp h14) dX12_laysSaid_62 ?_
          obtain ⟨h15, hf⟩ := fxG_e hf
          obtain ⟨σ16, eσ16, hf⟩ := fxL_e hf
          refine fx_zast hC hP hS kM_32 (fx_inp h15) dX12_laysSaid_63 (fun H locs hP hS => ?_)
          replace hP := fx_Pe eσ16 hP
          refine lv_iinc (v := (w6 + 1)) (lv' := [(3, .int (w6 + 1)), (0, .ref (ad 0)), (1, .int a1), (2, .int a2)]) hx hb dX12_laysSaid_64 hl (k := 3) rfl (congrArg (fun z => w6 + z) ki_1) (by decide) rfl (fun ls hl => ?_)
          refine lv_goto (tgt := 14) hx hb dX12_laysSaid_67 (by decide) ?_
          exact ih8 (w6 + 1) σ16 _ _ _ hP hS (lv_sub hl [1, 2, 3, 0] rfl) hf
    exact L17 FU 0 σ3 _ _ _ hP hS (lv_sub hl [1, 2, 3, 0] rfl) hf
  exact main _ _ _ hP hS hl

set_option maxHeartbeats 4000000 in
set_option maxRecDepth 100000 in
theorem ctX12_fresh0 (l : Launch) {σ σ' : FH} (hf : fX12_fresh0 σ = some σ') : fx_Mv l yX12_fresh0 cX12_fresh0 2 none (0) LM (fun ad ec => [.ref (ad 0)]) σ σ' := by
  unfold fX12_fresh0 at hf
  refine fx_mv' (own := RX12) rfl (by decide +kernel) ?_
  intro p e s m args below meth c D cy ad ec A hC hr hk hP hS
  have hx := hC.1
  have hb := hC.2.1
  have hl := lv_entry ([.ref (ad 0)]) (n := 2) (Nat.le_of_ble_eq_true rfl)
  show W _ _ _ _ _ _ _ _ _ _ _ _ _ _ _ (entryFrame m ([.ref (ad 0)] : List Value).toArray 2)
  rw [lg_entry_eq]
  generalize (lg_sl ([.ref (ad 0)]) ++ List.replicate (2 - (lg_sl ([.ref (ad 0)])).length) Slot.unset).toArray = ls at hl ⊢
  have hl : lv_has ls 2 [(0, .ref (ad 0))] := hl
  have main : ∀ (H : Heap) (locs : List Loc) (ls : Array Slot), fx_P D cy LM ad σ H → va_S A s.heap H locs → lv_has ls 2 [(0, .ref (ad 0))] → W p l e (fx_R (0)) s m args below meth c H locs 0 0 (fx_Qv D cy LM ad A below args s σ') (F0 m 0 ls []) := by
    intro H locs ls hP hS hl
    refine lv_iconst hx hb dX12_fresh0_0 ki_0 ?_
    refine lv_istore_n (lv' := [(1, .int 0), (0, .ref (ad 0))]) hx hb dX12_fresh0_1 rfl hl (by decide) rfl (fun ls hl => ?_)
    obtain ⟨K1, hK1, hf⟩ := fxL_e hf
    have k_K1 : ∀ (σ2 : FH) (H : Heap) (locs : List Loc) (ls : Array Slot), fx_P D cy LM ad σ2 H → va_S A s.heap H locs → lv_has ls 2 [(0, .ref (ad 0))] → K1 σ2 = some σ' → W p l e (fx_R (0)) s m args below meth c H locs 0 0 (fx_Qv D cy LM ad A below args s σ') (F0 m 21 ls []) := by
      intro σ2 H locs ls hP hS hl hf
      replace hf := fxk1 hK1 hf
      refine lv_iconst hx hb dX12_fresh0_21 ki_0 ?_
      refine lv_istore_n (lv' := [(1, .int 0), (0, .ref (ad 0))]) hx hb dX12_fresh0_22 rfl hl (by decide) rfl (fun ls hl => ?_)
      obtain ⟨K3, hK3, hf⟩ := fxL_e hf
      have k_K3 : ∀ (σ4 : FH) (H : Heap) (locs : List Loc) (ls : Array Slot), fx_P D cy LM ad σ4 H → va_S A s.heap H locs → lv_has ls 2 [(0, .ref (ad 0))] → K3 σ4 = some σ' → W p l e (fx_R (0)) s m args below meth c H locs 0 0 (fx_Qv D cy LM ad A below args s σ') (F0 m 53 ls []) := by
        intro σ4 H locs ls hP hS hl hf
        replace hf := fxk1 hK3 hf
        refine lv_iconst hx hb dX12_fresh0_53 ki_0 ?_
        refine lv_istore_n (lv' := [(1, .int 0), (0, .ref (ad 0))]) hx hb dX12_fresh0_54 rfl hl (by decide) rfl (fun ls hl => ?_)
        obtain ⟨K5, hK5, hf⟩ := fxL_e hf
        have k_K5 : ∀ (σ6 : FH) (H : Heap) (locs : List Loc) (ls : Array Slot), fx_P D cy LM ad σ6 H → va_S A s.heap H locs → lv_has ls 2 [] → K5 σ6 = some σ' → W p l e (fx_R (0)) s m args below meth c H locs 0 0 (fx_Qv D cy LM ad A below args s σ') (F0 m 86 ls []) := by
          intro σ6 H locs ls hP hS hl hf
          replace hf := fxk1 hK5 hf
          exact fx_vretf hf hC hr hk hP hS dX12_fresh0_86
        have L16 : ∀ (n10 : Nat) (w7 : Int32) (σ8 : FH) (H : Heap) (locs : List Loc) (ls : Array Slot), fx_P D cy LM ad σ8 H → va_S A s.heap H locs → lv_has ls 2 [(0, .ref (ad 0)), (1, .int w7)] → fX12_fresh0_55 K5 n10 w7 σ8 = some σ' → W p l e (fx_R (0)) s m args below meth c H locs 0 0 (fx_Qv D cy LM ad A below args s σ') (F0 m 55 ls []) := by
          intro n10
          induction n10 with
          | zero =>
            intro w7 σ8 H locs ls hP hS hl hf
            rw [fX12_fresh0_55] at hf
            cases hf
          | succ n10 ih9 =>
            intro w7 σ8 H locs ls hP hS hl hf
            rw [fX12_fresh0_55] at hf
            refine lv_iload_n hx hb dX12_fresh0_55 rfl (lv_at hl 1 rfl) ?_
            refine lv_aload_n hx hb dX12_fresh0_56 rfl (lv_at hl 0 rfl) ?_
            refine gf_X12_13 (v := .ref (ad 2)) hC hP kM_0 rfl dX12_fresh0_57 ?_
            refine lv_iconst hx hb dX12_fresh0_60 ki_1 ?_
            obtain ⟨h11, hf⟩ := fxG_e hf
            refine fx_iald hC hP kM_2 (fx_inp h11) dX12_fresh0_61 ?_
            refine lv_icmp_ge (tgt := 86) hx hb dX12_fresh0_62 (by decide) (fun c12 => ?_) (fun c12 => ?_)
            · replace hf := fx_it c12 hf
              exact k_K5 σ8 _ _ _ hP hS (lv_sub hl [] rfl) hf
            · replace hf := fx_ie c12 hf
              refine lv_aload_n hx hb dX12_fresh0_65 rfl (lv_at hl 0 rfl) ?_
              refine gf_X12_108 (v := .ref (ad 33)) hC hP kM_0 rfl dX12_fresh0_66 ?_
              refine lv_bipush hx hb dX12_fresh0_69 kb_9 ?_
              refine lv_iload_n hx hb dX12_fresh0_71 rfl (lv_at hl 1 rfl) ?_
              refine lv_iadd hx hb dX12_fresh0_72 ?_
              refine lv_aload_n hx hb dX12_fresh0_73 rfl (lv_at hl 0 rfl) ?_
              refine gf_X12_32 (v := .ref (ad 8)) hC hP kM_0 rfl dX12_fresh0_74 ?_
              refine lv_iload_n hx hb dX12_fresh0_77 rfl (lv_at hl 1 rfl) ?_
              obtain ⟨h13, hf⟩ := fxG_e hf
              refine fx_iald hC hP kM_8 (fx_inp h13) dX12_fresh0_78 ?_
              obtain ⟨h14, hf⟩ := fxG_e hf
              obtain ⟨σ15, eσ15, hf⟩ := fxL_e hf
              refine fx_iast hC hP hS kM_33 (fx_inp h14) dX12_fresh0_79 (fun H locs hP hS => ?_)
              replace hP := fx_Pe eσ15 hP
              refine lv_iinc (v := (w7 + 1)) (lv' := [(1, .int (w7 + 1)), (0, .ref (ad 0))]) hx hb dX12_fresh0_80 hl (k := 1) rfl (congrArg (fun z => w7 + z) ki_1) (by decide) rfl (fun ls hl => ?_)
              refine lv_goto (tgt := 55) hx hb dX12_fresh0_83 (by decide) ?_
              exact ih9 (w7 + 1) σ15 _ _ _ hP hS (lv_sub hl [1, 0] rfl) hf
        exact L16 FU 0 σ4 _ _ _ hP hS (lv_sub hl [1, 0] rfl) hf
      have L26 : ∀ (n20 : Nat) (w17 : Int32) (σ18 : FH) (H : Heap) (locs : List Loc) (ls : Array Slot), fx_P D cy LM ad σ18 H → va_S A s.heap H locs → lv_has ls 2 [(0, .ref (ad 0)), (1, .int w17)] → fX12_fresh0_23 K3 n20 w17 σ18 = some σ' → W p l e (fx_R (0)) s m args below meth c H locs 0 0 (fx_Qv D cy LM ad A below args s σ') (F0 m 23 ls []) := by
        intro n20
        induction n20 with
        | zero =>
          intro w17 σ18 H locs ls hP hS hl hf
          rw [fX12_fresh0_23] at hf
          cases hf
        | succ n20 ih19 =>
          intro w17 σ18 H locs ls hP hS hl hf
          rw [fX12_fresh0_23] at hf
          refine lv_iload_n hx hb dX12_fresh0_23 rfl (lv_at hl 1 rfl) ?_
          refine lv_aload_n hx hb dX12_fresh0_24 rfl (lv_at hl 0 rfl) ?_
          refine gf_X12_13 (v := .ref (ad 2)) hC hP kM_0 rfl dX12_fresh0_25 ?_
          refine lv_iconst hx hb dX12_fresh0_28 ki_0 ?_
          obtain ⟨h21, hf⟩ := fxG_e hf
          refine fx_iald hC hP kM_2 (fx_inp h21) dX12_fresh0_29 ?_
          refine lv_icmp_ge (tgt := 53) hx hb dX12_fresh0_30 (by decide) (fun c22 => ?_) (fun c22 => ?_)
          · replace hf := fx_it c22 hf
            exact k_K3 σ18 _ _ _ hP hS (lv_sub hl [0] rfl) hf
          · replace hf := fx_ie c22 hf
            refine lv_aload_n hx hb dX12_fresh0_33 rfl (lv_at hl 0 rfl) ?_
            refine gf_X12_108 (v := .ref (ad 33)) hC hP kM_0 rfl dX12_fresh0_34 ?_
            refine lv_iconst hx hb dX12_fresh0_37 ki_3 ?_
            refine lv_iload_n hx hb dX12_fresh0_38 rfl (lv_at hl 1 rfl) ?_
            refine lv_iadd hx hb dX12_fresh0_39 ?_
            refine lv_aload_n hx hb dX12_fresh0_40 rfl (lv_at hl 0 rfl) ?_
            refine gf_X12_29 (v := .ref (ad 7)) hC hP kM_0 rfl dX12_fresh0_41 ?_
            refine lv_iload_n hx hb dX12_fresh0_44 rfl (lv_at hl 1 rfl) ?_
            obtain ⟨h23, hf⟩ := fxG_e hf
            refine fx_iald hC hP kM_7 (fx_inp h23) dX12_fresh0_45 ?_
            obtain ⟨h24, hf⟩ := fxG_e hf
            obtain ⟨σ25, eσ25, hf⟩ := fxL_e hf
            refine fx_iast hC hP hS kM_33 (fx_inp h24) dX12_fresh0_46 (fun H locs hP hS => ?_)
            replace hP := fx_Pe eσ25 hP
            refine lv_iinc (v := (w17 + 1)) (lv' := [(1, .int (w17 + 1)), (0, .ref (ad 0))]) hx hb dX12_fresh0_47 hl (k := 1) rfl (congrArg (fun z => w17 + z) ki_1) (by decide) rfl (fun ls hl => ?_)
            refine lv_goto (tgt := 23) hx hb dX12_fresh0_50 (by decide) ?_
            exact ih19 (w17 + 1) σ25 _ _ _ hP hS (lv_sub hl [1, 0] rfl) hf
      exact L26 FU 0 σ2 _ _ _ hP hS (lv_sub hl [1, 0] rfl) hf
    have L34 : ∀ (n30 : Nat) (w27 : Int32) (σ28 : FH) (H : Heap) (locs : List Loc) (ls : Array Slot), fx_P D cy LM ad σ28 H → va_S A s.heap H locs → lv_has ls 2 [(0, .ref (ad 0)), (1, .int w27)] → fX12_fresh0_2 K1 n30 w27 σ28 = some σ' → W p l e (fx_R (0)) s m args below meth c H locs 0 0 (fx_Qv D cy LM ad A below args s σ') (F0 m 2 ls []) := by
      intro n30
      induction n30 with
      | zero =>
        intro w27 σ28 H locs ls hP hS hl hf
        rw [fX12_fresh0_2] at hf
        cases hf
      | succ n30 ih29 =>
        intro w27 σ28 H locs ls hP hS hl hf
        rw [fX12_fresh0_2] at hf
        refine lv_iload_n hx hb dX12_fresh0_2 rfl (lv_at hl 1 rfl) ?_
        refine lv_bipush hx hb dX12_fresh0_3 kb_14 ?_
        refine lv_icmp_ge (tgt := 21) hx hb dX12_fresh0_5 (by decide) (fun c31 => ?_) (fun c31 => ?_)
        · replace hf := fx_it c31 hf
          exact k_K1 σ28 _ _ _ hP hS (lv_sub hl [0] rfl) hf
        · replace hf := fx_ie c31 hf
          refine lv_aload_n hx hb dX12_fresh0_8 rfl (lv_at hl 0 rfl) ?_
          refine gf_X12_108 (v := .ref (ad 33)) hC hP kM_0 rfl dX12_fresh0_9 ?_
          refine lv_iload_n hx hb dX12_fresh0_12 rfl (lv_at hl 1 rfl) ?_
          refine lv_iconst hx hb dX12_fresh0_13 ki_0 ?_
          obtain ⟨h32, hf⟩ := fxG_e hf
          obtain ⟨σ33, eσ33, hf⟩ := fxL_e hf
          refine fx_iast hC hP hS kM_33 (fx_inp h32) dX12_fresh0_14 (fun H locs hP hS => ?_)
          replace hP := fx_Pe eσ33 hP
          refine lv_iinc (v := (w27 + 1)) (lv' := [(1, .int (w27 + 1)), (0, .ref (ad 0))]) hx hb dX12_fresh0_15 hl (k := 1) rfl (congrArg (fun z => w27 + z) ki_1) (by decide) rfl (fun ls hl => ?_)
          refine lv_goto (tgt := 2) hx hb dX12_fresh0_18 (by decide) ?_
          exact ih29 (w27 + 1) σ33 _ _ _ hP hS (lv_sub hl [1, 0] rfl) hf
    exact L34 FU 0 σ _ _ _ hP hS (lv_sub hl [1, 0] rfl) hf
  exact main _ _ _ hP hS hl

set_option maxHeartbeats 4000000 in
set_option maxRecDepth 100000 in
theorem ctX12_republic (l : Launch) {σ σ' : FH} {v : Int32} (hf : fX12_republic σ = some (v, σ')) : fx_Mi l yX12_republic cX12_republic 2 (some .int) (6) LM (fun ad ec => [.ref (ad 0)]) σ v σ' := by
  unfold fX12_republic at hf
  refine fx_mi' (own := RX12) rfl (by decide +kernel) ?_
  intro p e s m args below meth c D cy ad ec A hC hr hk hP hS
  have hx := hC.1
  have hb := hC.2.1
  have hl := lv_entry ([.ref (ad 0)]) (n := 2) (Nat.le_of_ble_eq_true rfl)
  show W _ _ _ _ _ _ _ _ _ _ _ _ _ _ _ (entryFrame m ([.ref (ad 0)] : List Value).toArray 2)
  rw [lg_entry_eq]
  generalize (lg_sl ([.ref (ad 0)]) ++ List.replicate (2 - (lg_sl ([.ref (ad 0)])).length) Slot.unset).toArray = ls at hl ⊢
  have hl : lv_has ls 2 [(0, .ref (ad 0))] := hl
  have main : ∀ (H : Heap) (locs : List Loc) (ls : Array Slot), fx_P D cy LM ad σ H → va_S A s.heap H locs → lv_has ls 2 [(0, .ref (ad 0))] → W p l e (fx_R (6)) s m args below meth c H locs 0 0 (fx_Qi D cy LM ad A below args s v σ') (F0 m 0 ls []) := by
    intro H locs ls hP hS hl
    refine lv_aload_n hx hb dX12_republic_0 rfl (lv_at hl 0 rfl) ?_
    refine lv_iconst hx hb dX12_republic_1 ki_0 ?_
    obtain ⟨σ1, eσ1, hf⟩ := fxL_e hf
    refine pf_X12_133 hC hP hS kM_0 dX12_republic_2 (fun H locs hP hS => ?_)
    replace hP := fx_Pe eσ1 hP
    refine lv_aload_n hx hb dX12_republic_5 rfl (lv_at hl 0 rfl) ?_
    obtain ⟨r3, σ4, hc2, hf⟩ := fxBI_e hf
    refine fx_ci hC hS (fx_runV (i := 0) (As := []) (rest := []) hC hP hS (ctX12_readsAll l hc2 D cy ad ec _) kM_0 (by decide) rfl kMV_X12_332 kC_X12_readsAll hd_X12_readsAll rfl ⟨(Nat.le_of_ble_eq_true rfl), (Nat.le_of_ble_eq_true rfl)⟩ ⟨Nat.le_refl 0, Nat.le_refl 0⟩ hl.1 (Nat.le_of_ble_eq_true rfl) rfl dX12_republic_6) (fun H locs hP hS => ?_)
    refine lv_if_ne (tgt := 17) hx hb dX12_republic_9 (by decide) (fun c5 => ?_) (fun c5 => ?_)
    · replace hf := fx_ie c5 hf
      refine lv_aload_n hx hb dX12_republic_17 rfl (lv_at hl 0 rfl) ?_
      obtain ⟨σ8, hc6, hf⟩ := fxBV_e hf
      refine fx_cv hC hS (fx_runV (i := 0) (As := []) (rest := []) hC hP hS (ctX12_lays l hc6 D cy ad ec _) kM_0 (by decide) rfl kMV_X12_335 kC_X12_lays hd_X12_lays rfl ⟨(Nat.le_of_ble_eq_true rfl), (Nat.le_of_ble_eq_true rfl)⟩ ⟨Nat.le_refl 0, Nat.le_refl 0⟩ hl.1 (Nat.le_of_ble_eq_true rfl) rfl dX12_republic_18) (fun H locs hP hS => ?_)
      refine lv_aload_n hx hb dX12_republic_21 rfl (lv_at hl 0 rfl) ?_
      obtain ⟨σ11, hc9, hf⟩ := fxBV_e hf
      refine fx_cv hC hS (fx_runV (i := 0) (As := []) (rest := []) hC hP hS (ctX12_fresh0 l hc9 D cy ad ec _) kM_0 (by decide) rfl kMV_X12_338 kC_X12_fresh0 hd_X12_fresh0 rfl ⟨(Nat.le_of_ble_eq_true rfl), (Nat.le_of_ble_eq_true rfl)⟩ ⟨Nat.le_refl 0, Nat.le_refl 0⟩ hl.1 (Nat.le_of_ble_eq_true rfl) rfl dX12_republic_22) (fun H locs hP hS => ?_)
      refine lv_aload_n hx hb dX12_republic_25 rfl (lv_at hl 0 rfl) ?_
      refine gf_X12_84 (v := .ref (ad 25)) hC hP kM_0 rfl dX12_republic_26 ?_
      refine lv_iconst hx hb dX12_republic_29 ki_0 ?_
      refine lv_iconst hx hb dX12_republic_30 ki_0 ?_
      obtain ⟨h12, hf⟩ := fxG_e hf
      obtain ⟨σ13, eσ13, hf⟩ := fxL_e hf
      refine fx_iast hC hP hS kM_25 (fx_inp h12) dX12_republic_31 (fun H locs hP hS => ?_)
      replace hP := fx_Pe eσ13 hP
      refine lv_aload_n hx hb dX12_republic_32 rfl (lv_at hl 0 rfl) ?_
      refine gf_X12_99 (v := .ref (ad 30)) hC hP kM_0 rfl dX12_republic_33 ?_
      refine lv_iconst hx hb dX12_republic_36 ki_0 ?_
      refine lv_iconst hx hb dX12_republic_37 ki_0 ?_
      obtain ⟨h14, hf⟩ := fxG_e hf
      obtain ⟨σ15, eσ15, hf⟩ := fxL_e hf
      refine fx_iast hC hP hS kM_30 (fx_inp h14) dX12_republic_38 (fun H locs hP hS => ?_)
      replace hP := fx_Pe eσ15 hP
      refine lv_aload_n hx hb dX12_republic_39 rfl (lv_at hl 0 rfl) ?_
      refine lv_iconst hx hb dX12_republic_40 ki_0 ?_
      obtain ⟨σ16, eσ16, hf⟩ := fxL_e hf
      refine pf_X12_341 hC hP hS kM_0 dX12_republic_41 (fun H locs hP hS => ?_)
      replace hP := fx_Pe eσ16 hP
      refine lv_iconst hx hb dX12_republic_44 ki_0 ?_
      refine lv_istore_n (lv' := [(1, .int 0), (0, .ref (ad 0))]) hx hb dX12_republic_45 rfl hl (by decide) rfl (fun ls hl => ?_)
      obtain ⟨K17, hK17, hf⟩ := fxL_e hf
      have k_K17 : ∀ (σ18 : FH) (H : Heap) (locs : List Loc) (ls : Array Slot), fx_P D cy LM ad σ18 H → va_S A s.heap H locs → lv_has ls 2 [] → K17 σ18 = some (v, σ') → W p l e (fx_R (6)) s m args below meth c H locs 0 0 (fx_Qi D cy LM ad A below args s v σ') (F0 m 64 ls []) := by
        intro σ18 H locs ls hP hS hl hf
        replace hf := fxk1 hK17 hf
        refine lv_iconst hx hb dX12_republic_64 ki_0 ?_
        exact fx_iretf hf hC hr hk hP hS dX12_republic_65
      have L26 : ∀ (n22 : Nat) (w19 : Int32) (σ20 : FH) (H : Heap) (locs : List Loc) (ls : Array Slot), fx_P D cy LM ad σ20 H → va_S A s.heap H locs → lv_has ls 2 [(0, .ref (ad 0)), (1, .int w19)] → fX12_republic_46 K17 n22 w19 σ20 = some (v, σ') → W p l e (fx_R (6)) s m args below meth c H locs 0 0 (fx_Qi D cy LM ad A below args s v σ') (F0 m 46 ls []) := by
        intro n22
        induction n22 with
        | zero =>
          intro w19 σ20 H locs ls hP hS hl hf
          rw [fX12_republic_46] at hf
          cases hf
        | succ n22 ih21 =>
          intro w19 σ20 H locs ls hP hS hl hf
          rw [fX12_republic_46] at hf
          refine lv_iload_n hx hb dX12_republic_46 rfl (lv_at hl 1 rfl) ?_
          refine lv_iconst hx hb dX12_republic_47 ki_4 ?_
          refine lv_icmp_ge (tgt := 64) hx hb dX12_republic_48 (by decide) (fun c23 => ?_) (fun c23 => ?_)
          · replace hf := fx_it c23 hf
            exact k_K17 σ20 _ _ _ hP hS (lv_sub hl [] rfl) hf
          · replace hf := fx_ie c23 hf
            refine lv_aload_n hx hb dX12_republic_51 rfl (lv_at hl 0 rfl) ?_
            refine gf_X12_123 (v := .ref (ad 38)) hC hP kM_0 rfl dX12_republic_52 ?_
            refine lv_iload_n hx hb dX12_republic_55 rfl (lv_at hl 1 rfl) ?_
            refine lv_iconst hx hb dX12_republic_56 ki_0 ?_
            obtain ⟨h24, hf⟩ := fxG_e hf
            obtain ⟨σ25, eσ25, hf⟩ := fxL_e hf
            refine fx_zast hC hP hS kM_38 (fx_inp h24) dX12_republic_57 (fun H locs hP hS => ?_)
            replace hP := fx_Pe eσ25 hP
            refine lv_iinc (v := (w19 + 1)) (lv' := [(1, .int (w19 + 1)), (0, .ref (ad 0))]) hx hb dX12_republic_58 hl (k := 1) rfl (congrArg (fun z => w19 + z) ki_1) (by decide) rfl (fun ls hl => ?_)
            refine lv_goto (tgt := 46) hx hb dX12_republic_61 (by decide) ?_
            exact ih21 (w19 + 1) σ25 _ _ _ hP hS (lv_sub hl [1, 0] rfl) hf
      exact L26 FU 0 σ16 _ _ _ hP hS (lv_sub hl [1, 0] rfl) hf
    · replace hf := fx_it c5 hf
      refine lv_aload_n hx hb dX12_republic_12 rfl (lv_at hl 0 rfl) ?_
      refine gf_X12_169 (v := .int (σ4.1 0 9)) hC hP kM_0 rfl dX12_republic_13 ?_
      exact fx_iretf hf hC hr hk hP hS dX12_republic_16
  exact main _ _ _ hP hS hl

set_option maxHeartbeats 4000000 in
set_option maxRecDepth 100000 in
theorem ctX12_term (l : Launch) {σ σ' : FH} {v : Int32} (hf : fX12_term σ = some (v, σ')) : fx_Mi l yX12_term cX12_term 1 (some .int) (4) LM (fun ad ec => [.ref (ad 0)]) σ v σ' := by
  unfold fX12_term at hf
  refine fx_mi' (own := RX12) rfl (by decide +kernel) ?_
  intro p e s m args below meth c D cy ad ec A hC hr hk hP hS
  have hx := hC.1
  have hb := hC.2.1
  have hl := lv_entry ([.ref (ad 0)]) (n := 1) (Nat.le_of_ble_eq_true rfl)
  show W _ _ _ _ _ _ _ _ _ _ _ _ _ _ _ (entryFrame m ([.ref (ad 0)] : List Value).toArray 1)
  rw [lg_entry_eq]
  generalize (lg_sl ([.ref (ad 0)]) ++ List.replicate (1 - (lg_sl ([.ref (ad 0)])).length) Slot.unset).toArray = ls at hl ⊢
  have hl : lv_has ls 1 [(0, .ref (ad 0))] := hl
  have main : ∀ (H : Heap) (locs : List Loc) (ls : Array Slot), fx_P D cy LM ad σ H → va_S A s.heap H locs → lv_has ls 1 [(0, .ref (ad 0))] → W p l e (fx_R (4)) s m args below meth c H locs 0 0 (fx_Qi D cy LM ad A below args s v σ') (F0 m 0 ls []) := by
    intro H locs ls hP hS hl
    refine lv_aload_n hx hb dX12_term_0 rfl (lv_at hl 0 rfl) ?_
    refine lv_iconst hx hb dX12_term_1 ki_0 ?_
    obtain ⟨σ1, eσ1, hf⟩ := fxL_e hf
    refine pf_X12_133 hC hP hS kM_0 dX12_term_2 (fun H locs hP hS => ?_)
    replace hP := fx_Pe eσ1 hP
    refine lv_aload_n hx hb dX12_term_5 rfl (lv_at hl 0 rfl) ?_
    refine gf_X12_84 (v := .ref (ad 25)) hC hP kM_0 rfl dX12_term_6 ?_
    refine lv_iconst hx hb dX12_term_9 ki_5 ?_
    refine lv_iconst hx hb dX12_term_10 ki_0 ?_
    obtain ⟨h2, hf⟩ := fxG_e hf
    obtain ⟨σ3, eσ3, hf⟩ := fxL_e hf
    refine fx_iast hC hP hS kM_25 (fx_inp h2) dX12_term_11 (fun H locs hP hS => ?_)
    replace hP := fx_Pe eσ3 hP
    refine lv_aload_n hx hb dX12_term_12 rfl (lv_at hl 0 rfl) ?_
    obtain ⟨σ6, hc4, hf⟩ := fxBV_e hf
    refine fx_cv hC hS (fx_runV (i := 0) (As := []) (rest := []) hC hP hS (ctX12_begins l hc4 D cy ad ec _) kM_0 (by decide) rfl kMV_X12_306 kC_X12_begins hd_X12_begins rfl ⟨(Nat.le_of_ble_eq_true rfl), (Nat.le_of_ble_eq_true rfl)⟩ ⟨Nat.le_refl 0, Nat.le_refl 0⟩ hl.1 (Nat.le_of_ble_eq_true rfl) rfl dX12_term_13) (fun H locs hP hS => ?_)
    obtain ⟨K7, hK7, hf⟩ := fxL_e hf
    have k_K7 : ∀ (σ8 : FH) (H : Heap) (locs : List Loc) (ls : Array Slot), fx_P D cy LM ad σ8 H → va_S A s.heap H locs → lv_has ls 1 [(0, .ref (ad 0))] → K7 σ8 = some (v, σ') → W p l e (fx_R (4)) s m args below meth c H locs 0 0 (fx_Qi D cy LM ad A below args s v σ') (F0 m 35 ls []) := by
      intro σ8 H locs ls hP hS hl hf
      replace hf := fxk1 hK7 hf
      refine lv_aload_n hx hb dX12_term_35 rfl (lv_at hl 0 rfl) ?_
      refine lv_iconst hx hb dX12_term_36 ki_5 ?_
      refine lv_iconst hx hb dX12_term_37 ki_0 ?_
      obtain ⟨σ11, hc9, hf⟩ := fxBV_e hf
      refine fx_cv hC hS (fx_runV (i := 0) (As := [.int 5, .int 0]) (rest := []) hC hP hS (ctX12_laysLines l hc9 D cy ad ec _) kM_0 (by decide) rfl kMV_X12_347 kC_X12_laysLines hd_X12_laysLines rfl ⟨(Nat.le_of_ble_eq_true rfl), (Nat.le_of_ble_eq_true rfl)⟩ ⟨Nat.le_refl 0, Nat.le_refl 0⟩ hl.1 (Nat.le_of_ble_eq_true rfl) rfl dX12_term_38) (fun H locs hP hS => ?_)
      refine lv_iconst hx hb dX12_term_41 ki_0 ?_
      exact fx_iretf hf hC hr hk hP hS dX12_term_42
    have L20 : ∀ (n14 : Nat) (σ12 : FH) (H : Heap) (locs : List Loc) (ls : Array Slot), fx_P D cy LM ad σ12 H → va_S A s.heap H locs → lv_has ls 1 [(0, .ref (ad 0))] → fX12_term_16 K7 n14 σ12 = some (v, σ') → W p l e (fx_R (4)) s m args below meth c H locs 0 0 (fx_Qi D cy LM ad A below args s v σ') (F0 m 16 ls []) := by
      intro n14
      induction n14 with
      | zero =>
        intro σ12 H locs ls hP hS hl hf
        rw [fX12_term_16] at hf
        cases hf
      | succ n14 ih13 =>
        intro σ12 H locs ls hP hS hl hf
        rw [fX12_term_16] at hf
        refine lv_aload_n hx hb dX12_term_16 rfl (lv_at hl 0 rfl) ?_
        refine gf_X12_158 (v := .int (σ12.1 0 6)) hC hP kM_0 rfl dX12_term_17 ?_
        refine lv_if_eq (tgt := 35) hx hb dX12_term_20 (by decide) (fun c15 => ?_) (fun c15 => ?_)
        · replace hf := fx_it c15 hf
          exact k_K7 σ12 _ _ _ hP hS (lv_sub hl [0] rfl) hf
        · replace hf := fx_ie c15 hf
          refine lv_aload_n hx hb dX12_term_23 rfl (lv_at hl 0 rfl) ?_
          obtain ⟨r17, σ18, hc16, hf⟩ := fxBI_e hf
          refine fx_ci hC hS (fx_runV (i := 0) (As := []) (rest := []) hC hP hS (ctX12_readsLine l hc16 D cy ad ec _) kM_0 (by decide) rfl kMV_X12_344 kC_X12_readsLine hd_X12_readsLine rfl ⟨(Nat.le_of_ble_eq_true rfl), (Nat.le_of_ble_eq_true rfl)⟩ ⟨Nat.le_refl 0, Nat.le_refl 0⟩ hl.1 (Nat.le_of_ble_eq_true rfl) rfl dX12_term_24) (fun H locs hP hS => ?_)
          refine lv_if_ne (tgt := 16) hx hb dX12_term_27 (by decide) (fun c19 => ?_) (fun c19 => ?_)
          · replace hf := fx_ie c19 hf
            exact ih13 σ18 _ _ _ hP hS (lv_sub hl [0] rfl) hf
          · replace hf := fx_it c19 hf
            refine lv_aload_n hx hb dX12_term_30 rfl (lv_at hl 0 rfl) ?_
            refine gf_X12_169 (v := .int (σ18.1 0 9)) hC hP kM_0 rfl dX12_term_31 ?_
            exact fx_iretf hf hC hr hk hP hS dX12_term_34
    exact L20 FU σ6 _ _ _ hP hS (lv_sub hl [0] rfl) hf
  exact main _ _ _ hP hS hl

set_option maxHeartbeats 4000000 in
set_option maxRecDepth 100000 in
theorem ctX12_isWare (l : Launch) {a1 : Int32} {σ : FH} {v : Int32} (hf : fX12_isWare a1 σ = some v) : fx_Mi l yX12_isWare cX12_isWare 2 (some .boolean) (0) LM (fun ad ec => [.ref (ad 0), .int a1]) σ v σ := by
  unfold fX12_isWare at hf
  refine fx_mi' (own := RX12) rfl (by decide +kernel) ?_
  intro p e s m args below meth c D cy ad ec A hC hr hk hP hS
  have hx := hC.1
  have hb := hC.2.1
  have hl := lv_entry ([.ref (ad 0), .int a1]) (n := 2) (Nat.le_of_ble_eq_true rfl)
  show W _ _ _ _ _ _ _ _ _ _ _ _ _ _ _ (entryFrame m ([.ref (ad 0), .int a1] : List Value).toArray 2)
  rw [lg_entry_eq]
  generalize (lg_sl ([.ref (ad 0), .int a1]) ++ List.replicate (2 - (lg_sl ([.ref (ad 0), .int a1])).length) Slot.unset).toArray = ls at hl ⊢
  have hl : lv_has ls 2 [(0, .ref (ad 0)), (1, .int a1)] := hl
  have main : ∀ (H : Heap) (locs : List Loc) (ls : Array Slot), fx_P D cy LM ad σ H → va_S A s.heap H locs → lv_has ls 2 [(0, .ref (ad 0)), (1, .int a1)] → W p l e (fx_R (0)) s m args below meth c H locs 0 0 (fx_Qi D cy LM ad A below args s v σ) (F0 m 0 ls []) := by
    intro H locs ls hP hS hl
    refine lv_iload_n hx hb dX12_isWare_0 rfl (lv_at hl 1 rfl) ?_
    refine lv_if_lt (tgt := 18) hx hb dX12_isWare_1 (by decide) (fun c1 => ?_) (fun c1 => ?_)
    · replace hf := fx_it c1 hf
      refine lv_iconst hx hb dX12_isWare_18 ki_0 ?_
      exact fx_zretp rfl hf hC hr hk hP hS dX12_isWare_19
    · replace hf := fx_ie c1 hf
      refine lv_iload_n hx hb dX12_isWare_4 rfl (lv_at hl 1 rfl) ?_
      refine lv_aload_n hx hb dX12_isWare_5 rfl (lv_at hl 0 rfl) ?_
      refine gf_X12_13 (v := .ref (ad 2)) hC hP kM_0 rfl dX12_isWare_6 ?_
      refine lv_iconst hx hb dX12_isWare_9 ki_0 ?_
      obtain ⟨h2, hf⟩ := fxG_e hf
      refine fx_iald hC hP kM_2 (fx_inp h2) dX12_isWare_10 ?_
      refine lv_icmp_ge (tgt := 18) hx hb dX12_isWare_11 (by decide) (fun c3 => ?_) (fun c3 => ?_)
      · replace hf := fx_it c3 hf
        refine lv_iconst hx hb dX12_isWare_18 ki_0 ?_
        exact fx_zretp rfl hf hC hr hk hP hS dX12_isWare_19
      · replace hf := fx_ie c3 hf
        refine lv_iconst hx hb dX12_isWare_14 ki_1 ?_
        refine lv_goto (tgt := 19) hx hb dX12_isWare_15 (by decide) ?_
        exact fx_zretp rfl hf hC hr hk hP hS dX12_isWare_19
  exact main _ _ _ hP hS hl

set_option maxHeartbeats 4000000 in
set_option maxRecDepth 100000 in
theorem ctX12_isParty (l : Launch) {a1 : Int32} {σ : FH} {v : Int32} (hf : fX12_isParty a1 σ = some v) : fx_Mi l yX12_isParty cX12_isParty 2 (some .boolean) (0) LM (fun ad ec => [.ref (ad 0), .int a1]) σ v σ := by
  unfold fX12_isParty at hf
  refine fx_mi' (own := RX12) rfl (by decide +kernel) ?_
  intro p e s m args below meth c D cy ad ec A hC hr hk hP hS
  have hx := hC.1
  have hb := hC.2.1
  have hl := lv_entry ([.ref (ad 0), .int a1]) (n := 2) (Nat.le_of_ble_eq_true rfl)
  show W _ _ _ _ _ _ _ _ _ _ _ _ _ _ _ (entryFrame m ([.ref (ad 0), .int a1] : List Value).toArray 2)
  rw [lg_entry_eq]
  generalize (lg_sl ([.ref (ad 0), .int a1]) ++ List.replicate (2 - (lg_sl ([.ref (ad 0), .int a1])).length) Slot.unset).toArray = ls at hl ⊢
  have hl : lv_has ls 2 [(0, .ref (ad 0)), (1, .int a1)] := hl
  have main : ∀ (H : Heap) (locs : List Loc) (ls : Array Slot), fx_P D cy LM ad σ H → va_S A s.heap H locs → lv_has ls 2 [(0, .ref (ad 0)), (1, .int a1)] → W p l e (fx_R (0)) s m args below meth c H locs 0 0 (fx_Qi D cy LM ad A below args s v σ) (F0 m 0 ls []) := by
    intro H locs ls hP hS hl
    refine lv_iload_n hx hb dX12_isParty_0 rfl (lv_at hl 1 rfl) ?_
    refine lv_if_lt (tgt := 18) hx hb dX12_isParty_1 (by decide) (fun c1 => ?_) (fun c1 => ?_)
    · replace hf := fx_it c1 hf
      refine lv_iconst hx hb dX12_isParty_18 ki_0 ?_
      exact fx_zretp rfl hf hC hr hk hP hS dX12_isParty_19
    · replace hf := fx_ie c1 hf
      refine lv_iload_n hx hb dX12_isParty_4 rfl (lv_at hl 1 rfl) ?_
      refine lv_aload_n hx hb dX12_isParty_5 rfl (lv_at hl 0 rfl) ?_
      refine gf_X12_13 (v := .ref (ad 2)) hC hP kM_0 rfl dX12_isParty_6 ?_
      refine lv_iconst hx hb dX12_isParty_9 ki_1 ?_
      obtain ⟨h2, hf⟩ := fxG_e hf
      refine fx_iald hC hP kM_2 (fx_inp h2) dX12_isParty_10 ?_
      refine lv_icmp_ge (tgt := 18) hx hb dX12_isParty_11 (by decide) (fun c3 => ?_) (fun c3 => ?_)
      · replace hf := fx_it c3 hf
        refine lv_iconst hx hb dX12_isParty_18 ki_0 ?_
        exact fx_zretp rfl hf hC hr hk hP hS dX12_isParty_19
      · replace hf := fx_ie c3 hf
        refine lv_iconst hx hb dX12_isParty_14 ki_1 ?_
        refine lv_goto (tgt := 19) hx hb dX12_isParty_15 (by decide) ?_
        exact fx_zretp rfl hf hC hr hk hP hS dX12_isParty_19
  exact main _ _ _ hP hS hl

set_option maxHeartbeats 4000000 in
set_option maxRecDepth 100000 in
theorem ctX12_halfOf (l : Launch) {a1 : Int32} {σ : FH} {v : Int32} (hf : fX12_halfOf a1 σ = some v) : fx_Mi l yX12_halfOf cX12_halfOf 2 (some .int) (0) LM (fun ad ec => [.ref (ad 0), .int a1]) σ v σ := by
  unfold fX12_halfOf at hf
  refine fx_mi' (own := RX12) rfl (by decide +kernel) ?_
  intro p e s m args below meth c D cy ad ec A hC hr hk hP hS
  have hx := hC.1
  have hb := hC.2.1
  have hl := lv_entry ([.ref (ad 0), .int a1]) (n := 2) (Nat.le_of_ble_eq_true rfl)
  show W _ _ _ _ _ _ _ _ _ _ _ _ _ _ _ (entryFrame m ([.ref (ad 0), .int a1] : List Value).toArray 2)
  rw [lg_entry_eq]
  generalize (lg_sl ([.ref (ad 0), .int a1]) ++ List.replicate (2 - (lg_sl ([.ref (ad 0), .int a1])).length) Slot.unset).toArray = ls at hl ⊢
  have hl : lv_has ls 2 [(0, .ref (ad 0)), (1, .int a1)] := hl
  have main : ∀ (H : Heap) (locs : List Loc) (ls : Array Slot), fx_P D cy LM ad σ H → va_S A s.heap H locs → lv_has ls 2 [(0, .ref (ad 0)), (1, .int a1)] → W p l e (fx_R (0)) s m args below meth c H locs 0 0 (fx_Qi D cy LM ad A below args s v σ) (F0 m 0 ls []) := by
    intro H locs ls hP hS hl
    refine lv_aload_n hx hb dX12_halfOf_0 rfl (lv_at hl 0 rfl) ?_
    refine gf_X12_26 (v := .ref (ad 6)) hC hP kM_0 rfl dX12_halfOf_1 ?_
    refine lv_iload_n hx hb dX12_halfOf_4 rfl (lv_at hl 1 rfl) ?_
    obtain ⟨h1, hf⟩ := fxG_e hf
    refine fx_iald hC hP kM_6 (fx_inp h1) dX12_halfOf_5 ?_
    refine lv_iconst hx hb dX12_halfOf_6 ki_2 ?_
    refine lv_idiv hx hb dX12_halfOf_7 (by decide) ?_
    exact fx_iretp hf hC hr hk hP hS dX12_halfOf_8
  exact main _ _ _ hP hS hl

set_option maxHeartbeats 4000000 in
set_option maxRecDepth 100000 in
theorem ctX12_isHalf (l : Launch) {a1 : Int32} {σ : FH} {v : Int32} (hf : fX12_isHalf a1 σ = some v) : fx_Mi l yX12_isHalf cX12_isHalf 2 (some .boolean) (1) LM (fun ad ec => [.ref (ad 0), .int a1]) σ v σ := by
  unfold fX12_isHalf at hf
  refine fx_mi' (own := RX12) rfl (by decide +kernel) ?_
  intro p e s m args below meth c D cy ad ec A hC hr hk hP hS
  have hx := hC.1
  have hb := hC.2.1
  have hl := lv_entry ([.ref (ad 0), .int a1]) (n := 2) (Nat.le_of_ble_eq_true rfl)
  show W _ _ _ _ _ _ _ _ _ _ _ _ _ _ _ (entryFrame m ([.ref (ad 0), .int a1] : List Value).toArray 2)
  rw [lg_entry_eq]
  generalize (lg_sl ([.ref (ad 0), .int a1]) ++ List.replicate (2 - (lg_sl ([.ref (ad 0), .int a1])).length) Slot.unset).toArray = ls at hl ⊢
  have hl : lv_has ls 2 [(0, .ref (ad 0)), (1, .int a1)] := hl
  have main : ∀ (H : Heap) (locs : List Loc) (ls : Array Slot), fx_P D cy LM ad σ H → va_S A s.heap H locs → lv_has ls 2 [(0, .ref (ad 0)), (1, .int a1)] → W p l e (fx_R (1)) s m args below meth c H locs 0 0 (fx_Qi D cy LM ad A below args s v σ) (F0 m 0 ls []) := by
    intro H locs ls hP hS hl
    refine lv_aload_n hx hb dX12_isHalf_0 rfl (lv_at hl 0 rfl) ?_
    refine gf_X12_108 (v := .ref (ad 33)) hC hP kM_0 rfl dX12_isHalf_1 ?_
    refine lv_iconst hx hb dX12_isHalf_4 ki_3 ?_
    refine lv_iload_n hx hb dX12_isHalf_5 rfl (lv_at hl 1 rfl) ?_
    refine lv_iadd hx hb dX12_isHalf_6 ?_
    obtain ⟨h1, hf⟩ := fxG_e hf
    refine fx_iald hC hP kM_33 (fx_inp h1) dX12_isHalf_7 ?_
    refine lv_aload_n hx hb dX12_isHalf_8 rfl (lv_at hl 0 rfl) ?_
    refine lv_iload_n hx hb dX12_isHalf_9 rfl (lv_at hl 1 rfl) ?_
    obtain ⟨r3, hc2, hf⟩ := fxBP_e hf
    refine fx_ci hC hS (fx_runV (i := 0) (As := [.int a1]) (rest := [.int (σ.1 33 (Int32.toNatClampNeg (3 + a1)))]) hC hP hS (ctX12_halfOf l hc2 D cy ad ec _) kM_0 (by decide) rfl kMV_X12_351 kC_X12_halfOf hd_X12_halfOf rfl ⟨(Nat.le_of_ble_eq_true rfl), (Nat.le_of_ble_eq_true rfl)⟩ ⟨Nat.le_refl 0, Nat.le_refl 0⟩ hl.1 (Nat.le_of_ble_eq_true rfl) rfl dX12_isHalf_10) (fun H locs hP hS => ?_)
    obtain ⟨v5, ev5, hf⟩ := fxL_e hf
    have j_v5 : ∀ (z6 : Int32), z6 = ((if (σ.1 33 (Int32.toNatClampNeg (3 + a1))) = r3 then 1 else 0) : Int32) → ∀ (ls : Array Slot), lv_has ls 2 [] → W p l e (fx_R (1)) s m args below meth c H locs 0 0 (fx_Qi D cy LM ad A below args s v σ) (F0 m 21 ls [.int z6]) := by
      intro z6 hz6 ls hl
      obtain rfl : v5 = z6 := ev5.trans hz6.symm
      obtain ⟨h8, hf⟩ := fxG_e hf
      exact fx_zretp (fx_bon h8) hf hC hr hk hP hS dX12_isHalf_21
    refine lv_icmp_ne (tgt := 20) hx hb dX12_isHalf_13 (by decide) (fun c7 => ?_) (fun c7 => ?_)
    · refine lv_iconst hx hb dX12_isHalf_20 ki_0 ?_
      exact j_v5 0 (if_neg c7).symm ls (lv_sub hl [] rfl)
    · refine lv_iconst hx hb dX12_isHalf_16 ki_1 ?_
      refine lv_goto (tgt := 21) hx hb dX12_isHalf_17 (by decide) ?_
      exact j_v5 1 (if_pos c7).symm ls (lv_sub hl [] rfl)
  exact main _ _ _ hP hS hl

set_option maxHeartbeats 4000000 in
set_option maxRecDepth 100000 in
theorem ctX12_blocOf (l : Launch) {a1 : Int32} {σ : FH} {v : Int32} (hf : fX12_blocOf a1 σ = some v) : fx_Mi l yX12_blocOf cX12_blocOf 4 (some .int) (0) LM (fun ad ec => [.ref (ad 0), .int a1]) σ v σ := by
  unfold fX12_blocOf at hf
  refine fx_mi' (own := RX12) rfl (by decide +kernel) ?_
  intro p e s m args below meth c D cy ad ec A hC hr hk hP hS
  have hx := hC.1
  have hb := hC.2.1
  have hl := lv_entry ([.ref (ad 0), .int a1]) (n := 4) (Nat.le_of_ble_eq_true rfl)
  show W _ _ _ _ _ _ _ _ _ _ _ _ _ _ _ (entryFrame m ([.ref (ad 0), .int a1] : List Value).toArray 4)
  rw [lg_entry_eq]
  generalize (lg_sl ([.ref (ad 0), .int a1]) ++ List.replicate (4 - (lg_sl ([.ref (ad 0), .int a1])).length) Slot.unset).toArray = ls at hl ⊢
  have hl : lv_has ls 4 [(0, .ref (ad 0)), (1, .int a1)] := hl
  have main : ∀ (H : Heap) (locs : List Loc) (ls : Array Slot), fx_P D cy LM ad σ H → va_S A s.heap H locs → lv_has ls 4 [(0, .ref (ad 0)), (1, .int a1)] → W p l e (fx_R (0)) s m args below meth c H locs 0 0 (fx_Qi D cy LM ad A below args s v σ) (F0 m 0 ls []) := by
    intro H locs ls hP hS hl
    refine lv_iconst hx hb dX12_blocOf_0 ki_0 ?_
    refine lv_istore_n (lv' := [(2, .int 0), (0, .ref (ad 0)), (1, .int a1)]) hx hb dX12_blocOf_1 rfl hl (by decide) rfl (fun ls hl => ?_)
    refine lv_iconst hx hb dX12_blocOf_2 ki_0 ?_
    refine lv_istore_n (lv' := [(3, .int 0), (2, .int 0), (0, .ref (ad 0)), (1, .int a1)]) hx hb dX12_blocOf_3 rfl hl (by decide) rfl (fun ls hl => ?_)
    obtain ⟨K1, hK1, hf⟩ := fxL_e hf
    have k_K1 : ∀ (x2 : Int32) (H : Heap) (locs : List Loc) (ls : Array Slot), fx_P D cy LM ad σ H → va_S A s.heap H locs → lv_has ls 4 [(2, .int x2)] → K1 x2 = some v → W p l e (fx_R (0)) s m args below meth c H locs 0 0 (fx_Qi D cy LM ad A below args s v σ) (F0 m 35 ls []) := by
      intro x2 H locs ls hP hS hl hf
      replace hf := fxk1 hK1 hf
      refine lv_iload_n hx hb dX12_blocOf_35 rfl (lv_at hl 0 rfl) ?_
      exact fx_iretp hf hC hr hk hP hS dX12_blocOf_36
    have L11 : ∀ (n6 : Nat) (w3 : Int32) (w4 : Int32) (H : Heap) (locs : List Loc) (ls : Array Slot), fx_P D cy LM ad σ H → va_S A s.heap H locs → lv_has ls 4 [(0, .ref (ad 0)), (1, .int a1), (2, .int w3), (3, .int w4)] → fX12_blocOf_4 a1 σ K1 n6 w3 w4 = some v → W p l e (fx_R (0)) s m args below meth c H locs 0 0 (fx_Qi D cy LM ad A below args s v σ) (F0 m 4 ls []) := by
      intro n6
      induction n6 with
      | zero =>
        intro w3 w4 H locs ls hP hS hl hf
        rw [fX12_blocOf_4] at hf
        cases hf
      | succ n6 ih5 =>
        intro w3 w4 H locs ls hP hS hl hf
        rw [fX12_blocOf_4] at hf
        refine lv_iload_n hx hb dX12_blocOf_4 rfl (lv_at hl 3 rfl) ?_
        refine lv_aload_n hx hb dX12_blocOf_5 rfl (lv_at hl 0 rfl) ?_
        refine gf_X12_13 (v := .ref (ad 2)) hC hP kM_0 rfl dX12_blocOf_6 ?_
        refine lv_iconst hx hb dX12_blocOf_9 ki_1 ?_
        obtain ⟨h7, hf⟩ := fxG_e hf
        refine fx_iald hC hP kM_2 (fx_inp h7) dX12_blocOf_10 ?_
        refine lv_icmp_ge (tgt := 35) hx hb dX12_blocOf_11 (by decide) (fun c8 => ?_) (fun c8 => ?_)
        · replace hf := fx_it c8 hf
          exact k_K1 w3 _ _ _ hP hS (lv_sub hl [2] rfl) hf
        · replace hf := fx_ie c8 hf
          refine lv_iload_n hx hb dX12_blocOf_14 rfl (lv_at hl 2 rfl) ?_
          refine lv_aload_n hx hb dX12_blocOf_15 rfl (lv_at hl 0 rfl) ?_
          refine gf_X12_35 (v := .ref (ad 9)) hC hP kM_0 rfl dX12_blocOf_16 ?_
          refine lv_iload_n hx hb dX12_blocOf_19 rfl (lv_at hl 3 rfl) ?_
          obtain ⟨h9, hf⟩ := fxG_e hf
          refine fx_iald hC hP kM_9 (fx_inp h9) dX12_blocOf_20 ?_
          refine lv_iload_n hx hb dX12_blocOf_21 rfl (lv_at hl 1 rfl) ?_
          refine lv_ishr hx hb dX12_blocOf_22 ?_
          refine lv_iconst hx hb dX12_blocOf_23 ki_1 ?_
          refine lv_iand hx hb dX12_blocOf_24 ?_
          refine lv_iload_n hx hb dX12_blocOf_25 rfl (lv_at hl 3 rfl) ?_
          refine lv_ishl hx hb dX12_blocOf_26 ?_
          refine lv_ior hx hb dX12_blocOf_27 ?_
          obtain ⟨v10, ev10, hf⟩ := fxL_e hf
          refine fx_ti ev10 ?_
          refine lv_istore_n (lv' := [(2, .int v10), (0, .ref (ad 0)), (1, .int a1), (3, .int w4)]) hx hb dX12_blocOf_28 rfl hl (by decide) rfl (fun ls hl => ?_)
          refine lv_iinc (v := (w4 + 1)) (lv' := [(3, .int (w4 + 1)), (2, .int v10), (0, .ref (ad 0)), (1, .int a1)]) hx hb dX12_blocOf_29 hl (k := 3) rfl (congrArg (fun z => w4 + z) ki_1) (by decide) rfl (fun ls hl => ?_)
          refine lv_goto (tgt := 4) hx hb dX12_blocOf_32 (by decide) ?_
          exact ih5 v10 (w4 + 1) _ _ _ hP hS (lv_sub hl [2, 3, 1, 0] rfl) hf
    exact L11 FU 0 0 _ _ _ hP hS (lv_sub hl [2, 3, 1, 0] rfl) hf
  exact main _ _ _ hP hS hl

set_option maxHeartbeats 4000000 in
set_option maxRecDepth 100000 in
theorem ctX12_seatsOf (l : Launch) {a1 : Int32} {σ : FH} {v : Int32} (hf : fX12_seatsOf a1 σ = some v) : fx_Mi l yX12_seatsOf cX12_seatsOf 4 (some .int) (0) LM (fun ad ec => [.ref (ad 0), .int a1]) σ v σ := by
  unfold fX12_seatsOf at hf
  refine fx_mi' (own := RX12) rfl (by decide +kernel) ?_
  intro p e s m args below meth c D cy ad ec A hC hr hk hP hS
  have hx := hC.1
  have hb := hC.2.1
  have hl := lv_entry ([.ref (ad 0), .int a1]) (n := 4) (Nat.le_of_ble_eq_true rfl)
  show W _ _ _ _ _ _ _ _ _ _ _ _ _ _ _ (entryFrame m ([.ref (ad 0), .int a1] : List Value).toArray 4)
  rw [lg_entry_eq]
  generalize (lg_sl ([.ref (ad 0), .int a1]) ++ List.replicate (4 - (lg_sl ([.ref (ad 0), .int a1])).length) Slot.unset).toArray = ls at hl ⊢
  have hl : lv_has ls 4 [(0, .ref (ad 0)), (1, .int a1)] := hl
  have main : ∀ (H : Heap) (locs : List Loc) (ls : Array Slot), fx_P D cy LM ad σ H → va_S A s.heap H locs → lv_has ls 4 [(0, .ref (ad 0)), (1, .int a1)] → W p l e (fx_R (0)) s m args below meth c H locs 0 0 (fx_Qi D cy LM ad A below args s v σ) (F0 m 0 ls []) := by
    intro H locs ls hP hS hl
    refine lv_iconst hx hb dX12_seatsOf_0 ki_0 ?_
    refine lv_istore_n (lv' := [(2, .int 0), (0, .ref (ad 0)), (1, .int a1)]) hx hb dX12_seatsOf_1 rfl hl (by decide) rfl (fun ls hl => ?_)
    refine lv_iconst hx hb dX12_seatsOf_2 ki_0 ?_
    refine lv_istore_n (lv' := [(3, .int 0), (2, .int 0), (0, .ref (ad 0)), (1, .int a1)]) hx hb dX12_seatsOf_3 rfl hl (by decide) rfl (fun ls hl => ?_)
    obtain ⟨K1, hK1, hf⟩ := fxL_e hf
    have k_K1 : ∀ (x2 : Int32) (H : Heap) (locs : List Loc) (ls : Array Slot), fx_P D cy LM ad σ H → va_S A s.heap H locs → lv_has ls 4 [(2, .int x2)] → K1 x2 = some v → W p l e (fx_R (0)) s m args below meth c H locs 0 0 (fx_Qi D cy LM ad A below args s v σ) (F0 m 45 ls []) := by
      intro x2 H locs ls hP hS hl hf
      replace hf := fxk1 hK1 hf
      refine lv_iload_n hx hb dX12_seatsOf_45 rfl (lv_at hl 0 rfl) ?_
      exact fx_iretp hf hC hr hk hP hS dX12_seatsOf_46
    have L13 : ∀ (n6 : Nat) (w3 : Int32) (w4 : Int32) (H : Heap) (locs : List Loc) (ls : Array Slot), fx_P D cy LM ad σ H → va_S A s.heap H locs → lv_has ls 4 [(0, .ref (ad 0)), (1, .int a1), (2, .int w3), (3, .int w4)] → fX12_seatsOf_4 a1 σ K1 n6 w3 w4 = some v → W p l e (fx_R (0)) s m args below meth c H locs 0 0 (fx_Qi D cy LM ad A below args s v σ) (F0 m 4 ls []) := by
      intro n6
      induction n6 with
      | zero =>
        intro w3 w4 H locs ls hP hS hl hf
        rw [fX12_seatsOf_4] at hf
        cases hf
      | succ n6 ih5 =>
        intro w3 w4 H locs ls hP hS hl hf
        rw [fX12_seatsOf_4] at hf
        refine lv_iload_n hx hb dX12_seatsOf_4 rfl (lv_at hl 3 rfl) ?_
        refine lv_aload_n hx hb dX12_seatsOf_5 rfl (lv_at hl 0 rfl) ?_
        refine gf_X12_13 (v := .ref (ad 2)) hC hP kM_0 rfl dX12_seatsOf_6 ?_
        refine lv_iconst hx hb dX12_seatsOf_9 ki_1 ?_
        obtain ⟨h7, hf⟩ := fxG_e hf
        refine fx_iald hC hP kM_2 (fx_inp h7) dX12_seatsOf_10 ?_
        refine lv_icmp_ge (tgt := 45) hx hb dX12_seatsOf_11 (by decide) (fun c8 => ?_) (fun c8 => ?_)
        · replace hf := fx_it c8 hf
          exact k_K1 w3 _ _ _ hP hS (lv_sub hl [2] rfl) hf
        · replace hf := fx_ie c8 hf
          refine lv_iload_n hx hb dX12_seatsOf_14 rfl (lv_at hl 2 rfl) ?_
          refine lv_iload_n hx hb dX12_seatsOf_15 rfl (lv_at hl 1 rfl) ?_
          refine lv_iload_n hx hb dX12_seatsOf_16 rfl (lv_at hl 3 rfl) ?_
          refine lv_ishr hx hb dX12_seatsOf_17 ?_
          refine lv_iconst hx hb dX12_seatsOf_18 ki_1 ?_
          refine lv_iand hx hb dX12_seatsOf_19 ?_
          refine lv_iconst hx hb dX12_seatsOf_20 ki_1 ?_
          refine lv_icmp_ne (tgt := 36) hx hb dX12_seatsOf_21 (by decide) (fun c9 => ?_) (fun c9 => ?_)
          · replace hf := fx_ie c9 hf
            refine lv_iconst hx hb dX12_seatsOf_36 ki_0 ?_
            refine lv_iadd hx hb dX12_seatsOf_37 ?_
            obtain ⟨v10, ev10, hf⟩ := fxL_e hf
            refine fx_ti ev10 ?_
            refine lv_istore_n (lv' := [(2, .int v10), (0, .ref (ad 0)), (1, .int a1), (3, .int w4)]) hx hb dX12_seatsOf_38 rfl hl (by decide) rfl (fun ls hl => ?_)
            refine lv_iinc (v := (w4 + 1)) (lv' := [(3, .int (w4 + 1)), (2, .int v10), (0, .ref (ad 0)), (1, .int a1)]) hx hb dX12_seatsOf_39 hl (k := 3) rfl (congrArg (fun z => w4 + z) ki_1) (by decide) rfl (fun ls hl => ?_)
            refine lv_goto (tgt := 4) hx hb dX12_seatsOf_42 (by decide) ?_
            exact ih5 v10 (w4 + 1) _ _ _ hP hS (lv_sub hl [2, 3, 1, 0] rfl) hf
          · replace hf := fx_it c9 hf
            refine lv_aload_n hx hb dX12_seatsOf_24 rfl (lv_at hl 0 rfl) ?_
            refine gf_X12_108 (v := .ref (ad 33)) hC hP kM_0 rfl dX12_seatsOf_25 ?_
            refine lv_bipush hx hb dX12_seatsOf_28 kb_9 ?_
            refine lv_iload_n hx hb dX12_seatsOf_30 rfl (lv_at hl 3 rfl) ?_
            refine lv_iadd hx hb dX12_seatsOf_31 ?_
            obtain ⟨h11, hf⟩ := fxG_e hf
            refine fx_iald hC hP kM_33 (fx_inp h11) dX12_seatsOf_32 ?_
            refine lv_goto (tgt := 37) hx hb dX12_seatsOf_33 (by decide) ?_
            refine lv_iadd hx hb dX12_seatsOf_37 ?_
            obtain ⟨v12, ev12, hf⟩ := fxL_e hf
            refine fx_ti ev12 ?_
            refine lv_istore_n (lv' := [(2, .int v12), (0, .ref (ad 0)), (1, .int a1), (3, .int w4)]) hx hb dX12_seatsOf_38 rfl hl (by decide) rfl (fun ls hl => ?_)
            refine lv_iinc (v := (w4 + 1)) (lv' := [(3, .int (w4 + 1)), (2, .int v12), (0, .ref (ad 0)), (1, .int a1)]) hx hb dX12_seatsOf_39 hl (k := 3) rfl (congrArg (fun z => w4 + z) ki_1) (by decide) rfl (fun ls hl => ?_)
            refine lv_goto (tgt := 4) hx hb dX12_seatsOf_42 (by decide) ?_
            exact ih5 v12 (w4 + 1) _ _ _ hP hS (lv_sub hl [2, 3, 1, 0] rfl) hf
    exact L13 FU 0 0 _ _ _ hP hS (lv_sub hl [2, 3, 1, 0] rfl) hf
  exact main _ _ _ hP hS hl

set_option maxHeartbeats 4000000 in
set_option maxRecDepth 100000 in
theorem ctX12_allSeats (l : Launch) {σ : FH} {v : Int32} (hf : fX12_allSeats σ = some v) : fx_Mi l yX12_allSeats cX12_allSeats 1 (some .int) (1) LM (fun ad ec => [.ref (ad 0)]) σ v σ := by
  unfold fX12_allSeats at hf
  refine fx_mi' (own := RX12) rfl (by decide +kernel) ?_
  intro p e s m args below meth c D cy ad ec A hC hr hk hP hS
  have hx := hC.1
  have hb := hC.2.1
  have hl := lv_entry ([.ref (ad 0)]) (n := 1) (Nat.le_of_ble_eq_true rfl)
  show W _ _ _ _ _ _ _ _ _ _ _ _ _ _ _ (entryFrame m ([.ref (ad 0)] : List Value).toArray 1)
  rw [lg_entry_eq]
  generalize (lg_sl ([.ref (ad 0)]) ++ List.replicate (1 - (lg_sl ([.ref (ad 0)])).length) Slot.unset).toArray = ls at hl ⊢
  have hl : lv_has ls 1 [(0, .ref (ad 0))] := hl
  have main : ∀ (H : Heap) (locs : List Loc) (ls : Array Slot), fx_P D cy LM ad σ H → va_S A s.heap H locs → lv_has ls 1 [(0, .ref (ad 0))] → W p l e (fx_R (1)) s m args below meth c H locs 0 0 (fx_Qi D cy LM ad A below args s v σ) (F0 m 0 ls []) := by
    intro H locs ls hP hS hl
    refine lv_aload_n hx hb dX12_allSeats_0 rfl (lv_at hl 0 rfl) ?_
    refine lv_bipush hx hb dX12_allSeats_1 kb_31 ?_
    obtain ⟨r2, hc1, hf⟩ := fxBP_e hf
    refine fx_ci hC hS (fx_runV (i := 0) (As := [.int 31]) (rest := []) hC hP hS (ctX12_seatsOf l hc1 D cy ad ec _) kM_0 (by decide) rfl kMV_X12_354 kC_X12_seatsOf hd_X12_seatsOf rfl ⟨(Nat.le_of_ble_eq_true rfl), (Nat.le_of_ble_eq_true rfl)⟩ ⟨Nat.le_refl 0, Nat.le_refl 0⟩ hl.1 (Nat.le_of_ble_eq_true rfl) rfl dX12_allSeats_3) (fun H locs hP hS => ?_)
    exact fx_iretp hf hC hr hk hP hS dX12_allSeats_6
  exact main _ _ _ hP hS hl

set_option maxHeartbeats 4000000 in
set_option maxRecDepth 100000 in
theorem ctX12_votesOf (l : Launch) {a1 : Int32} {σ : FH} {v : Int32} (hf : fX12_votesOf a1 σ = some v) : fx_Mi l yX12_votesOf cX12_votesOf 2 (some .int) (1) LM (fun ad ec => [.ref (ad 0), .int a1]) σ v σ := by
  unfold fX12_votesOf at hf
  refine fx_mi' (own := RX12) rfl (by decide +kernel) ?_
  intro p e s m args below meth c D cy ad ec A hC hr hk hP hS
  have hx := hC.1
  have hb := hC.2.1
  have hl := lv_entry ([.ref (ad 0), .int a1]) (n := 2) (Nat.le_of_ble_eq_true rfl)
  show W _ _ _ _ _ _ _ _ _ _ _ _ _ _ _ (entryFrame m ([.ref (ad 0), .int a1] : List Value).toArray 2)
  rw [lg_entry_eq]
  generalize (lg_sl ([.ref (ad 0), .int a1]) ++ List.replicate (2 - (lg_sl ([.ref (ad 0), .int a1])).length) Slot.unset).toArray = ls at hl ⊢
  have hl : lv_has ls 2 [(0, .ref (ad 0)), (1, .int a1)] := hl
  have main : ∀ (H : Heap) (locs : List Loc) (ls : Array Slot), fx_P D cy LM ad σ H → va_S A s.heap H locs → lv_has ls 2 [(0, .ref (ad 0)), (1, .int a1)] → W p l e (fx_R (1)) s m args below meth c H locs 0 0 (fx_Qi D cy LM ad A below args s v σ) (F0 m 0 ls []) := by
    intro H locs ls hP hS hl
    refine lv_aload_n hx hb dX12_votesOf_0 rfl (lv_at hl 0 rfl) ?_
    refine lv_aload_n hx hb dX12_votesOf_1 rfl (lv_at hl 0 rfl) ?_
    refine lv_iload_n hx hb dX12_votesOf_2 rfl (lv_at hl 1 rfl) ?_
    obtain ⟨r2, hc1, hf⟩ := fxBP_e hf
    refine fx_ci hC hS (fx_runV (i := 0) (As := [.int a1]) (rest := [.ref (ad 0)]) hC hP hS (ctX12_blocOf l hc1 D cy ad ec _) kM_0 (by decide) rfl kMV_X12_357 kC_X12_blocOf hd_X12_blocOf rfl ⟨(Nat.le_of_ble_eq_true rfl), (Nat.le_of_ble_eq_true rfl)⟩ ⟨Nat.le_refl 0, Nat.le_refl 0⟩ hl.1 (Nat.le_of_ble_eq_true rfl) rfl dX12_votesOf_3) (fun H locs hP hS => ?_)
    obtain ⟨r5, hc4, hf⟩ := fxBP_e hf
    refine fx_ci hC hS (fx_runV (i := 0) (As := [.int r2]) (rest := []) hC hP hS (ctX12_seatsOf l hc4 D cy ad ec _) kM_0 (by decide) rfl kMV_X12_354 kC_X12_seatsOf hd_X12_seatsOf rfl ⟨(Nat.le_of_ble_eq_true rfl), (Nat.le_of_ble_eq_true rfl)⟩ ⟨Nat.le_refl 0, Nat.le_refl 0⟩ hl.1 (Nat.le_of_ble_eq_true rfl) rfl dX12_votesOf_6) (fun H locs hP hS => ?_)
    exact fx_iretp hf hC hr hk hP hS dX12_votesOf_9
  exact main _ _ _ hP hS hl

set_option maxHeartbeats 4000000 in
set_option maxRecDepth 100000 in
theorem ctX12_works (l : Launch) {a1 : Int32} {a2 : Int32} {σ σ' : FH} {v : Int32} (hf : fX12_works a1 a2 σ = some (v, σ')) : fx_Mi l yX12_works cX12_works 4 (some .int) (1) LM (fun ad ec => [.ref (ad 0), .int a1, .int a2]) σ v σ' := by
  unfold fX12_works at hf
  refine fx_mi' (own := RX12) rfl (by decide +kernel) ?_
  intro p e s m args below meth c D cy ad ec A hC hr hk hP hS
  have hx := hC.1
  have hb := hC.2.1
  have hl := lv_entry ([.ref (ad 0), .int a1, .int a2]) (n := 4) (Nat.le_of_ble_eq_true rfl)
  show W _ _ _ _ _ _ _ _ _ _ _ _ _ _ _ (entryFrame m ([.ref (ad 0), .int a1, .int a2] : List Value).toArray 4)
  rw [lg_entry_eq]
  generalize (lg_sl ([.ref (ad 0), .int a1, .int a2]) ++ List.replicate (4 - (lg_sl ([.ref (ad 0), .int a1, .int a2])).length) Slot.unset).toArray = ls at hl ⊢
  have hl : lv_has ls 4 [(0, .ref (ad 0)), (1, .int a1), (2, .int a2)] := hl
  have main : ∀ (H : Heap) (locs : List Loc) (ls : Array Slot), fx_P D cy LM ad σ H → va_S A s.heap H locs → lv_has ls 4 [(0, .ref (ad 0)), (1, .int a1), (2, .int a2)] → W p l e (fx_R (1)) s m args below meth c H locs 0 0 (fx_Qi D cy LM ad A below args s v σ') (F0 m 0 ls []) := by
    intro H locs ls hP hS hl
    refine lv_iconst hx hb dX12_works_0 ki_0 ?_
    refine lv_aload_n hx hb dX12_works_1 rfl (lv_at hl 0 rfl) ?_
    refine gf_X12_108 (v := .ref (ad 33)) hC hP kM_0 rfl dX12_works_2 ?_
    refine lv_iconst hx hb dX12_works_5 ki_3 ?_
    refine lv_iload_n hx hb dX12_works_6 rfl (lv_at hl 1 rfl) ?_
    refine lv_iadd hx hb dX12_works_7 ?_
    obtain ⟨h1, hf⟩ := fxG_e hf
    refine fx_iald hC hP kM_33 (fx_inp h1) dX12_works_8 ?_
    refine lv_iload_n hx hb dX12_works_9 rfl (lv_at hl 2 rfl) ?_
    refine lv_iadd hx hb dX12_works_10 ?_
    refine lv_aload_n hx hb dX12_works_11 rfl (lv_at hl 0 rfl) ?_
    refine lv_iload_n hx hb dX12_works_12 rfl (lv_at hl 1 rfl) ?_
    obtain ⟨r3, hc2, hf⟩ := fxBP_e hf
    refine fx_ci hC hS (fx_runV (i := 0) (As := [.int a1]) (rest := [.int ((σ.1 33 (Int32.toNatClampNeg (3 + a1))) + a2), .int 0]) hC hP hS (ctX12_halfOf l hc2 D cy ad ec _) kM_0 (by decide) rfl kMV_X12_351 kC_X12_halfOf hd_X12_halfOf rfl ⟨(Nat.le_of_ble_eq_true rfl), (Nat.le_of_ble_eq_true rfl)⟩ ⟨Nat.le_refl 0, Nat.le_refl 0⟩ hl.1 (Nat.le_of_ble_eq_true rfl) rfl dX12_works_13) (fun H locs hP hS => ?_)
    refine lv_isub hx hb dX12_works_16 ?_
    refine fx_max hC hl.1 kL_X12_360 kMt_max kMi kMc_max (Nat.le_of_ble_eq_true rfl) (Nat.le_of_ble_eq_true rfl) ⟨Nat.le_refl 0, Nat.le_refl 0⟩ dX12_works_17 ?_
    obtain ⟨v5, ev5, hf⟩ := fxL_e hf
    refine fx_ti ev5 ?_
    refine lv_istore_n (lv' := [(3, .int v5), (0, .ref (ad 0)), (1, .int a1), (2, .int a2)]) hx hb dX12_works_20 rfl hl (by decide) rfl (fun ls hl => ?_)
    refine lv_aload_n hx hb dX12_works_21 rfl (lv_at hl 1 rfl) ?_
    refine gf_X12_108 (v := .ref (ad 33)) hC hP kM_0 rfl dX12_works_22 ?_
    refine lv_iconst hx hb dX12_works_25 ki_3 ?_
    refine lv_iload_n hx hb dX12_works_26 rfl (lv_at hl 2 rfl) ?_
    refine lv_iadd hx hb dX12_works_27 ?_
    refine lv_dup2_11 hx hb dX12_works_28 rfl rfl ?_
    obtain ⟨h6, hf⟩ := fxG_e hf
    refine fx_iald hC hP kM_33 (fx_inp h6) dX12_works_29 ?_
    refine lv_iload_n hx hb dX12_works_30 rfl (lv_at hl 3 rfl) ?_
    refine lv_iload_n hx hb dX12_works_31 rfl (lv_at hl 0 rfl) ?_
    refine lv_isub hx hb dX12_works_32 ?_
    refine lv_iadd hx hb dX12_works_33 ?_
    obtain ⟨h7, hf⟩ := fxG_e hf
    obtain ⟨σ8, eσ8, hf⟩ := fxL_e hf
    refine fx_iast hC hP hS kM_33 (fx_inp h7) dX12_works_34 (fun H locs hP hS => ?_)
    replace hP := fx_Pe eσ8 hP
    refine lv_aload_n hx hb dX12_works_35 rfl (lv_at hl 1 rfl) ?_
    refine gf_X12_108 (v := .ref (ad 33)) hC hP kM_0 rfl dX12_works_36 ?_
    refine lv_iconst hx hb dX12_works_39 ki_1 ?_
    refine lv_dup2_11 hx hb dX12_works_40 rfl rfl ?_
    obtain ⟨h9, hf⟩ := fxG_e hf
    refine fx_iald hC hP kM_33 (fx_inp h9) dX12_works_41 ?_
    refine lv_iload_n hx hb dX12_works_42 rfl (lv_at hl 0 rfl) ?_
    refine lv_aload_n hx hb dX12_works_43 rfl (lv_at hl 1 rfl) ?_
    refine gf_X12_13 (v := .ref (ad 2)) hC hP kM_0 rfl dX12_works_44 ?_
    refine lv_iconst hx hb dX12_works_47 ki_2 ?_
    obtain ⟨h10, hf⟩ := fxG_e hf
    refine fx_iald hC hP kM_2 (fx_inp h10) dX12_works_48 ?_
    refine lv_imul hx hb dX12_works_49 ?_
    refine lv_iadd hx hb dX12_works_50 ?_
    obtain ⟨h11, hf⟩ := fxG_e hf
    obtain ⟨σ12, eσ12, hf⟩ := fxL_e hf
    refine fx_iast hC hP hS kM_33 (fx_inp h11) dX12_works_51 (fun H locs hP hS => ?_)
    replace hP := fx_Pe eσ12 hP
    refine lv_iload_n hx hb dX12_works_52 rfl (lv_at hl 0 rfl) ?_
    refine lv_aload_n hx hb dX12_works_53 rfl (lv_at hl 1 rfl) ?_
    refine gf_X12_13 (v := .ref (ad 2)) hC hP kM_0 rfl dX12_works_54 ?_
    refine lv_iconst hx hb dX12_works_57 ki_2 ?_
    obtain ⟨h13, hf⟩ := fxG_e hf
    refine fx_iald hC hP kM_2 (fx_inp h13) dX12_works_58 ?_
    refine lv_imul hx hb dX12_works_59 ?_
    exact fx_iretf hf hC hr hk hP hS dX12_works_60
  exact main _ _ _ hP hS hl

set_option maxHeartbeats 4000000 in
set_option maxRecDepth 100000 in
theorem ctX12_effort (l : Launch) {a1 : Int32} {a2 : Int32} {a3 : Int32} {a4 : Int32} {σ σ' : FH} {v : Int32} (hf : fX12_effort a1 a2 a3 a4 σ = some (v, σ')) : fx_Mi l yX12_effort cX12_effort 5 (some .int) (3) LM (fun ad ec => [.ref (ad 0), .int a1, .int a2, .int a3, .int a4]) σ v σ' := by
  unfold fX12_effort at hf
  refine fx_mi' (own := RX12) rfl (by decide +kernel) ?_
  intro p e s m args below meth c D cy ad ec A hC hr hk hP hS
  have hx := hC.1
  have hb := hC.2.1
  have hl := lv_entry ([.ref (ad 0), .int a1, .int a2, .int a3, .int a4]) (n := 5) (Nat.le_of_ble_eq_true rfl)
  show W _ _ _ _ _ _ _ _ _ _ _ _ _ _ _ (entryFrame m ([.ref (ad 0), .int a1, .int a2, .int a3, .int a4] : List Value).toArray 5)
  rw [lg_entry_eq]
  generalize (lg_sl ([.ref (ad 0), .int a1, .int a2, .int a3, .int a4]) ++ List.replicate (5 - (lg_sl ([.ref (ad 0), .int a1, .int a2, .int a3, .int a4])).length) Slot.unset).toArray = ls at hl ⊢
  have hl : lv_has ls 5 [(0, .ref (ad 0)), (1, .int a1), (2, .int a2), (3, .int a3), (4, .int a4)] := hl
  have main : ∀ (H : Heap) (locs : List Loc) (ls : Array Slot), fx_P D cy LM ad σ H → va_S A s.heap H locs → lv_has ls 5 [(0, .ref (ad 0)), (1, .int a1), (2, .int a2), (3, .int a3), (4, .int a4)] → W p l e (fx_R (3)) s m args below meth c H locs 0 0 (fx_Qi D cy LM ad A below args s v σ') (F0 m 0 ls []) := by
    intro H locs ls hP hS hl
    refine lv_aload_n hx hb dX12_effort_0 rfl (lv_at hl 0 rfl) ?_
    refine gf_X12_41 (v := .ref (ad 11)) hC hP kM_0 rfl dX12_effort_1 ?_
    refine lv_iconst hx hb dX12_effort_4 ki_0 ?_
    obtain ⟨h1, hf⟩ := fxG_e hf
    refine fx_iald hC hP kM_11 (fx_inp h1) dX12_effort_5 ?_
    refine lv_aload_n hx hb dX12_effort_6 rfl (lv_at hl 0 rfl) ?_
    refine gf_X12_38 (v := .ref (ad 10)) hC hP kM_0 rfl dX12_effort_7 ?_
    refine lv_iconst hx hb dX12_effort_10 ki_0 ?_
    obtain ⟨h2, hf⟩ := fxG_e hf
    refine fx_iald hC hP kM_10 (fx_inp h2) dX12_effort_11 ?_
    refine lv_icmp_ne (tgt := 17) hx hb dX12_effort_12 (by decide) (fun c3 => ?_) (fun c3 => ?_)
    · replace hf := fx_ie c3 hf
      refine lv_aload_n hx hb dX12_effort_17 rfl (lv_at hl 0 rfl) ?_
      refine gf_X12_81 (v := .ref (ad 24)) hC hP kM_0 rfl dX12_effort_18 ?_
      refine lv_iconst hx hb dX12_effort_21 ki_1 ?_
      refine lv_iload_n hx hb dX12_effort_22 rfl (lv_at hl 1 rfl) ?_
      obtain ⟨h4, hf⟩ := fxG_e hf
      obtain ⟨σ5, eσ5, hf⟩ := fxL_e hf
      refine fx_iast hC hP hS kM_24 (fx_inp h4) dX12_effort_23 (fun H locs hP hS => ?_)
      replace hP := fx_Pe eσ5 hP
      refine lv_aload_n hx hb dX12_effort_24 rfl (lv_at hl 0 rfl) ?_
      refine gf_X12_81 (v := .ref (ad 24)) hC hP kM_0 rfl dX12_effort_25 ?_
      refine lv_iconst hx hb dX12_effort_28 ki_2 ?_
      refine lv_iload_n hx hb dX12_effort_29 rfl (lv_at hl 2 rfl) ?_
      obtain ⟨h6, hf⟩ := fxG_e hf
      obtain ⟨σ7, eσ7, hf⟩ := fxL_e hf
      refine fx_iast hC hP hS kM_24 (fx_inp h6) dX12_effort_30 (fun H locs hP hS => ?_)
      replace hP := fx_Pe eσ7 hP
      refine lv_aload_n hx hb dX12_effort_31 rfl (lv_at hl 0 rfl) ?_
      refine gf_X12_81 (v := .ref (ad 24)) hC hP kM_0 rfl dX12_effort_32 ?_
      refine lv_iconst hx hb dX12_effort_35 ki_3 ?_
      refine lv_iload_n hx hb dX12_effort_36 rfl (lv_at hl 3 rfl) ?_
      obtain ⟨h8, hf⟩ := fxG_e hf
      obtain ⟨σ9, eσ9, hf⟩ := fxL_e hf
      refine fx_iast hC hP hS kM_24 (fx_inp h8) dX12_effort_37 (fun H locs hP hS => ?_)
      replace hP := fx_Pe eσ9 hP
      refine lv_aload_n hx hb dX12_effort_38 rfl (lv_at hl 0 rfl) ?_
      refine gf_X12_81 (v := .ref (ad 24)) hC hP kM_0 rfl dX12_effort_39 ?_
      refine lv_iconst hx hb dX12_effort_42 ki_4 ?_
      refine lv_iload hx hb dX12_effort_43 (lv_at hl 4 rfl) ?_
      obtain ⟨h10, hf⟩ := fxG_e hf
      obtain ⟨σ11, eσ11, hf⟩ := fxL_e hf
      refine fx_iast hC hP hS kM_24 (fx_inp h10) dX12_effort_45 (fun H locs hP hS => ?_)
      replace hP := fx_Pe eσ11 hP
      refine lv_aload_n hx hb dX12_effort_46 rfl (lv_at hl 0 rfl) ?_
      refine lv_iconst hx hb dX12_effort_47 ki_0 ?_
      obtain ⟨r13, σ14, hc12, hf⟩ := fxBI_e hf
      refine fx_ci hC hS (fx_runV (i := 0) (As := [.int 0]) (rest := []) hC hP hS (ctX12_worked l hc12 D cy ad ec _) kM_0 (by decide) rfl kMV_X12_363 kC_X12_worked hd_X12_worked rfl ⟨(Nat.le_of_ble_eq_true rfl), (Nat.le_of_ble_eq_true rfl)⟩ ⟨Nat.le_refl 0, Nat.le_refl 0⟩ hl.1 (Nat.le_of_ble_eq_true rfl) rfl dX12_effort_48) (fun H locs hP hS => ?_)
      refine lv_iconst hx hb dX12_effort_51 ki_0 ?_
      refine lv_bipush hx hb dX12_effort_52 kb_9 ?_
      obtain ⟨r16, hc15, hf⟩ := fxBP_e hf
      refine fx_ci hC hS (fx_runS (As := [.int r13, .int 0, .int 9]) (rest := []) hC hP hS (ctX12_between l hc15 D cy ad ec _) kMS_X12_366 kC_X12_between hd_X12_between.2 rfl ⟨(Nat.le_of_ble_eq_true rfl), (Nat.le_of_ble_eq_true rfl)⟩ ⟨Nat.le_refl 0, Nat.le_refl 0⟩ hl.1 (Nat.le_of_ble_eq_true rfl) rfl dX12_effort_54) (fun H locs hP hS => ?_)
      exact fx_iretf hf hC hr hk hP hS dX12_effort_57
    · replace hf := fx_it c3 hf
      refine lv_iconst hx hb dX12_effort_15 ki_1 ?_
      exact fx_iretf hf hC hr hk hP hS dX12_effort_16
  exact main _ _ _ hP hS hl

set_option maxHeartbeats 4000000 in
set_option maxRecDepth 100000 in
theorem ctX12_worksWeek (l : Launch) {a1 : Int32} {σ σ' : FH} {v : Int32} (hf : fX12_worksWeek a1 σ = some (v, σ')) : fx_Mi l yX12_worksWeek cX12_worksWeek 4 (some .int) (4) LM (fun ad ec => [.ref (ad 0), .int a1]) σ v σ' := by
  unfold fX12_worksWeek at hf
  refine fx_mi' (own := RX12) rfl (by decide +kernel) ?_
  intro p e s m args below meth c D cy ad ec A hC hr hk hP hS
  have hx := hC.1
  have hb := hC.2.1
  have hl := lv_entry ([.ref (ad 0), .int a1]) (n := 4) (Nat.le_of_ble_eq_true rfl)
  show W _ _ _ _ _ _ _ _ _ _ _ _ _ _ _ (entryFrame m ([.ref (ad 0), .int a1] : List Value).toArray 4)
  rw [lg_entry_eq]
  generalize (lg_sl ([.ref (ad 0), .int a1]) ++ List.replicate (4 - (lg_sl ([.ref (ad 0), .int a1])).length) Slot.unset).toArray = ls at hl ⊢
  have hl : lv_has ls 4 [(0, .ref (ad 0)), (1, .int a1)] := hl
  have main : ∀ (H : Heap) (locs : List Loc) (ls : Array Slot), fx_P D cy LM ad σ H → va_S A s.heap H locs → lv_has ls 4 [(0, .ref (ad 0)), (1, .int a1)] → W p l e (fx_R (4)) s m args below meth c H locs 0 0 (fx_Qi D cy LM ad A below args s v σ') (F0 m 0 ls []) := by
    intro H locs ls hP hS hl
    refine lv_aload_n hx hb dX12_worksWeek_0 rfl (lv_at hl 0 rfl) ?_
    refine gf_X12_23 (v := .ref (ad 5)) hC hP kM_0 rfl dX12_worksWeek_1 ?_
    refine lv_iload_n hx hb dX12_worksWeek_4 rfl (lv_at hl 1 rfl) ?_
    obtain ⟨h1, hf⟩ := fxG_e hf
    refine fx_iald hC hP kM_5 (fx_inp h1) dX12_worksWeek_5 ?_
    refine lv_iconst hx hb dX12_worksWeek_6 ki_3 ?_
    obtain ⟨J2, hJ2, hf⟩ := fxL_e hf
    have j_J2 : ∀  (H : Heap) (locs : List Loc) (ls : Array Slot), fx_P D cy LM ad σ H → va_S A s.heap H locs → lv_has ls 4 [(0, .ref (ad 0)), (1, .int a1)] → J2 = some (v, σ') → W p l e (fx_R (4)) s m args below meth c H locs 0 0 (fx_Qi D cy LM ad A below args s v σ') (F0 m 24 ls []) := by
      intro  H locs ls hP hS hl hf
      replace hf := hJ2.symm.trans hf
      refine lv_aload_n hx hb dX12_worksWeek_24 rfl (lv_at hl 0 rfl) ?_
      refine lv_aload_n hx hb dX12_worksWeek_25 rfl (lv_at hl 0 rfl) ?_
      refine gf_X12_108 (v := .ref (ad 33)) hC hP kM_0 rfl dX12_worksWeek_26 ?_
      refine lv_iconst hx hb dX12_worksWeek_29 ki_3 ?_
      refine lv_iload_n hx hb dX12_worksWeek_30 rfl (lv_at hl 1 rfl) ?_
      refine lv_iadd hx hb dX12_worksWeek_31 ?_
      obtain ⟨h3, hf⟩ := fxG_e hf
      refine fx_iald hC hP kM_33 (fx_inp h3) dX12_worksWeek_32 ?_
      refine lv_aload_n hx hb dX12_worksWeek_33 rfl (lv_at hl 0 rfl) ?_
      refine lv_iload_n hx hb dX12_worksWeek_34 rfl (lv_at hl 1 rfl) ?_
      obtain ⟨r5, hc4, hf⟩ := fxBP_e hf
      refine fx_ci hC hS (fx_runV (i := 0) (As := [.int a1]) (rest := [.int (σ.1 33 (Int32.toNatClampNeg (3 + a1))), .ref (ad 0)]) hC hP hS (ctX12_halfOf l hc4 D cy ad ec _) kM_0 (by decide) rfl kMV_X12_351 kC_X12_halfOf hd_X12_halfOf rfl ⟨(Nat.le_of_ble_eq_true rfl), (Nat.le_of_ble_eq_true rfl)⟩ ⟨Nat.le_refl 0, Nat.le_refl 0⟩ hl.1 (Nat.le_of_ble_eq_true rfl) rfl dX12_worksWeek_35) (fun H locs hP hS => ?_)
      refine lv_aload_n hx hb dX12_worksWeek_38 rfl (lv_at hl 0 rfl) ?_
      refine lv_iload_n hx hb dX12_worksWeek_39 rfl (lv_at hl 1 rfl) ?_
      obtain ⟨r8, hc7, hf⟩ := fxBP_e hf
      refine fx_ci hC hS (fx_runV (i := 0) (As := [.int a1]) (rest := [.int r5, .int (σ.1 33 (Int32.toNatClampNeg (3 + a1))), .ref (ad 0)]) hC hP hS (ctX12_votesOf l hc7 D cy ad ec _) kM_0 (by decide) rfl kMV_X12_370 kC_X12_votesOf hd_X12_votesOf rfl ⟨(Nat.le_of_ble_eq_true rfl), (Nat.le_of_ble_eq_true rfl)⟩ ⟨Nat.le_refl 0, Nat.le_refl 0⟩ hl.1 (Nat.le_of_ble_eq_true rfl) rfl dX12_worksWeek_40) (fun H locs hP hS => ?_)
      refine lv_aload_n hx hb dX12_worksWeek_43 rfl (lv_at hl 0 rfl) ?_
      refine gf_X12_108 (v := .ref (ad 33)) hC hP kM_0 rfl dX12_worksWeek_44 ?_
      refine lv_iconst hx hb dX12_worksWeek_47 ki_0 ?_
      obtain ⟨h10, hf⟩ := fxG_e hf
      refine fx_iald hC hP kM_33 (fx_inp h10) dX12_worksWeek_48 ?_
      obtain ⟨r12, σ13, hc11, hf⟩ := fxBI_e hf
      refine fx_ci hC hS (fx_runV (i := 0) (As := [.int (σ.1 33 (Int32.toNatClampNeg (3 + a1))), .int r5, .int r8, .int (σ.1 33 (Int32.toNatClampNeg 0))]) (rest := []) hC hP hS (ctX12_effort l hc11 D cy ad ec _) kM_0 (by decide) rfl kMV_X12_373 kC_X12_effort hd_X12_effort rfl ⟨(Nat.le_of_ble_eq_true rfl), (Nat.le_of_ble_eq_true rfl)⟩ ⟨Nat.le_refl 0, Nat.le_refl 0⟩ hl.1 (Nat.le_of_ble_eq_true rfl) rfl dX12_worksWeek_49) (fun H locs hP hS => ?_)
      refine lv_istore_n (lv' := [(2, .int r12), (0, .ref (ad 0)), (1, .int a1)]) hx hb dX12_worksWeek_52 rfl hl (by decide) rfl (fun ls hl => ?_)
      refine lv_aload_n hx hb dX12_worksWeek_53 rfl (lv_at hl 1 rfl) ?_
      refine gf_X12_23 (v := .ref (ad 5)) hC hP kM_0 rfl dX12_worksWeek_54 ?_
      refine lv_iload_n hx hb dX12_worksWeek_57 rfl (lv_at hl 2 rfl) ?_
      obtain ⟨h14, hf⟩ := fxG_e hf
      refine fx_iald hC hP kM_5 (fx_inp h14) dX12_worksWeek_58 ?_
      refine lv_iconst hx hb dX12_worksWeek_59 ki_2 ?_
      obtain ⟨J15, hJ15, hf⟩ := fxL_e hf
      have j_J15 : ∀ (x16 : Int32) (H : Heap) (locs : List Loc) (ls : Array Slot), fx_P D cy LM ad σ13 H → va_S A s.heap H locs → lv_has ls 4 [(0, .ref (ad 0)), (1, .int a1), (2, .int x16)] → J15 x16 = some (v, σ') → W p l e (fx_R (4)) s m args below meth c H locs 0 0 (fx_Qi D cy LM ad A below args s v σ') (F0 m 86 ls []) := by
        intro x16 H locs ls hP hS hl hf
        replace hf := fxk1 hJ15 hf
        refine lv_aload_n hx hb dX12_worksWeek_86 rfl (lv_at hl 0 rfl) ?_
        refine lv_iload_n hx hb dX12_worksWeek_87 rfl (lv_at hl 1 rfl) ?_
        refine lv_iload_n hx hb dX12_worksWeek_88 rfl (lv_at hl 2 rfl) ?_
        obtain ⟨r18, σ19, hc17, hf⟩ := fxBI_e hf
        refine fx_ci hC hS (fx_runV (i := 0) (As := [.int a1, .int x16]) (rest := []) hC hP hS (ctX12_works l hc17 D cy ad ec _) kM_0 (by decide) rfl kMV_X12_377 kC_X12_works hd_X12_works rfl ⟨(Nat.le_of_ble_eq_true rfl), (Nat.le_of_ble_eq_true rfl)⟩ ⟨Nat.le_refl 0, Nat.le_refl 0⟩ hl.1 (Nat.le_of_ble_eq_true rfl) rfl dX12_worksWeek_89) (fun H locs hP hS => ?_)
        refine lv_istore_n (lv' := [(3, .int r18), (0, .ref (ad 0)), (1, .int a1), (2, .int x16)]) hx hb dX12_worksWeek_92 rfl hl (by decide) rfl (fun ls hl => ?_)
        refine lv_aload_n hx hb dX12_worksWeek_93 rfl (lv_at hl 1 rfl) ?_
        refine gf_X12_23 (v := .ref (ad 5)) hC hP kM_0 rfl dX12_worksWeek_94 ?_
        refine lv_iload_n hx hb dX12_worksWeek_97 rfl (lv_at hl 2 rfl) ?_
        obtain ⟨h20, hf⟩ := fxG_e hf
        refine fx_iald hC hP kM_5 (fx_inp h20) dX12_worksWeek_98 ?_
        refine lv_iconst hx hb dX12_worksWeek_99 ki_1 ?_
        refine lv_icmp_ne (tgt := 114) hx hb dX12_worksWeek_100 (by decide) (fun c21 => ?_) (fun c21 => ?_)
        · replace hf := fx_ie c21 hf
          refine lv_iload_n hx hb dX12_worksWeek_114 rfl (lv_at hl 0 rfl) ?_
          exact fx_iretf hf hC hr hk hP hS dX12_worksWeek_115
        · replace hf := fx_it c21 hf
          refine lv_iload_n hx hb dX12_worksWeek_103 rfl (lv_at hl 0 rfl) ?_
          refine lv_aload_n hx hb dX12_worksWeek_104 rfl (lv_at hl 1 rfl) ?_
          refine lv_iload_n hx hb dX12_worksWeek_105 rfl (lv_at hl 2 rfl) ?_
          refine lv_iload_n hx hb dX12_worksWeek_106 rfl (lv_at hl 3 rfl) ?_
          obtain ⟨r23, σ24, hc22, hf⟩ := fxBI_e hf
          refine fx_ci hC hS (fx_runV (i := 0) (As := [.int a1, .int x16]) (rest := [.int r18]) hC hP hS (ctX12_works l hc22 D cy ad ec _) kM_0 (by decide) rfl kMV_X12_377 kC_X12_works hd_X12_works rfl ⟨(Nat.le_of_ble_eq_true rfl), (Nat.le_of_ble_eq_true rfl)⟩ ⟨Nat.le_refl 0, Nat.le_refl 0⟩ hl.1 (Nat.le_of_ble_eq_true rfl) rfl dX12_worksWeek_107) (fun H locs hP hS => ?_)
          refine lv_iadd hx hb dX12_worksWeek_110 ?_
          refine lv_goto (tgt := 115) hx hb dX12_worksWeek_111 (by decide) ?_
          exact fx_iretf hf hC hr hk hP hS dX12_worksWeek_115
      refine lv_icmp_ne (tgt := 86) hx hb dX12_worksWeek_60 (by decide) (fun c25 => ?_) (fun c25 => ?_)
      · replace hf := fx_ie c25 hf
        exact j_J15 r12 _ _ _ hP hS (lv_sub hl [1, 2, 0] rfl) hf
      · replace hf := fx_it c25 hf
        refine lv_iload_n hx hb dX12_worksWeek_63 rfl (lv_at hl 0 rfl) ?_
        refine lv_aload_n hx hb dX12_worksWeek_64 rfl (lv_at hl 1 rfl) ?_
        refine lv_iload_n hx hb dX12_worksWeek_65 rfl (lv_at hl 2 rfl) ?_
        obtain ⟨r27, hc26, hf⟩ := fxBP_e hf
        refine fx_ci hC hS (fx_runV (i := 0) (As := [.int a1]) (rest := [.int r12]) hC hP hS (ctX12_halfOf l hc26 D cy ad ec _) kM_0 (by decide) rfl kMV_X12_351 kC_X12_halfOf hd_X12_halfOf rfl ⟨(Nat.le_of_ble_eq_true rfl), (Nat.le_of_ble_eq_true rfl)⟩ ⟨Nat.le_refl 0, Nat.le_refl 0⟩ hl.1 (Nat.le_of_ble_eq_true rfl) rfl dX12_worksWeek_66) (fun H locs hP hS => ?_)
        refine lv_aload_n hx hb dX12_worksWeek_69 rfl (lv_at hl 1 rfl) ?_
        refine gf_X12_108 (v := .ref (ad 33)) hC hP kM_0 rfl dX12_worksWeek_70 ?_
        refine lv_iconst hx hb dX12_worksWeek_73 ki_3 ?_
        refine lv_iload_n hx hb dX12_worksWeek_74 rfl (lv_at hl 2 rfl) ?_
        refine lv_iadd hx hb dX12_worksWeek_75 ?_
        obtain ⟨h29, hf⟩ := fxG_e hf
        refine fx_iald hC hP kM_33 (fx_inp h29) dX12_worksWeek_76 ?_
        refine lv_isub hx hb dX12_worksWeek_77 ?_
        refine lv_iconst hx hb dX12_worksWeek_78 ki_1 ?_
        refine lv_iadd hx hb dX12_worksWeek_79 ?_
        refine lv_iconst hx hb dX12_worksWeek_80 ki_2 ?_
        refine lv_idiv hx hb dX12_worksWeek_81 (by decide) ?_
        refine fx_min hC hl.1 kL_X12_284 kMt_min kMi kMc_min (Nat.le_of_ble_eq_true rfl) (Nat.le_of_ble_eq_true rfl) ⟨Nat.le_refl 0, Nat.le_refl 0⟩ dX12_worksWeek_82 ?_
        obtain ⟨v30, ev30, hf⟩ := fxL_e hf
        refine fx_ti ev30 ?_
        refine lv_istore_n (lv' := [(2, .int v30), (0, .ref (ad 0)), (1, .int a1)]) hx hb dX12_worksWeek_85 rfl hl (by decide) rfl (fun ls hl => ?_)
        exact j_J15 v30 _ _ _ hP hS (lv_sub hl [1, 2, 0] rfl) hf
    refine lv_icmp_ne (tgt := 24) hx hb dX12_worksWeek_7 (by decide) (fun c31 => ?_) (fun c31 => ?_)
    · replace hf := fx_ie c31 hf
      exact j_J2  _ _ _ hP hS (lv_sub hl [0, 1] rfl) hf
    · replace hf := fx_it c31 hf
      refine lv_aload_n hx hb dX12_worksWeek_10 rfl (lv_at hl 0 rfl) ?_
      refine gf_X12_108 (v := .ref (ad 33)) hC hP kM_0 rfl dX12_worksWeek_11 ?_
      refine lv_iconst hx hb dX12_worksWeek_14 ki_0 ?_
      obtain ⟨h32, hf⟩ := fxG_e hf
      refine fx_iald hC hP kM_33 (fx_inp h32) dX12_worksWeek_15 ?_
      refine lv_iconst hx hb dX12_worksWeek_16 ki_2 ?_
      refine lv_irem hx hb dX12_worksWeek_17 (by decide) ?_
      refine lv_iconst hx hb dX12_worksWeek_18 ki_1 ?_
      refine lv_icmp_ne (tgt := 24) hx hb dX12_worksWeek_19 (by decide) (fun c33 => ?_) (fun c33 => ?_)
      · replace hf := fx_ie c33 hf
        exact j_J2  _ _ _ hP hS (lv_sub hl [0, 1] rfl) hf
      · replace hf := fx_it c33 hf
        refine lv_iconst hx hb dX12_worksWeek_22 ki_0 ?_
        exact fx_iretf hf hC hr hk hP hS dX12_worksWeek_23
  exact main _ _ _ hP hS hl

set_option maxHeartbeats 4000000 in
set_option maxRecDepth 100000 in
theorem ctX12_passes (l : Launch) {σ σ' : FH} {v : Int32} (hf : fX12_passes σ = some (v, σ')) : fx_Mi l yX12_passes cX12_passes 4 (some .int) (5) LM (fun ad ec => [.ref (ad 0)]) σ v σ' := by
  unfold fX12_passes at hf
  refine fx_mi' (own := RX12) rfl (by decide +kernel) ?_
  intro p e s m args below meth c D cy ad ec A hC hr hk hP hS
  have hx := hC.1
  have hb := hC.2.1
  have hl := lv_entry ([.ref (ad 0)]) (n := 4) (Nat.le_of_ble_eq_true rfl)
  show W _ _ _ _ _ _ _ _ _ _ _ _ _ _ _ (entryFrame m ([.ref (ad 0)] : List Value).toArray 4)
  rw [lg_entry_eq]
  generalize (lg_sl ([.ref (ad 0)]) ++ List.replicate (4 - (lg_sl ([.ref (ad 0)])).length) Slot.unset).toArray = ls at hl ⊢
  have hl : lv_has ls 4 [(0, .ref (ad 0))] := hl
  have main : ∀ (H : Heap) (locs : List Loc) (ls : Array Slot), fx_P D cy LM ad σ H → va_S A s.heap H locs → lv_has ls 4 [(0, .ref (ad 0))] → W p l e (fx_R (5)) s m args below meth c H locs 0 0 (fx_Qi D cy LM ad A below args s v σ') (F0 m 0 ls []) := by
    intro H locs ls hP hS hl
    refine lv_iconst hx hb dX12_passes_0 ki_0 ?_
    refine lv_istore_n (lv' := [(1, .int 0), (0, .ref (ad 0))]) hx hb dX12_passes_1 rfl hl (by decide) rfl (fun ls hl => ?_)
    refine lv_aload_n hx hb dX12_passes_2 rfl (lv_at hl 1 rfl) ?_
    refine lv_iconst hx hb dX12_passes_3 ki_0 ?_
    obtain ⟨σ1, eσ1, hf⟩ := fxL_e hf
    refine pf_X12_380 hC hP hS kM_0 dX12_passes_4 (fun H locs hP hS => ?_)
    replace hP := fx_Pe eσ1 hP
    refine lv_iconst hx hb dX12_passes_7 ki_0 ?_
    refine lv_istore_n (lv' := [(2, .int 0), (1, .int 0), (0, .ref (ad 0))]) hx hb dX12_passes_8 rfl hl (by decide) rfl (fun ls hl => ?_)
    obtain ⟨K2, hK2, hf⟩ := fxL_e hf
    have k_K2 : ∀ (x3 : Int32) (σ4 : FH) (H : Heap) (locs : List Loc) (ls : Array Slot), fx_P D cy LM ad σ4 H → va_S A s.heap H locs → lv_has ls 4 [(0, .ref (ad 0)), (1, .int x3)] → K2 x3 σ4 = some (v, σ') → W p l e (fx_R (5)) s m args below meth c H locs 0 0 (fx_Qi D cy LM ad A below args s v σ') (F0 m 55 ls []) := by
      intro x3 σ4 H locs ls hP hS hl hf
      replace hf := fxk2 hK2 hf
      refine lv_aload_n hx hb dX12_passes_55 rfl (lv_at hl 0 rfl) ?_
      refine gf_X12_108 (v := .ref (ad 33)) hC hP kM_0 rfl dX12_passes_56 ?_
      refine lv_iconst hx hb dX12_passes_59 ki_0 ?_
      refine lv_dup2_11 hx hb dX12_passes_60 rfl rfl ?_
      obtain ⟨h5, hf⟩ := fxG_e hf
      refine fx_iald hC hP kM_33 (fx_inp h5) dX12_passes_61 ?_
      refine lv_iconst hx hb dX12_passes_62 ki_1 ?_
      refine lv_iadd hx hb dX12_passes_63 ?_
      obtain ⟨h6, hf⟩ := fxG_e hf
      obtain ⟨σ7, eσ7, hf⟩ := fxL_e hf
      refine fx_iast hC hP hS kM_33 (fx_inp h6) dX12_passes_64 (fun H locs hP hS => ?_)
      replace hP := fx_Pe eσ7 hP
      refine lv_iload_n hx hb dX12_passes_65 rfl (lv_at hl 1 rfl) ?_
      exact fx_iretf hf hC hr hk hP hS dX12_passes_66
    have L23 : ∀ (n12 : Nat) (w8 : Int32) (w9 : Int32) (σ10 : FH) (H : Heap) (locs : List Loc) (ls : Array Slot), fx_P D cy LM ad σ10 H → va_S A s.heap H locs → lv_has ls 4 [(0, .ref (ad 0)), (1, .int w8), (2, .int w9)] → fX12_passes_9 K2 n12 w8 w9 σ10 = some (v, σ') → W p l e (fx_R (5)) s m args below meth c H locs 0 0 (fx_Qi D cy LM ad A below args s v σ') (F0 m 9 ls []) := by
      intro n12
      induction n12 with
      | zero =>
        intro w8 w9 σ10 H locs ls hP hS hl hf
        rw [fX12_passes_9] at hf
        cases hf
      | succ n12 ih11 =>
        intro w8 w9 σ10 H locs ls hP hS hl hf
        rw [fX12_passes_9] at hf
        refine lv_iload_n hx hb dX12_passes_9 rfl (lv_at hl 2 rfl) ?_
        refine lv_aload_n hx hb dX12_passes_10 rfl (lv_at hl 0 rfl) ?_
        refine gf_X12_13 (v := .ref (ad 2)) hC hP kM_0 rfl dX12_passes_11 ?_
        refine lv_iconst hx hb dX12_passes_14 ki_0 ?_
        obtain ⟨h13, hf⟩ := fxG_e hf
        refine fx_iald hC hP kM_2 (fx_inp h13) dX12_passes_15 ?_
        refine lv_icmp_ge (tgt := 55) hx hb dX12_passes_16 (by decide) (fun c14 => ?_) (fun c14 => ?_)
        · replace hf := fx_it c14 hf
          exact k_K2 w8 σ10 _ _ _ hP hS (lv_sub hl [0, 1] rfl) hf
        · replace hf := fx_ie c14 hf
          refine lv_aload_n hx hb dX12_passes_19 rfl (lv_at hl 0 rfl) ?_
          refine lv_iload_n hx hb dX12_passes_20 rfl (lv_at hl 2 rfl) ?_
          obtain ⟨r16, σ17, hc15, hf⟩ := fxBI_e hf
          refine fx_ci hC hS (fx_runV (i := 0) (As := [.int w9]) (rest := []) hC hP hS (ctX12_worksWeek l hc15 D cy ad ec _) kM_0 (by decide) rfl kMV_X12_383 kC_X12_worksWeek hd_X12_worksWeek rfl ⟨(Nat.le_of_ble_eq_true rfl), (Nat.le_of_ble_eq_true rfl)⟩ ⟨Nat.le_refl 0, Nat.le_refl 0⟩ hl.1 (Nat.le_of_ble_eq_true rfl) rfl dX12_passes_21) (fun H locs hP hS => ?_)
          refine lv_istore_n (lv' := [(3, .int r16), (0, .ref (ad 0)), (1, .int w8), (2, .int w9)]) hx hb dX12_passes_24 rfl hl (by decide) rfl (fun ls hl => ?_)
          refine lv_iload_n hx hb dX12_passes_25 rfl (lv_at hl 2 rfl) ?_
          refine lv_iload_n hx hb dX12_passes_26 rfl (lv_at hl 0 rfl) ?_
          refine lv_iadd hx hb dX12_passes_27 ?_
          obtain ⟨v18, ev18, hf⟩ := fxL_e hf
          refine fx_ti ev18 ?_
          refine lv_istore_n (lv' := [(1, .int v18), (3, .int r16), (0, .ref (ad 0)), (2, .int w9)]) hx hb dX12_passes_28 rfl hl (by decide) rfl (fun ls hl => ?_)
          refine lv_aload_n hx hb dX12_passes_29 rfl (lv_at hl 2 rfl) ?_
          refine lv_dup hx hb dX12_passes_30 rfl ?_
          refine gf_X12_380 (v := .int (σ17.1 0 52)) hC hP kM_0 rfl dX12_passes_31 ?_
          refine lv_iload_n hx hb dX12_passes_34 rfl (lv_at hl 1 rfl) ?_
          obtain ⟨v19, ev19, hf⟩ := fxL_e hf
          have j_v19 : ∀ (z20 : Int32), z20 = ((if r16 ≤ 0 then 0 else (1 <<< (w9 &&& 31))) : Int32) → ∀ (ls : Array Slot), lv_has ls 4 [(0, .ref (ad 0)), (1, .int v18), (2, .int w9)] → W p l e (fx_R (5)) s m args below meth c H locs 0 0 (fx_Qi D cy LM ad A below args s v σ') (F0 m 45 ls [.int z20, .int (σ17.1 0 52), .ref (ad 0)]) := by
            intro z20 hz20 ls hl
            obtain rfl : v19 = z20 := ev19.trans hz20.symm
            refine lv_ior hx hb dX12_passes_45 ?_
            obtain ⟨σ22, eσ22, hf⟩ := fxL_e hf
            refine pf_X12_380 hC hP hS kM_0 dX12_passes_46 (fun H locs hP hS => ?_)
            replace hP := fx_Pe eσ22 hP
            refine lv_iinc (v := (w9 + 1)) (lv' := [(2, .int (w9 + 1)), (0, .ref (ad 0)), (1, .int v18)]) hx hb dX12_passes_49 hl (k := 2) rfl (congrArg (fun z => w9 + z) ki_1) (by decide) rfl (fun ls hl => ?_)
            refine lv_goto (tgt := 9) hx hb dX12_passes_52 (by decide) ?_
            exact ih11 v18 (w9 + 1) σ22 _ _ _ hP hS (lv_sub hl [1, 2, 0] rfl) hf
          refine lv_if_le (tgt := 44) hx hb dX12_passes_35 (by decide) (fun c21 => ?_) (fun c21 => ?_)
          · refine lv_iconst hx hb dX12_passes_44 ki_0 ?_
            exact j_v19 0 (if_pos c21).symm ls (lv_sub hl [2, 0, 3] rfl)
          · refine lv_iconst hx hb dX12_passes_38 ki_1 ?_
            refine lv_iload_n hx hb dX12_passes_39 rfl (lv_at hl 3 rfl) ?_
            refine lv_ishl hx hb dX12_passes_40 ?_
            refine lv_goto (tgt := 45) hx hb dX12_passes_41 (by decide) ?_
            exact j_v19 (1 <<< (w9 &&& 31)) (if_neg c21).symm ls (lv_sub hl [2, 0, 3] rfl)
    exact L23 FU 0 0 σ1 _ _ _ hP hS (lv_sub hl [2, 1, 0] rfl) hf
  exact main _ _ _ hP hS hl

set_option maxHeartbeats 4000000 in
set_option maxRecDepth 100000 in
theorem ctX12_canJoin (l : Launch) {a1 : Int32} {a2 : Int32} {σ : FH} {v : Int32} (hf : fX12_canJoin a1 a2 σ = some v) : fx_Mi l yX12_canJoin cX12_canJoin 3 (some .boolean) (2) LM (fun ad ec => [.ref (ad 0), .int a1, .int a2]) σ v σ := by
  unfold fX12_canJoin at hf
  refine fx_mi' (own := RX12) rfl (by decide +kernel) ?_
  intro p e s m args below meth c D cy ad ec A hC hr hk hP hS
  have hx := hC.1
  have hb := hC.2.1
  have hl := lv_entry ([.ref (ad 0), .int a1, .int a2]) (n := 3) (Nat.le_of_ble_eq_true rfl)
  show W _ _ _ _ _ _ _ _ _ _ _ _ _ _ _ (entryFrame m ([.ref (ad 0), .int a1, .int a2] : List Value).toArray 3)
  rw [lg_entry_eq]
  generalize (lg_sl ([.ref (ad 0), .int a1, .int a2]) ++ List.replicate (3 - (lg_sl ([.ref (ad 0), .int a1, .int a2])).length) Slot.unset).toArray = ls at hl ⊢
  have hl : lv_has ls 3 [(0, .ref (ad 0)), (1, .int a1), (2, .int a2)] := hl
  have main : ∀ (H : Heap) (locs : List Loc) (ls : Array Slot), fx_P D cy LM ad σ H → va_S A s.heap H locs → lv_has ls 3 [(0, .ref (ad 0)), (1, .int a1), (2, .int a2)] → W p l e (fx_R (2)) s m args below meth c H locs 0 0 (fx_Qi D cy LM ad A below args s v σ) (F0 m 0 ls []) := by
    intro H locs ls hP hS hl
    refine lv_iload_n hx hb dX12_canJoin_0 rfl (lv_at hl 1 rfl) ?_
    refine lv_iload_n hx hb dX12_canJoin_1 rfl (lv_at hl 2 rfl) ?_
    refine lv_icmp_eq (tgt := 40) hx hb dX12_canJoin_2 (by decide) (fun c1 => ?_) (fun c1 => ?_)
    · replace hf := fx_it c1 hf
      refine lv_iconst hx hb dX12_canJoin_40 ki_0 ?_
      exact fx_zretp rfl hf hC hr hk hP hS dX12_canJoin_41
    · replace hf := fx_ie c1 hf
      refine lv_aload_n hx hb dX12_canJoin_5 rfl (lv_at hl 0 rfl) ?_
      refine gf_X12_26 (v := .ref (ad 6)) hC hP kM_0 rfl dX12_canJoin_6 ?_
      refine lv_iload_n hx hb dX12_canJoin_9 rfl (lv_at hl 1 rfl) ?_
      obtain ⟨h2, hf⟩ := fxG_e hf
      refine fx_iald hC hP kM_6 (fx_inp h2) dX12_canJoin_10 ?_
      refine lv_aload_n hx hb dX12_canJoin_11 rfl (lv_at hl 0 rfl) ?_
      refine gf_X12_26 (v := .ref (ad 6)) hC hP kM_0 rfl dX12_canJoin_12 ?_
      refine lv_iload_n hx hb dX12_canJoin_15 rfl (lv_at hl 2 rfl) ?_
      obtain ⟨h3, hf⟩ := fxG_e hf
      refine fx_iald hC hP kM_6 (fx_inp h3) dX12_canJoin_16 ?_
      refine lv_icmp_ne (tgt := 40) hx hb dX12_canJoin_17 (by decide) (fun c4 => ?_) (fun c4 => ?_)
      · replace hf := fx_ie c4 hf
        refine lv_iconst hx hb dX12_canJoin_40 ki_0 ?_
        exact fx_zretp rfl hf hC hr hk hP hS dX12_canJoin_41
      · replace hf := fx_it c4 hf
        refine lv_aload_n hx hb dX12_canJoin_20 rfl (lv_at hl 0 rfl) ?_
        refine lv_iload_n hx hb dX12_canJoin_21 rfl (lv_at hl 1 rfl) ?_
        obtain ⟨r6, hc5, hf⟩ := fxBP_e hf
        refine fx_ci hC hS (fx_runV (i := 0) (As := [.int a1]) (rest := []) hC hP hS (ctX12_isHalf l hc5 D cy ad ec _) kM_0 (by decide) rfl kMV_X12_386 kC_X12_isHalf hd_X12_isHalf rfl ⟨(Nat.le_of_ble_eq_true rfl), (Nat.le_of_ble_eq_true rfl)⟩ ⟨Nat.le_refl 0, Nat.le_refl 0⟩ hl.1 (Nat.le_of_ble_eq_true rfl) rfl dX12_canJoin_22) (fun H locs hP hS => ?_)
        refine lv_if_eq (tgt := 40) hx hb dX12_canJoin_25 (by decide) (fun c8 => ?_) (fun c8 => ?_)
        · replace hf := fx_it c8 hf
          refine lv_iconst hx hb dX12_canJoin_40 ki_0 ?_
          exact fx_zretp rfl hf hC hr hk hP hS dX12_canJoin_41
        · replace hf := fx_ie c8 hf
          refine lv_aload_n hx hb dX12_canJoin_28 rfl (lv_at hl 0 rfl) ?_
          refine lv_iload_n hx hb dX12_canJoin_29 rfl (lv_at hl 2 rfl) ?_
          obtain ⟨r10, hc9, hf⟩ := fxBP_e hf
          refine fx_ci hC hS (fx_runV (i := 0) (As := [.int a2]) (rest := []) hC hP hS (ctX12_isHalf l hc9 D cy ad ec _) kM_0 (by decide) rfl kMV_X12_386 kC_X12_isHalf hd_X12_isHalf rfl ⟨(Nat.le_of_ble_eq_true rfl), (Nat.le_of_ble_eq_true rfl)⟩ ⟨Nat.le_refl 0, Nat.le_refl 0⟩ hl.1 (Nat.le_of_ble_eq_true rfl) rfl dX12_canJoin_30) (fun H locs hP hS => ?_)
          refine lv_if_eq (tgt := 40) hx hb dX12_canJoin_33 (by decide) (fun c12 => ?_) (fun c12 => ?_)
          · replace hf := fx_it c12 hf
            refine lv_iconst hx hb dX12_canJoin_40 ki_0 ?_
            exact fx_zretp rfl hf hC hr hk hP hS dX12_canJoin_41
          · replace hf := fx_ie c12 hf
            refine lv_iconst hx hb dX12_canJoin_36 ki_1 ?_
            refine lv_goto (tgt := 41) hx hb dX12_canJoin_37 (by decide) ?_
            exact fx_zretp rfl hf hC hr hk hP hS dX12_canJoin_41
  exact main _ _ _ hP hS hl

set_option maxHeartbeats 4000000 in
set_option maxRecDepth 100000 in
theorem ctX12_joins (l : Launch) {a1 : Int32} {a2 : Int32} {σ σ' : FH} (hf : fX12_joins a1 a2 σ = some σ') : fx_Mv l yX12_joins cX12_joins 3 none (0) LM (fun ad ec => [.ref (ad 0), .int a1, .int a2]) σ σ' := by
  unfold fX12_joins at hf
  refine fx_mv' (own := RX12) rfl (by decide +kernel) ?_
  intro p e s m args below meth c D cy ad ec A hC hr hk hP hS
  have hx := hC.1
  have hb := hC.2.1
  have hl := lv_entry ([.ref (ad 0), .int a1, .int a2]) (n := 3) (Nat.le_of_ble_eq_true rfl)
  show W _ _ _ _ _ _ _ _ _ _ _ _ _ _ _ (entryFrame m ([.ref (ad 0), .int a1, .int a2] : List Value).toArray 3)
  rw [lg_entry_eq]
  generalize (lg_sl ([.ref (ad 0), .int a1, .int a2]) ++ List.replicate (3 - (lg_sl ([.ref (ad 0), .int a1, .int a2])).length) Slot.unset).toArray = ls at hl ⊢
  have hl : lv_has ls 3 [(0, .ref (ad 0)), (1, .int a1), (2, .int a2)] := hl
  have main : ∀ (H : Heap) (locs : List Loc) (ls : Array Slot), fx_P D cy LM ad σ H → va_S A s.heap H locs → lv_has ls 3 [(0, .ref (ad 0)), (1, .int a1), (2, .int a2)] → W p l e (fx_R (0)) s m args below meth c H locs 0 0 (fx_Qv D cy LM ad A below args s σ') (F0 m 0 ls []) := by
    intro H locs ls hP hS hl
    refine lv_aload_n hx hb dX12_joins_0 rfl (lv_at hl 0 rfl) ?_
    refine gf_X12_108 (v := .ref (ad 33)) hC hP kM_0 rfl dX12_joins_1 ?_
    refine lv_iconst hx hb dX12_joins_4 ki_3 ?_
    refine lv_iload_n hx hb dX12_joins_5 rfl (lv_at hl 1 rfl) ?_
    refine lv_iadd hx hb dX12_joins_6 ?_
    refine lv_iconst hx hb dX12_joins_7 ki_0 ?_
    obtain ⟨h1, hf⟩ := fxG_e hf
    obtain ⟨σ2, eσ2, hf⟩ := fxL_e hf
    refine fx_iast hC hP hS kM_33 (fx_inp h1) dX12_joins_8 (fun H locs hP hS => ?_)
    replace hP := fx_Pe eσ2 hP
    refine lv_aload_n hx hb dX12_joins_9 rfl (lv_at hl 0 rfl) ?_
    refine gf_X12_108 (v := .ref (ad 33)) hC hP kM_0 rfl dX12_joins_10 ?_
    refine lv_iconst hx hb dX12_joins_13 ki_3 ?_
    refine lv_iload_n hx hb dX12_joins_14 rfl (lv_at hl 2 rfl) ?_
    refine lv_iadd hx hb dX12_joins_15 ?_
    refine lv_iconst hx hb dX12_joins_16 ki_0 ?_
    obtain ⟨h3, hf⟩ := fxG_e hf
    obtain ⟨σ4, eσ4, hf⟩ := fxL_e hf
    refine fx_iast hC hP hS kM_33 (fx_inp h3) dX12_joins_17 (fun H locs hP hS => ?_)
    replace hP := fx_Pe eσ4 hP
    refine lv_aload_n hx hb dX12_joins_18 rfl (lv_at hl 0 rfl) ?_
    refine gf_X12_108 (v := .ref (ad 33)) hC hP kM_0 rfl dX12_joins_19 ?_
    refine lv_iconst hx hb dX12_joins_22 ki_1 ?_
    refine lv_dup2_11 hx hb dX12_joins_23 rfl rfl ?_
    obtain ⟨h5, hf⟩ := fxG_e hf
    refine fx_iald hC hP kM_33 (fx_inp h5) dX12_joins_24 ?_
    refine lv_bipush hx hb dX12_joins_25 kb_10 ?_
    refine lv_aload_n hx hb dX12_joins_27 rfl (lv_at hl 0 rfl) ?_
    refine gf_X12_13 (v := .ref (ad 2)) hC hP kM_0 rfl dX12_joins_28 ?_
    refine lv_iconst hx hb dX12_joins_31 ki_2 ?_
    obtain ⟨h6, hf⟩ := fxG_e hf
    refine fx_iald hC hP kM_2 (fx_inp h6) dX12_joins_32 ?_
    refine lv_imul hx hb dX12_joins_33 ?_
    refine lv_iadd hx hb dX12_joins_34 ?_
    obtain ⟨h7, hf⟩ := fxG_e hf
    obtain ⟨σ8, eσ8, hf⟩ := fxL_e hf
    refine fx_iast hC hP hS kM_33 (fx_inp h7) dX12_joins_35 (fun H locs hP hS => ?_)
    replace hP := fx_Pe eσ8 hP
    refine lv_aload_n hx hb dX12_joins_36 rfl (lv_at hl 0 rfl) ?_
    refine gf_X12_108 (v := .ref (ad 33)) hC hP kM_0 rfl dX12_joins_37 ?_
    refine lv_iconst hx hb dX12_joins_40 ki_2 ?_
    refine lv_dup2_11 hx hb dX12_joins_41 rfl rfl ?_
    obtain ⟨h9, hf⟩ := fxG_e hf
    refine fx_iald hC hP kM_33 (fx_inp h9) dX12_joins_42 ?_
    refine lv_iconst hx hb dX12_joins_43 ki_1 ?_
    refine lv_iadd hx hb dX12_joins_44 ?_
    obtain ⟨h10, hf⟩ := fxG_e hf
    obtain ⟨σ11, eσ11, hf⟩ := fxL_e hf
    refine fx_iast hC hP hS kM_33 (fx_inp h10) dX12_joins_45 (fun H locs hP hS => ?_)
    replace hP := fx_Pe eσ11 hP
    exact fx_vretf hf hC hr hk hP hS dX12_joins_46
  exact main _ _ _ hP hS hl

set_option maxHeartbeats 4000000 in
set_option maxRecDepth 100000 in
theorem ctX12_canLend (l : Launch) {a1 : Int32} {a2 : Int32} {a3 : Int32} {σ : FH} {v : Int32} (hf : fX12_canLend a1 a2 a3 σ = some v) : fx_Mi l yX12_canLend cX12_canLend 4 (some .boolean) (0) LM (fun ad ec => [.ref (ad 0), .int a1, .int a2, .int a3]) σ v σ := by
  unfold fX12_canLend at hf
  refine fx_mi' (own := RX12) rfl (by decide +kernel) ?_
  intro p e s m args below meth c D cy ad ec A hC hr hk hP hS
  have hx := hC.1
  have hb := hC.2.1
  have hl := lv_entry ([.ref (ad 0), .int a1, .int a2, .int a3]) (n := 4) (Nat.le_of_ble_eq_true rfl)
  show W _ _ _ _ _ _ _ _ _ _ _ _ _ _ _ (entryFrame m ([.ref (ad 0), .int a1, .int a2, .int a3] : List Value).toArray 4)
  rw [lg_entry_eq]
  generalize (lg_sl ([.ref (ad 0), .int a1, .int a2, .int a3]) ++ List.replicate (4 - (lg_sl ([.ref (ad 0), .int a1, .int a2, .int a3])).length) Slot.unset).toArray = ls at hl ⊢
  have hl : lv_has ls 4 [(0, .ref (ad 0)), (1, .int a1), (2, .int a2), (3, .int a3)] := hl
  have main : ∀ (H : Heap) (locs : List Loc) (ls : Array Slot), fx_P D cy LM ad σ H → va_S A s.heap H locs → lv_has ls 4 [(0, .ref (ad 0)), (1, .int a1), (2, .int a2), (3, .int a3)] → W p l e (fx_R (0)) s m args below meth c H locs 0 0 (fx_Qi D cy LM ad A below args s v σ) (F0 m 0 ls []) := by
    intro H locs ls hP hS hl
    refine lv_iload_n hx hb dX12_canLend_0 rfl (lv_at hl 1 rfl) ?_
    refine lv_iload_n hx hb dX12_canLend_1 rfl (lv_at hl 2 rfl) ?_
    refine lv_icmp_eq (tgt := 38) hx hb dX12_canLend_2 (by decide) (fun c1 => ?_) (fun c1 => ?_)
    · replace hf := fx_it c1 hf
      refine lv_iconst hx hb dX12_canLend_38 ki_0 ?_
      exact fx_zretp rfl hf hC hr hk hP hS dX12_canLend_39
    · replace hf := fx_ie c1 hf
      refine lv_aload_n hx hb dX12_canLend_5 rfl (lv_at hl 0 rfl) ?_
      refine gf_X12_108 (v := .ref (ad 33)) hC hP kM_0 rfl dX12_canLend_6 ?_
      refine lv_bipush hx hb dX12_canLend_9 kb_9 ?_
      refine lv_iload_n hx hb dX12_canLend_11 rfl (lv_at hl 1 rfl) ?_
      refine lv_iadd hx hb dX12_canLend_12 ?_
      obtain ⟨h2, hf⟩ := fxG_e hf
      refine fx_iald hC hP kM_33 (fx_inp h2) dX12_canLend_13 ?_
      refine lv_iload_n hx hb dX12_canLend_14 rfl (lv_at hl 3 rfl) ?_
      refine lv_icmp_lt (tgt := 38) hx hb dX12_canLend_15 (by decide) (fun c3 => ?_) (fun c3 => ?_)
      · replace hf := fx_it c3 hf
        refine lv_iconst hx hb dX12_canLend_38 ki_0 ?_
        exact fx_zretp rfl hf hC hr hk hP hS dX12_canLend_39
      · replace hf := fx_ie c3 hf
        refine lv_aload_n hx hb dX12_canLend_18 rfl (lv_at hl 0 rfl) ?_
        refine gf_X12_108 (v := .ref (ad 33)) hC hP kM_0 rfl dX12_canLend_19 ?_
        refine lv_bipush hx hb dX12_canLend_22 kb_9 ?_
        refine lv_iload_n hx hb dX12_canLend_24 rfl (lv_at hl 2 rfl) ?_
        refine lv_iadd hx hb dX12_canLend_25 ?_
        obtain ⟨h4, hf⟩ := fxG_e hf
        refine fx_iald hC hP kM_33 (fx_inp h4) dX12_canLend_26 ?_
        refine lv_iload_n hx hb dX12_canLend_27 rfl (lv_at hl 3 rfl) ?_
        refine lv_iadd hx hb dX12_canLend_28 ?_
        refine lv_bipush hx hb dX12_canLend_29 kb_99 ?_
        refine lv_icmp_gt (tgt := 38) hx hb dX12_canLend_31 (by decide) (fun c5 => ?_) (fun c5 => ?_)
        · replace hf := fx_it c5 hf
          refine lv_iconst hx hb dX12_canLend_38 ki_0 ?_
          exact fx_zretp rfl hf hC hr hk hP hS dX12_canLend_39
        · replace hf := fx_ie c5 hf
          refine lv_iconst hx hb dX12_canLend_34 ki_1 ?_
          refine lv_goto (tgt := 39) hx hb dX12_canLend_35 (by decide) ?_
          exact fx_zretp rfl hf hC hr hk hP hS dX12_canLend_39
  exact main _ _ _ hP hS hl

set_option maxHeartbeats 4000000 in
set_option maxRecDepth 100000 in
theorem ctX12_lends (l : Launch) {a1 : Int32} {a2 : Int32} {a3 : Int32} {σ σ' : FH} (hf : fX12_lends a1 a2 a3 σ = some σ') : fx_Mv l yX12_lends cX12_lends 4 none (0) LM (fun ad ec => [.ref (ad 0), .int a1, .int a2, .int a3]) σ σ' := by
  unfold fX12_lends at hf
  refine fx_mv' (own := RX12) rfl (by decide +kernel) ?_
  intro p e s m args below meth c D cy ad ec A hC hr hk hP hS
  have hx := hC.1
  have hb := hC.2.1
  have hl := lv_entry ([.ref (ad 0), .int a1, .int a2, .int a3]) (n := 4) (Nat.le_of_ble_eq_true rfl)
  show W _ _ _ _ _ _ _ _ _ _ _ _ _ _ _ (entryFrame m ([.ref (ad 0), .int a1, .int a2, .int a3] : List Value).toArray 4)
  rw [lg_entry_eq]
  generalize (lg_sl ([.ref (ad 0), .int a1, .int a2, .int a3]) ++ List.replicate (4 - (lg_sl ([.ref (ad 0), .int a1, .int a2, .int a3])).length) Slot.unset).toArray = ls at hl ⊢
  have hl : lv_has ls 4 [(0, .ref (ad 0)), (1, .int a1), (2, .int a2), (3, .int a3)] := hl
  have main : ∀ (H : Heap) (locs : List Loc) (ls : Array Slot), fx_P D cy LM ad σ H → va_S A s.heap H locs → lv_has ls 4 [(0, .ref (ad 0)), (1, .int a1), (2, .int a2), (3, .int a3)] → W p l e (fx_R (0)) s m args below meth c H locs 0 0 (fx_Qv D cy LM ad A below args s σ') (F0 m 0 ls []) := by
    intro H locs ls hP hS hl
    refine lv_aload_n hx hb dX12_lends_0 rfl (lv_at hl 0 rfl) ?_
    refine gf_X12_108 (v := .ref (ad 33)) hC hP kM_0 rfl dX12_lends_1 ?_
    refine lv_bipush hx hb dX12_lends_4 kb_9 ?_
    refine lv_iload_n hx hb dX12_lends_6 rfl (lv_at hl 1 rfl) ?_
    refine lv_iadd hx hb dX12_lends_7 ?_
    refine lv_dup2_11 hx hb dX12_lends_8 rfl rfl ?_
    obtain ⟨h1, hf⟩ := fxG_e hf
    refine fx_iald hC hP kM_33 (fx_inp h1) dX12_lends_9 ?_
    refine lv_iload_n hx hb dX12_lends_10 rfl (lv_at hl 3 rfl) ?_
    refine lv_isub hx hb dX12_lends_11 ?_
    obtain ⟨h2, hf⟩ := fxG_e hf
    obtain ⟨σ3, eσ3, hf⟩ := fxL_e hf
    refine fx_iast hC hP hS kM_33 (fx_inp h2) dX12_lends_12 (fun H locs hP hS => ?_)
    replace hP := fx_Pe eσ3 hP
    refine lv_aload_n hx hb dX12_lends_13 rfl (lv_at hl 0 rfl) ?_
    refine gf_X12_108 (v := .ref (ad 33)) hC hP kM_0 rfl dX12_lends_14 ?_
    refine lv_bipush hx hb dX12_lends_17 kb_9 ?_
    refine lv_iload_n hx hb dX12_lends_19 rfl (lv_at hl 2 rfl) ?_
    refine lv_iadd hx hb dX12_lends_20 ?_
    refine lv_dup2_11 hx hb dX12_lends_21 rfl rfl ?_
    obtain ⟨h4, hf⟩ := fxG_e hf
    refine fx_iald hC hP kM_33 (fx_inp h4) dX12_lends_22 ?_
    refine lv_iload_n hx hb dX12_lends_23 rfl (lv_at hl 3 rfl) ?_
    refine lv_iadd hx hb dX12_lends_24 ?_
    obtain ⟨h5, hf⟩ := fxG_e hf
    obtain ⟨σ6, eσ6, hf⟩ := fxL_e hf
    refine fx_iast hC hP hS kM_33 (fx_inp h5) dX12_lends_25 (fun H locs hP hS => ?_)
    replace hP := fx_Pe eσ6 hP
    exact fx_vretf hf hC hr hk hP hS dX12_lends_26
  exact main _ _ _ hP hS hl

set_option maxHeartbeats 4000000 in
set_option maxRecDepth 100000 in
theorem ctX12_carriedOf (l : Launch) {a1 : Int32} {σ : FH} {v : Int32} (hf : fX12_carriedOf a1 σ = some v) : fx_Mi l yX12_carriedOf cX12_carriedOf 4 (some .int) (2) LM (fun ad ec => [.ref (ad 0), .int a1]) σ v σ := by
  unfold fX12_carriedOf at hf
  refine fx_mi' (own := RX12) rfl (by decide +kernel) ?_
  intro p e s m args below meth c D cy ad ec A hC hr hk hP hS
  have hx := hC.1
  have hb := hC.2.1
  have hl := lv_entry ([.ref (ad 0), .int a1]) (n := 4) (Nat.le_of_ble_eq_true rfl)
  show W _ _ _ _ _ _ _ _ _ _ _ _ _ _ _ (entryFrame m ([.ref (ad 0), .int a1] : List Value).toArray 4)
  rw [lg_entry_eq]
  generalize (lg_sl ([.ref (ad 0), .int a1]) ++ List.replicate (4 - (lg_sl ([.ref (ad 0), .int a1])).length) Slot.unset).toArray = ls at hl ⊢
  have hl : lv_has ls 4 [(0, .ref (ad 0)), (1, .int a1)] := hl
  have main : ∀ (H : Heap) (locs : List Loc) (ls : Array Slot), fx_P D cy LM ad σ H → va_S A s.heap H locs → lv_has ls 4 [(0, .ref (ad 0)), (1, .int a1)] → W p l e (fx_R (2)) s m args below meth c H locs 0 0 (fx_Qi D cy LM ad A below args s v σ) (F0 m 0 ls []) := by
    intro H locs ls hP hS hl
    refine lv_iconst hx hb dX12_carriedOf_0 ki_2 ?_
    refine lv_aload_n hx hb dX12_carriedOf_1 rfl (lv_at hl 0 rfl) ?_
    refine lv_iload_n hx hb dX12_carriedOf_2 rfl (lv_at hl 1 rfl) ?_
    obtain ⟨r2, hc1, hf⟩ := fxBP_e hf
    refine fx_ci hC hS (fx_runV (i := 0) (As := [.int a1]) (rest := [.int 2]) hC hP hS (ctX12_votesOf l hc1 D cy ad ec _) kM_0 (by decide) rfl kMV_X12_370 kC_X12_votesOf hd_X12_votesOf rfl ⟨(Nat.le_of_ble_eq_true rfl), (Nat.le_of_ble_eq_true rfl)⟩ ⟨Nat.le_refl 0, Nat.le_refl 0⟩ hl.1 (Nat.le_of_ble_eq_true rfl) rfl dX12_carriedOf_3) (fun H locs hP hS => ?_)
    refine lv_imul hx hb dX12_carriedOf_6 ?_
    obtain ⟨v4, ev4, hf⟩ := fxL_e hf
    refine fx_ti ev4 ?_
    refine lv_istore_n (lv' := [(2, .int v4), (0, .ref (ad 0)), (1, .int a1)]) hx hb dX12_carriedOf_7 rfl hl (by decide) rfl (fun ls hl => ?_)
    refine lv_aload_n hx hb dX12_carriedOf_8 rfl (lv_at hl 1 rfl) ?_
    obtain ⟨r6, hc5, hf⟩ := fxBP_e hf
    refine fx_ci hC hS (fx_runV (i := 0) (As := []) (rest := []) hC hP hS (ctX12_allSeats l hc5 D cy ad ec _) kM_0 (by decide) rfl kMV_X12_389 kC_X12_allSeats hd_X12_allSeats rfl ⟨(Nat.le_of_ble_eq_true rfl), (Nat.le_of_ble_eq_true rfl)⟩ ⟨Nat.le_refl 0, Nat.le_refl 0⟩ hl.1 (Nat.le_of_ble_eq_true rfl) rfl dX12_carriedOf_9) (fun H locs hP hS => ?_)
    refine lv_istore_n (lv' := [(3, .int r6), (2, .int v4), (0, .ref (ad 0)), (1, .int a1)]) hx hb dX12_carriedOf_12 rfl hl (by decide) rfl (fun ls hl => ?_)
    refine lv_iload_n hx hb dX12_carriedOf_13 rfl (lv_at hl 1 rfl) ?_
    refine lv_iload_n hx hb dX12_carriedOf_14 rfl (lv_at hl 0 rfl) ?_
    obtain ⟨v8, ev8, hf⟩ := fxL_e hf
    have j_v8 : ∀ (z9 : Int32), z9 = ((if v4 ≤ r6 then (if v4 = r6 then (if r6 ≤ 0 then 0 else 1) else 0) else 2) : Int32) → ∀ (ls : Array Slot), lv_has ls 4 [] → W p l e (fx_R (2)) s m args below meth c H locs 0 0 (fx_Qi D cy LM ad A below args s v σ) (F0 m 36 ls [.int z9]) := by
      intro z9 hz9 ls hl
      obtain rfl : v8 = z9 := ev8.trans hz9.symm
      exact fx_iretp hf hC hr hk hP hS dX12_carriedOf_36
    refine lv_icmp_le (tgt := 22) hx hb dX12_carriedOf_15 (by decide) (fun c10 => ?_) (fun c10 => ?_)
    · refine lv_iload_n hx hb dX12_carriedOf_22 rfl (lv_at hl 1 rfl) ?_
      refine lv_iload_n hx hb dX12_carriedOf_23 rfl (lv_at hl 0 rfl) ?_
      refine lv_icmp_ne (tgt := 35) hx hb dX12_carriedOf_24 (by decide) (fun c11 => ?_) (fun c11 => ?_)
      · refine lv_iconst hx hb dX12_carriedOf_35 ki_0 ?_
        exact j_v8 0 ((if_pos c10).trans (if_neg c11)).symm ls (lv_sub hl [] rfl)
      · refine lv_iload_n hx hb dX12_carriedOf_27 rfl (lv_at hl 0 rfl) ?_
        refine lv_if_le (tgt := 35) hx hb dX12_carriedOf_28 (by decide) (fun c12 => ?_) (fun c12 => ?_)
        · refine lv_iconst hx hb dX12_carriedOf_35 ki_0 ?_
          exact j_v8 0 (((if_pos c10).trans (if_pos c11)).trans (if_pos c12)).symm ls (lv_sub hl [] rfl)
        · refine lv_iconst hx hb dX12_carriedOf_31 ki_1 ?_
          refine lv_goto (tgt := 36) hx hb dX12_carriedOf_32 (by decide) ?_
          exact j_v8 1 (((if_pos c10).trans (if_pos c11)).trans (if_neg c12)).symm ls (lv_sub hl [] rfl)
    · refine lv_iconst hx hb dX12_carriedOf_18 ki_2 ?_
      refine lv_goto (tgt := 36) hx hb dX12_carriedOf_19 (by decide) ?_
      exact j_v8 2 (if_neg c10).symm ls (lv_sub hl [] rfl)
  exact main _ _ _ hP hS hl

set_option maxHeartbeats 4000000 in
set_option maxRecDepth 100000 in
theorem ctX12_ware (l : Launch) {a1 : Int32} {a2 : Int32} {σ σ' : FH} {v : Int32} (hf : fX12_ware a1 a2 σ = some (v, σ')) : fx_Mi l yX12_ware cX12_ware 3 (some .int) (3) LM (fun ad ec => [.ref (ad 0), .int a1, .int a2]) σ v σ' := by
  unfold fX12_ware at hf
  refine fx_mi' (own := RX12) rfl (by decide +kernel) ?_
  intro p e s m args below meth c D cy ad ec A hC hr hk hP hS
  have hx := hC.1
  have hb := hC.2.1
  have hl := lv_entry ([.ref (ad 0), .int a1, .int a2]) (n := 3) (Nat.le_of_ble_eq_true rfl)
  show W _ _ _ _ _ _ _ _ _ _ _ _ _ _ _ (entryFrame m ([.ref (ad 0), .int a1, .int a2] : List Value).toArray 3)
  rw [lg_entry_eq]
  generalize (lg_sl ([.ref (ad 0), .int a1, .int a2]) ++ List.replicate (3 - (lg_sl ([.ref (ad 0), .int a1, .int a2])).length) Slot.unset).toArray = ls at hl ⊢
  have hl : lv_has ls 3 [(0, .ref (ad 0)), (1, .int a1), (2, .int a2)] := hl
  have main : ∀ (H : Heap) (locs : List Loc) (ls : Array Slot), fx_P D cy LM ad σ H → va_S A s.heap H locs → lv_has ls 3 [(0, .ref (ad 0)), (1, .int a1), (2, .int a2)] → W p l e (fx_R (3)) s m args below meth c H locs 0 0 (fx_Qi D cy LM ad A below args s v σ') (F0 m 0 ls []) := by
    intro H locs ls hP hS hl
    refine lv_aload_n hx hb dX12_ware_0 rfl (lv_at hl 0 rfl) ?_
    refine lv_iconst hx hb dX12_ware_1 ki_0 ?_
    obtain ⟨σ1, eσ1, hf⟩ := fxL_e hf
    refine pf_X12_133 hC hP hS kM_0 dX12_ware_2 (fun H locs hP hS => ?_)
    replace hP := fx_Pe eσ1 hP
    refine lv_aload_n hx hb dX12_ware_5 rfl (lv_at hl 0 rfl) ?_
    refine lv_iload_n hx hb dX12_ware_6 rfl (lv_at hl 1 rfl) ?_
    obtain ⟨r3, hc2, hf⟩ := fxBP_e hf
    refine fx_ci hC hS (fx_runV (i := 0) (As := [.int a1]) (rest := []) hC hP hS (ctX12_isWare l hc2 D cy ad ec _) kM_0 (by decide) rfl kMV_X12_392 kC_X12_isWare hd_X12_isWare rfl ⟨(Nat.le_of_ble_eq_true rfl), (Nat.le_of_ble_eq_true rfl)⟩ ⟨Nat.le_refl 0, Nat.le_refl 0⟩ hl.1 (Nat.le_of_ble_eq_true rfl) rfl dX12_ware_7) (fun H locs hP hS => ?_)
    refine lv_if_eq (tgt := 22) hx hb dX12_ware_10 (by decide) (fun c5 => ?_) (fun c5 => ?_)
    · replace hf := fx_it c5 hf
      refine lv_iconst hx hb dX12_ware_22 ki_m1 ?_
      exact fx_iretf hf hC hr hk hP hS dX12_ware_23
    · replace hf := fx_ie c5 hf
      refine lv_iload_n hx hb dX12_ware_13 rfl (lv_at hl 2 rfl) ?_
      refine lv_iconst hx hb dX12_ware_14 ki_0 ?_
      refine lv_iconst hx hb dX12_ware_15 ki_5 ?_
      obtain ⟨r7, hc6, hf⟩ := fxBP_e hf
      refine fx_ci hC hS (fx_runS (As := [.int a2, .int 0, .int 5]) (rest := []) hC hP hS (ctX12_within l hc6 D cy ad ec _) kMS_X12_253 kC_X12_within hd_X12_within.2 rfl ⟨(Nat.le_of_ble_eq_true rfl), (Nat.le_of_ble_eq_true rfl)⟩ ⟨Nat.le_refl 0, Nat.le_refl 0⟩ hl.1 (Nat.le_of_ble_eq_true rfl) rfl dX12_ware_16) (fun H locs hP hS => ?_)
      refine lv_if_ne (tgt := 24) hx hb dX12_ware_19 (by decide) (fun c9 => ?_) (fun c9 => ?_)
      · replace hf := fx_ie c9 hf
        refine lv_iload_n hx hb dX12_ware_24 rfl (lv_at hl 2 rfl) ?_
        refine lv_iconst hx hb dX12_ware_25 ki_3 ?_
        refine lv_icmp_ge (tgt := 65) hx hb dX12_ware_26 (by decide) (fun c10 => ?_) (fun c10 => ?_)
        · replace hf := fx_it c10 hf
          refine lv_iload_n hx hb dX12_ware_65 rfl (lv_at hl 2 rfl) ?_
          refine lv_iconst hx hb dX12_ware_66 ki_3 ?_
          refine lv_icmp_ne (tgt := 78) hx hb dX12_ware_67 (by decide) (fun c11 => ?_) (fun c11 => ?_)
          · replace hf := fx_ie c11 hf
            refine lv_iload_n hx hb dX12_ware_78 rfl (lv_at hl 2 rfl) ?_
            refine lv_iconst hx hb dX12_ware_79 ki_4 ?_
            refine lv_icmp_ne (tgt := 91) hx hb dX12_ware_80 (by decide) (fun c12 => ?_) (fun c12 => ?_)
            · replace hf := fx_ie c12 hf
              refine lv_aload_n hx hb dX12_ware_91 rfl (lv_at hl 0 rfl) ?_
              refine lv_iload_n hx hb dX12_ware_92 rfl (lv_at hl 1 rfl) ?_
              obtain ⟨r14, hc13, hf⟩ := fxBP_e hf
              refine fx_ci hC hS (fx_runV (i := 0) (As := [.int a1]) (rest := []) hC hP hS (ctX12_carriedOf l hc13 D cy ad ec _) kM_0 (by decide) rfl kMV_X12_395 kC_X12_carriedOf hd_X12_carriedOf rfl ⟨(Nat.le_of_ble_eq_true rfl), (Nat.le_of_ble_eq_true rfl)⟩ ⟨Nat.le_refl 0, Nat.le_refl 0⟩ hl.1 (Nat.le_of_ble_eq_true rfl) rfl dX12_ware_93) (fun H locs hP hS => ?_)
              exact fx_iretf hf hC hr hk hP hS dX12_ware_96
            · replace hf := fx_it c12 hf
              refine lv_aload_n hx hb dX12_ware_83 rfl (lv_at hl 0 rfl) ?_
              refine lv_iload_n hx hb dX12_ware_84 rfl (lv_at hl 1 rfl) ?_
              obtain ⟨r17, hc16, hf⟩ := fxBP_e hf
              refine fx_ci hC hS (fx_runV (i := 0) (As := [.int a1]) (rest := []) hC hP hS (ctX12_votesOf l hc16 D cy ad ec _) kM_0 (by decide) rfl kMV_X12_370 kC_X12_votesOf hd_X12_votesOf rfl ⟨(Nat.le_of_ble_eq_true rfl), (Nat.le_of_ble_eq_true rfl)⟩ ⟨Nat.le_refl 0, Nat.le_refl 0⟩ hl.1 (Nat.le_of_ble_eq_true rfl) rfl dX12_ware_85) (fun H locs hP hS => ?_)
              refine lv_goto (tgt := 96) hx hb dX12_ware_88 (by decide) ?_
              exact fx_iretf hf hC hr hk hP hS dX12_ware_96
          · replace hf := fx_it c11 hf
            refine lv_aload_n hx hb dX12_ware_70 rfl (lv_at hl 0 rfl) ?_
            refine lv_iload_n hx hb dX12_ware_71 rfl (lv_at hl 1 rfl) ?_
            obtain ⟨r20, hc19, hf⟩ := fxBP_e hf
            refine fx_ci hC hS (fx_runV (i := 0) (As := [.int a1]) (rest := []) hC hP hS (ctX12_halfOf l hc19 D cy ad ec _) kM_0 (by decide) rfl kMV_X12_351 kC_X12_halfOf hd_X12_halfOf rfl ⟨(Nat.le_of_ble_eq_true rfl), (Nat.le_of_ble_eq_true rfl)⟩ ⟨Nat.le_refl 0, Nat.le_refl 0⟩ hl.1 (Nat.le_of_ble_eq_true rfl) rfl dX12_ware_72) (fun H locs hP hS => ?_)
            refine lv_goto (tgt := 96) hx hb dX12_ware_75 (by decide) ?_
            exact fx_iretf hf hC hr hk hP hS dX12_ware_96
        · replace hf := fx_ie c10 hf
          refine lv_iload_n hx hb dX12_ware_29 rfl (lv_at hl 2 rfl) ?_
          refine lv_if_ne (tgt := 42) hx hb dX12_ware_30 (by decide) (fun c22 => ?_) (fun c22 => ?_)
          · replace hf := fx_ie c22 hf
            refine lv_iload_n hx hb dX12_ware_42 rfl (lv_at hl 2 rfl) ?_
            refine lv_iconst hx hb dX12_ware_43 ki_1 ?_
            refine lv_icmp_ne (tgt := 56) hx hb dX12_ware_44 (by decide) (fun c23 => ?_) (fun c23 => ?_)
            · replace hf := fx_ie c23 hf
              refine lv_aload_n hx hb dX12_ware_56 rfl (lv_at hl 0 rfl) ?_
              refine gf_X12_108 (v := .ref (ad 33)) hC hP kM_0 rfl dX12_ware_57 ?_
              refine lv_iconst hx hb dX12_ware_60 ki_3 ?_
              refine lv_iload_n hx hb dX12_ware_61 rfl (lv_at hl 1 rfl) ?_
              refine lv_iadd hx hb dX12_ware_62 ?_
              obtain ⟨h24, hf⟩ := fxG_e hf
              refine fx_iald hC hP kM_33 (fx_inp h24) dX12_ware_63 ?_
              exact fx_iretf hf hC hr hk hP hS dX12_ware_64
            · replace hf := fx_it c23 hf
              refine lv_aload_n hx hb dX12_ware_47 rfl (lv_at hl 0 rfl) ?_
              refine gf_X12_26 (v := .ref (ad 6)) hC hP kM_0 rfl dX12_ware_48 ?_
              refine lv_iload_n hx hb dX12_ware_51 rfl (lv_at hl 1 rfl) ?_
              obtain ⟨h25, hf⟩ := fxG_e hf
              refine fx_iald hC hP kM_6 (fx_inp h25) dX12_ware_52 ?_
              refine lv_goto (tgt := 64) hx hb dX12_ware_53 (by decide) ?_
              exact fx_iretf hf hC hr hk hP hS dX12_ware_64
          · replace hf := fx_it c22 hf
            refine lv_aload_n hx hb dX12_ware_33 rfl (lv_at hl 0 rfl) ?_
            refine gf_X12_23 (v := .ref (ad 5)) hC hP kM_0 rfl dX12_ware_34 ?_
            refine lv_iload_n hx hb dX12_ware_37 rfl (lv_at hl 1 rfl) ?_
            obtain ⟨h26, hf⟩ := fxG_e hf
            refine fx_iald hC hP kM_5 (fx_inp h26) dX12_ware_38 ?_
            refine lv_goto (tgt := 64) hx hb dX12_ware_39 (by decide) ?_
            exact fx_iretf hf hC hr hk hP hS dX12_ware_64
      · replace hf := fx_it c9 hf
        refine lv_iconst hx hb dX12_ware_22 ki_m1 ?_
        exact fx_iretf hf hC hr hk hP hS dX12_ware_23
  exact main _ _ _ hP hS hl

set_option maxHeartbeats 4000000 in
set_option maxRecDepth 100000 in
theorem ctX12_party (l : Launch) {a1 : Int32} {a2 : Int32} {σ σ' : FH} {v : Int32} (hf : fX12_party a1 a2 σ = some (v, σ')) : fx_Mi l yX12_party cX12_party 3 (some .int) (1) LM (fun ad ec => [.ref (ad 0), .int a1, .int a2]) σ v σ' := by
  unfold fX12_party at hf
  refine fx_mi' (own := RX12) rfl (by decide +kernel) ?_
  intro p e s m args below meth c D cy ad ec A hC hr hk hP hS
  have hx := hC.1
  have hb := hC.2.1
  have hl := lv_entry ([.ref (ad 0), .int a1, .int a2]) (n := 3) (Nat.le_of_ble_eq_true rfl)
  show W _ _ _ _ _ _ _ _ _ _ _ _ _ _ _ (entryFrame m ([.ref (ad 0), .int a1, .int a2] : List Value).toArray 3)
  rw [lg_entry_eq]
  generalize (lg_sl ([.ref (ad 0), .int a1, .int a2]) ++ List.replicate (3 - (lg_sl ([.ref (ad 0), .int a1, .int a2])).length) Slot.unset).toArray = ls at hl ⊢
  have hl : lv_has ls 3 [(0, .ref (ad 0)), (1, .int a1), (2, .int a2)] := hl
  have main : ∀ (H : Heap) (locs : List Loc) (ls : Array Slot), fx_P D cy LM ad σ H → va_S A s.heap H locs → lv_has ls 3 [(0, .ref (ad 0)), (1, .int a1), (2, .int a2)] → W p l e (fx_R (1)) s m args below meth c H locs 0 0 (fx_Qi D cy LM ad A below args s v σ') (F0 m 0 ls []) := by
    intro H locs ls hP hS hl
    refine lv_aload_n hx hb dX12_party_0 rfl (lv_at hl 0 rfl) ?_
    refine lv_iconst hx hb dX12_party_1 ki_0 ?_
    obtain ⟨σ1, eσ1, hf⟩ := fxL_e hf
    refine pf_X12_133 hC hP hS kM_0 dX12_party_2 (fun H locs hP hS => ?_)
    replace hP := fx_Pe eσ1 hP
    refine lv_aload_n hx hb dX12_party_5 rfl (lv_at hl 0 rfl) ?_
    refine lv_iload_n hx hb dX12_party_6 rfl (lv_at hl 1 rfl) ?_
    obtain ⟨r3, hc2, hf⟩ := fxBP_e hf
    refine fx_ci hC hS (fx_runV (i := 0) (As := [.int a1]) (rest := []) hC hP hS (ctX12_isParty l hc2 D cy ad ec _) kM_0 (by decide) rfl kMV_X12_398 kC_X12_isParty hd_X12_isParty rfl ⟨(Nat.le_of_ble_eq_true rfl), (Nat.le_of_ble_eq_true rfl)⟩ ⟨Nat.le_refl 0, Nat.le_refl 0⟩ hl.1 (Nat.le_of_ble_eq_true rfl) rfl dX12_party_7) (fun H locs hP hS => ?_)
    refine lv_if_eq (tgt := 22) hx hb dX12_party_10 (by decide) (fun c5 => ?_) (fun c5 => ?_)
    · replace hf := fx_it c5 hf
      refine lv_iconst hx hb dX12_party_22 ki_m1 ?_
      exact fx_iretf hf hC hr hk hP hS dX12_party_23
    · replace hf := fx_ie c5 hf
      refine lv_iload_n hx hb dX12_party_13 rfl (lv_at hl 2 rfl) ?_
      refine lv_iconst hx hb dX12_party_14 ki_0 ?_
      refine lv_iconst hx hb dX12_party_15 ki_1 ?_
      obtain ⟨r7, hc6, hf⟩ := fxBP_e hf
      refine fx_ci hC hS (fx_runS (As := [.int a2, .int 0, .int 1]) (rest := []) hC hP hS (ctX12_within l hc6 D cy ad ec _) kMS_X12_253 kC_X12_within hd_X12_within.2 rfl ⟨(Nat.le_of_ble_eq_true rfl), (Nat.le_of_ble_eq_true rfl)⟩ ⟨Nat.le_refl 0, Nat.le_refl 0⟩ hl.1 (Nat.le_of_ble_eq_true rfl) rfl dX12_party_16) (fun H locs hP hS => ?_)
      refine lv_if_ne (tgt := 24) hx hb dX12_party_19 (by decide) (fun c9 => ?_) (fun c9 => ?_)
      · replace hf := fx_ie c9 hf
        refine lv_iload_n hx hb dX12_party_24 rfl (lv_at hl 2 rfl) ?_
        refine lv_if_ne (tgt := 40) hx hb dX12_party_25 (by decide) (fun c10 => ?_) (fun c10 => ?_)
        · replace hf := fx_ie c10 hf
          refine lv_aload_n hx hb dX12_party_40 rfl (lv_at hl 0 rfl) ?_
          refine gf_X12_35 (v := .ref (ad 9)) hC hP kM_0 rfl dX12_party_41 ?_
          refine lv_iload_n hx hb dX12_party_44 rfl (lv_at hl 1 rfl) ?_
          obtain ⟨h11, hf⟩ := fxG_e hf
          refine fx_iald hC hP kM_9 (fx_inp h11) dX12_party_45 ?_
          exact fx_iretf hf hC hr hk hP hS dX12_party_46
        · replace hf := fx_it c10 hf
          refine lv_aload_n hx hb dX12_party_28 rfl (lv_at hl 0 rfl) ?_
          refine gf_X12_108 (v := .ref (ad 33)) hC hP kM_0 rfl dX12_party_29 ?_
          refine lv_bipush hx hb dX12_party_32 kb_9 ?_
          refine lv_iload_n hx hb dX12_party_34 rfl (lv_at hl 1 rfl) ?_
          refine lv_iadd hx hb dX12_party_35 ?_
          obtain ⟨h12, hf⟩ := fxG_e hf
          refine fx_iald hC hP kM_33 (fx_inp h12) dX12_party_36 ?_
          refine lv_goto (tgt := 46) hx hb dX12_party_37 (by decide) ?_
          exact fx_iretf hf hC hr hk hP hS dX12_party_46
      · replace hf := fx_it c9 hf
        refine lv_iconst hx hb dX12_party_22 ki_m1 ?_
        exact fx_iretf hf hC hr hk hP hS dX12_party_23
  exact main _ _ _ hP hS hl

set_option maxHeartbeats 4000000 in
set_option maxRecDepth 100000 in
theorem ctX12_keeps (l : Launch) {σ σ' : FH} (hf : fX12_keeps σ = some σ') : fx_Mv l yX12_keeps cX12_keeps 2 none (1) LM (fun ad ec => [.ref (ad 0)]) σ σ' := by
  unfold fX12_keeps at hf
  refine fx_mv' (own := RX12) rfl (by decide +kernel) ?_
  intro p e s m args below meth c D cy ad ec A hC hr hk hP hS
  have hx := hC.1
  have hb := hC.2.1
  have hl := lv_entry ([.ref (ad 0)]) (n := 2) (Nat.le_of_ble_eq_true rfl)
  show W _ _ _ _ _ _ _ _ _ _ _ _ _ _ _ (entryFrame m ([.ref (ad 0)] : List Value).toArray 2)
  rw [lg_entry_eq]
  generalize (lg_sl ([.ref (ad 0)]) ++ List.replicate (2 - (lg_sl ([.ref (ad 0)])).length) Slot.unset).toArray = ls at hl ⊢
  have hl : lv_has ls 2 [(0, .ref (ad 0))] := hl
  have main : ∀ (H : Heap) (locs : List Loc) (ls : Array Slot), fx_P D cy LM ad σ H → va_S A s.heap H locs → lv_has ls 2 [(0, .ref (ad 0))] → W p l e (fx_R (1)) s m args below meth c H locs 0 0 (fx_Qv D cy LM ad A below args s σ') (F0 m 0 ls []) := by
    intro H locs ls hP hS hl
    refine lv_aload_n hx hb dX12_keeps_0 rfl (lv_at hl 0 rfl) ?_
    refine gf_X12_341 (v := .int (σ.1 0 51)) hC hP kM_0 rfl dX12_keeps_1 ?_
    refine lv_bipush hx hb dX12_keeps_4 kb_16 ?_
    obtain ⟨J1, hJ1, hf⟩ := fxL_e hf
    have j_J1 : ∀ (σ2 : FH) (H : Heap) (locs : List Loc) (ls : Array Slot), fx_P D cy LM ad σ2 H → va_S A s.heap H locs → lv_has ls 2 [(0, .ref (ad 0))] → J1 σ2 = some σ' → W p l e (fx_R (1)) s m args below meth c H locs 0 0 (fx_Qv D cy LM ad A below args s σ') (F0 m 49 ls []) := by
      intro σ2 H locs ls hP hS hl hf
      replace hf := fxk1 hJ1 hf
      refine lv_aload_n hx hb dX12_keeps_49 rfl (lv_at hl 0 rfl) ?_
      refine gf_X12_108 (v := .ref (ad 33)) hC hP kM_0 rfl dX12_keeps_50 ?_
      refine lv_iconst hx hb dX12_keeps_53 ki_0 ?_
      refine lv_aload_n hx hb dX12_keeps_54 rfl (lv_at hl 0 rfl) ?_
      refine gf_X12_120 (v := .ref (ad 37)) hC hP kM_0 rfl dX12_keeps_55 ?_
      refine lv_bipush hx hb dX12_keeps_58 kb_14 ?_
      refine lv_aload_n hx hb dX12_keeps_60 rfl (lv_at hl 0 rfl) ?_
      refine gf_X12_341 (v := .int (σ2.1 0 51)) hC hP kM_0 rfl dX12_keeps_61 ?_
      refine lv_imul hx hb dX12_keeps_64 ?_
      obtain ⟨σ5, hc3, hf⟩ := fxBV_e hf
      refine fx_cv hC hS (fx_runS (As := [.ref (ad 33), .int 0, .ref (ad 37), .int (14 * (σ2.1 0 51))]) (rest := []) hC hP hS (ctX12_copies l hc3 D cy ad ec _) kMS_X12_401 kC_X12_copies hd_X12_copies.2 rfl ⟨(Nat.le_of_ble_eq_true rfl), (Nat.le_of_ble_eq_true rfl)⟩ ⟨Nat.le_refl 0, Nat.le_refl 0⟩ hl.1 (Nat.le_of_ble_eq_true rfl) rfl dX12_keeps_65) (fun H locs hP hS => ?_)
      refine lv_aload_n hx hb dX12_keeps_68 rfl (lv_at hl 0 rfl) ?_
      refine lv_dup hx hb dX12_keeps_69 rfl ?_
      refine gf_X12_341 (v := .int (σ5.1 0 51)) hC hP kM_0 rfl dX12_keeps_70 ?_
      refine lv_iconst hx hb dX12_keeps_73 ki_1 ?_
      refine lv_iadd hx hb dX12_keeps_74 ?_
      obtain ⟨σ6, eσ6, hf⟩ := fxL_e hf
      refine pf_X12_341 hC hP hS kM_0 dX12_keeps_75 (fun H locs hP hS => ?_)
      replace hP := fx_Pe eσ6 hP
      exact fx_vretf hf hC hr hk hP hS dX12_keeps_78
    refine lv_icmp_ne (tgt := 49) hx hb dX12_keeps_6 (by decide) (fun c7 => ?_) (fun c7 => ?_)
    · replace hf := fx_ie c7 hf
      exact j_J1 σ _ _ _ hP hS (lv_sub hl [0] rfl) hf
    · replace hf := fx_it c7 hf
      refine lv_iconst hx hb dX12_keeps_9 ki_0 ?_
      refine lv_istore_n (lv' := [(1, .int 0), (0, .ref (ad 0))]) hx hb dX12_keeps_10 rfl hl (by decide) rfl (fun ls hl => ?_)
      obtain ⟨K8, hK8, hf⟩ := fxL_e hf
      have k_K8 : ∀ (σ9 : FH) (H : Heap) (locs : List Loc) (ls : Array Slot), fx_P D cy LM ad σ9 H → va_S A s.heap H locs → lv_has ls 2 [(0, .ref (ad 0))] → K8 σ9 = some σ' → W p l e (fx_R (1)) s m args below meth c H locs 0 0 (fx_Qv D cy LM ad A below args s σ') (F0 m 39 ls []) := by
        intro σ9 H locs ls hP hS hl hf
        replace hf := fxk1 hK8 hf
        refine lv_aload_n hx hb dX12_keeps_39 rfl (lv_at hl 0 rfl) ?_
        refine lv_dup hx hb dX12_keeps_40 rfl ?_
        refine gf_X12_341 (v := .int (σ9.1 0 51)) hC hP kM_0 rfl dX12_keeps_41 ?_
        refine lv_iconst hx hb dX12_keeps_44 ki_1 ?_
        refine lv_isub hx hb dX12_keeps_45 ?_
        obtain ⟨σ10, eσ10, hf⟩ := fxL_e hf
        refine pf_X12_341 hC hP hS kM_0 dX12_keeps_46 (fun H locs hP hS => ?_)
        replace hP := fx_Pe eσ10 hP
        exact j_J1 σ10 _ _ _ hP hS (lv_sub hl [0] rfl) hf
      have L19 : ∀ (n14 : Nat) (w11 : Int32) (σ12 : FH) (H : Heap) (locs : List Loc) (ls : Array Slot), fx_P D cy LM ad σ12 H → va_S A s.heap H locs → lv_has ls 2 [(0, .ref (ad 0)), (1, .int w11)] → fX12_keeps_11 K8 n14 w11 σ12 = some σ' → W p l e (fx_R (1)) s m args below meth c H locs 0 0 (fx_Qv D cy LM ad A below args s σ') (F0 m 11 ls []) := by
        intro n14
        induction n14 with
        | zero =>
          intro w11 σ12 H locs ls hP hS hl hf
          rw [fX12_keeps_11] at hf
          cases hf
        | succ n14 ih13 =>
          intro w11 σ12 H locs ls hP hS hl hf
          rw [fX12_keeps_11] at hf
          refine lv_iload_n hx hb dX12_keeps_11 rfl (lv_at hl 1 rfl) ?_
          refine lv_sipush hx hb dX12_keeps_12 ks_210 ?_
          refine lv_icmp_ge (tgt := 39) hx hb dX12_keeps_15 (by decide) (fun c15 => ?_) (fun c15 => ?_)
          · replace hf := fx_it c15 hf
            exact k_K8 σ12 _ _ _ hP hS (lv_sub hl [0] rfl) hf
          · replace hf := fx_ie c15 hf
            refine lv_aload_n hx hb dX12_keeps_18 rfl (lv_at hl 0 rfl) ?_
            refine gf_X12_120 (v := .ref (ad 37)) hC hP kM_0 rfl dX12_keeps_19 ?_
            refine lv_iload_n hx hb dX12_keeps_22 rfl (lv_at hl 1 rfl) ?_
            refine lv_aload_n hx hb dX12_keeps_23 rfl (lv_at hl 0 rfl) ?_
            refine gf_X12_120 (v := .ref (ad 37)) hC hP kM_0 rfl dX12_keeps_24 ?_
            refine lv_iload_n hx hb dX12_keeps_27 rfl (lv_at hl 1 rfl) ?_
            refine lv_bipush hx hb dX12_keeps_28 kb_14 ?_
            refine lv_iadd hx hb dX12_keeps_30 ?_
            obtain ⟨h16, hf⟩ := fxG_e hf
            refine fx_iald hC hP kM_37 (fx_inp h16) dX12_keeps_31 ?_
            obtain ⟨h17, hf⟩ := fxG_e hf
            obtain ⟨σ18, eσ18, hf⟩ := fxL_e hf
            refine fx_iast hC hP hS kM_37 (fx_inp h17) dX12_keeps_32 (fun H locs hP hS => ?_)
            replace hP := fx_Pe eσ18 hP
            refine lv_iinc (v := (w11 + 1)) (lv' := [(1, .int (w11 + 1)), (0, .ref (ad 0))]) hx hb dX12_keeps_33 hl (k := 1) rfl (congrArg (fun z => w11 + z) ki_1) (by decide) rfl (fun ls hl => ?_)
            refine lv_goto (tgt := 11) hx hb dX12_keeps_36 (by decide) ?_
            exact ih13 (w11 + 1) σ18 _ _ _ hP hS (lv_sub hl [1, 0] rfl) hf
      exact L19 FU 0 σ _ _ _ hP hS (lv_sub hl [1, 0] rfl) hf
  exact main _ _ _ hP hS hl

set_option maxHeartbeats 4000000 in
set_option maxRecDepth 100000 in
theorem ctX12_work (l : Launch) {a1 : Int32} {a2 : Int32} {σ σ' : FH} {v : Int32} (hf : fX12_work a1 a2 σ = some (v, σ')) : fx_Mi l yX12_work cX12_work 3 (some .int) (2) LM (fun ad ec => [.ref (ad 0), .int a1, .int a2]) σ v σ' := by
  unfold fX12_work at hf
  refine fx_mi' (own := RX12) rfl (by decide +kernel) ?_
  intro p e s m args below meth c D cy ad ec A hC hr hk hP hS
  have hx := hC.1
  have hb := hC.2.1
  have hl := lv_entry ([.ref (ad 0), .int a1, .int a2]) (n := 3) (Nat.le_of_ble_eq_true rfl)
  show W _ _ _ _ _ _ _ _ _ _ _ _ _ _ _ (entryFrame m ([.ref (ad 0), .int a1, .int a2] : List Value).toArray 3)
  rw [lg_entry_eq]
  generalize (lg_sl ([.ref (ad 0), .int a1, .int a2]) ++ List.replicate (3 - (lg_sl ([.ref (ad 0), .int a1, .int a2])).length) Slot.unset).toArray = ls at hl ⊢
  have hl : lv_has ls 3 [(0, .ref (ad 0)), (1, .int a1), (2, .int a2)] := hl
  have main : ∀ (H : Heap) (locs : List Loc) (ls : Array Slot), fx_P D cy LM ad σ H → va_S A s.heap H locs → lv_has ls 3 [(0, .ref (ad 0)), (1, .int a1), (2, .int a2)] → W p l e (fx_R (2)) s m args below meth c H locs 0 0 (fx_Qi D cy LM ad A below args s v σ') (F0 m 0 ls []) := by
    intro H locs ls hP hS hl
    refine lv_aload_n hx hb dX12_work_0 rfl (lv_at hl 0 rfl) ?_
    refine lv_iconst hx hb dX12_work_1 ki_0 ?_
    obtain ⟨σ1, eσ1, hf⟩ := fxL_e hf
    refine pf_X12_133 hC hP hS kM_0 dX12_work_2 (fun H locs hP hS => ?_)
    replace hP := fx_Pe eσ1 hP
    refine lv_aload_n hx hb dX12_work_5 rfl (lv_at hl 0 rfl) ?_
    refine lv_iload_n hx hb dX12_work_6 rfl (lv_at hl 1 rfl) ?_
    obtain ⟨r3, hc2, hf⟩ := fxBP_e hf
    refine fx_ci hC hS (fx_runV (i := 0) (As := [.int a1]) (rest := []) hC hP hS (ctX12_isWare l hc2 D cy ad ec _) kM_0 (by decide) rfl kMV_X12_392 kC_X12_isWare hd_X12_isWare rfl ⟨(Nat.le_of_ble_eq_true rfl), (Nat.le_of_ble_eq_true rfl)⟩ ⟨Nat.le_refl 0, Nat.le_refl 0⟩ hl.1 (Nat.le_of_ble_eq_true rfl) rfl dX12_work_7) (fun H locs hP hS => ?_)
    refine lv_if_eq (tgt := 23) hx hb dX12_work_10 (by decide) (fun c5 => ?_) (fun c5 => ?_)
    · replace hf := fx_it c5 hf
      refine lv_iconst hx hb dX12_work_23 ki_m1 ?_
      exact fx_iretf hf hC hr hk hP hS dX12_work_24
    · replace hf := fx_ie c5 hf
      refine lv_iload_n hx hb dX12_work_13 rfl (lv_at hl 2 rfl) ?_
      refine lv_iconst hx hb dX12_work_14 ki_1 ?_
      refine lv_bipush hx hb dX12_work_15 kb_20 ?_
      obtain ⟨r7, hc6, hf⟩ := fxBP_e hf
      refine fx_ci hC hS (fx_runS (As := [.int a2, .int 1, .int 20]) (rest := []) hC hP hS (ctX12_within l hc6 D cy ad ec _) kMS_X12_253 kC_X12_within hd_X12_within.2 rfl ⟨(Nat.le_of_ble_eq_true rfl), (Nat.le_of_ble_eq_true rfl)⟩ ⟨Nat.le_refl 0, Nat.le_refl 0⟩ hl.1 (Nat.le_of_ble_eq_true rfl) rfl dX12_work_17) (fun H locs hP hS => ?_)
      refine lv_if_ne (tgt := 25) hx hb dX12_work_20 (by decide) (fun c9 => ?_) (fun c9 => ?_)
      · replace hf := fx_ie c9 hf
        refine lv_aload_n hx hb dX12_work_25 rfl (lv_at hl 0 rfl) ?_
        obtain ⟨σ12, hc10, hf⟩ := fxBV_e hf
        refine fx_cv hC hS (fx_runV (i := 0) (As := []) (rest := []) hC hP hS (ctX12_keeps l hc10 D cy ad ec _) kM_0 (by decide) rfl kMV_X12_405 kC_X12_keeps hd_X12_keeps rfl ⟨(Nat.le_of_ble_eq_true rfl), (Nat.le_of_ble_eq_true rfl)⟩ ⟨Nat.le_refl 0, Nat.le_refl 0⟩ hl.1 (Nat.le_of_ble_eq_true rfl) rfl dX12_work_26) (fun H locs hP hS => ?_)
        refine lv_aload_n hx hb dX12_work_29 rfl (lv_at hl 0 rfl) ?_
        refine lv_iload_n hx hb dX12_work_30 rfl (lv_at hl 1 rfl) ?_
        refine lv_iload_n hx hb dX12_work_31 rfl (lv_at hl 2 rfl) ?_
        obtain ⟨r14, σ15, hc13, hf⟩ := fxBI_e hf
        refine fx_ci hC hS (fx_runV (i := 0) (As := [.int a1, .int a2]) (rest := []) hC hP hS (ctX12_works l hc13 D cy ad ec _) kM_0 (by decide) rfl kMV_X12_377 kC_X12_works hd_X12_works rfl ⟨(Nat.le_of_ble_eq_true rfl), (Nat.le_of_ble_eq_true rfl)⟩ ⟨Nat.le_refl 0, Nat.le_refl 0⟩ hl.1 (Nat.le_of_ble_eq_true rfl) rfl dX12_work_32) (fun H locs hP hS => ?_)
        exact fx_iretf hf hC hr hk hP hS dX12_work_35
      · replace hf := fx_it c9 hf
        refine lv_iconst hx hb dX12_work_23 ki_m1 ?_
        exact fx_iretf hf hC hr hk hP hS dX12_work_24
  exact main _ _ _ hP hS hl

set_option maxHeartbeats 4000000 in
set_option maxRecDepth 100000 in
theorem ctX12_stop (l : Launch) {a1 : Int32} {a2 : Int32} {σ σ' : FH} {v : Int32} (hf : fX12_stop a1 a2 σ = some (v, σ')) : fx_Mi l yX12_stop cX12_stop 3 (some .int) (2) LM (fun ad ec => [.ref (ad 0), .int a1, .int a2]) σ v σ' := by
  unfold fX12_stop at hf
  refine fx_mi' (own := RX12) rfl (by decide +kernel) ?_
  intro p e s m args below meth c D cy ad ec A hC hr hk hP hS
  have hx := hC.1
  have hb := hC.2.1
  have hl := lv_entry ([.ref (ad 0), .int a1, .int a2]) (n := 3) (Nat.le_of_ble_eq_true rfl)
  show W _ _ _ _ _ _ _ _ _ _ _ _ _ _ _ (entryFrame m ([.ref (ad 0), .int a1, .int a2] : List Value).toArray 3)
  rw [lg_entry_eq]
  generalize (lg_sl ([.ref (ad 0), .int a1, .int a2]) ++ List.replicate (3 - (lg_sl ([.ref (ad 0), .int a1, .int a2])).length) Slot.unset).toArray = ls at hl ⊢
  have hl : lv_has ls 3 [(0, .ref (ad 0)), (1, .int a1), (2, .int a2)] := hl
  have main : ∀ (H : Heap) (locs : List Loc) (ls : Array Slot), fx_P D cy LM ad σ H → va_S A s.heap H locs → lv_has ls 3 [(0, .ref (ad 0)), (1, .int a1), (2, .int a2)] → W p l e (fx_R (2)) s m args below meth c H locs 0 0 (fx_Qi D cy LM ad A below args s v σ') (F0 m 0 ls []) := by
    intro H locs ls hP hS hl
    refine lv_aload_n hx hb dX12_stop_0 rfl (lv_at hl 0 rfl) ?_
    refine lv_iconst hx hb dX12_stop_1 ki_0 ?_
    obtain ⟨σ1, eσ1, hf⟩ := fxL_e hf
    refine pf_X12_133 hC hP hS kM_0 dX12_stop_2 (fun H locs hP hS => ?_)
    replace hP := fx_Pe eσ1 hP
    refine lv_aload_n hx hb dX12_stop_5 rfl (lv_at hl 0 rfl) ?_
    refine lv_iload_n hx hb dX12_stop_6 rfl (lv_at hl 1 rfl) ?_
    obtain ⟨r3, hc2, hf⟩ := fxBP_e hf
    refine fx_ci hC hS (fx_runV (i := 0) (As := [.int a1]) (rest := []) hC hP hS (ctX12_isWare l hc2 D cy ad ec _) kM_0 (by decide) rfl kMV_X12_392 kC_X12_isWare hd_X12_isWare rfl ⟨(Nat.le_of_ble_eq_true rfl), (Nat.le_of_ble_eq_true rfl)⟩ ⟨Nat.le_refl 0, Nat.le_refl 0⟩ hl.1 (Nat.le_of_ble_eq_true rfl) rfl dX12_stop_7) (fun H locs hP hS => ?_)
    refine lv_if_eq (tgt := 23) hx hb dX12_stop_10 (by decide) (fun c5 => ?_) (fun c5 => ?_)
    · replace hf := fx_it c5 hf
      refine lv_iconst hx hb dX12_stop_23 ki_m1 ?_
      exact fx_iretf hf hC hr hk hP hS dX12_stop_24
    · replace hf := fx_ie c5 hf
      refine lv_iload_n hx hb dX12_stop_13 rfl (lv_at hl 2 rfl) ?_
      refine lv_iconst hx hb dX12_stop_14 ki_1 ?_
      refine lv_bipush hx hb dX12_stop_15 kb_20 ?_
      obtain ⟨r7, hc6, hf⟩ := fxBP_e hf
      refine fx_ci hC hS (fx_runS (As := [.int a2, .int 1, .int 20]) (rest := []) hC hP hS (ctX12_within l hc6 D cy ad ec _) kMS_X12_253 kC_X12_within hd_X12_within.2 rfl ⟨(Nat.le_of_ble_eq_true rfl), (Nat.le_of_ble_eq_true rfl)⟩ ⟨Nat.le_refl 0, Nat.le_refl 0⟩ hl.1 (Nat.le_of_ble_eq_true rfl) rfl dX12_stop_17) (fun H locs hP hS => ?_)
      refine lv_if_ne (tgt := 25) hx hb dX12_stop_20 (by decide) (fun c9 => ?_) (fun c9 => ?_)
      · replace hf := fx_ie c9 hf
        refine lv_aload_n hx hb dX12_stop_25 rfl (lv_at hl 0 rfl) ?_
        obtain ⟨σ12, hc10, hf⟩ := fxBV_e hf
        refine fx_cv hC hS (fx_runV (i := 0) (As := []) (rest := []) hC hP hS (ctX12_keeps l hc10 D cy ad ec _) kM_0 (by decide) rfl kMV_X12_405 kC_X12_keeps hd_X12_keeps rfl ⟨(Nat.le_of_ble_eq_true rfl), (Nat.le_of_ble_eq_true rfl)⟩ ⟨Nat.le_refl 0, Nat.le_refl 0⟩ hl.1 (Nat.le_of_ble_eq_true rfl) rfl dX12_stop_26) (fun H locs hP hS => ?_)
        refine lv_aload_n hx hb dX12_stop_29 rfl (lv_at hl 0 rfl) ?_
        refine gf_X12_108 (v := .ref (ad 33)) hC hP kM_0 rfl dX12_stop_30 ?_
        refine lv_iconst hx hb dX12_stop_33 ki_3 ?_
        refine lv_iload_n hx hb dX12_stop_34 rfl (lv_at hl 1 rfl) ?_
        refine lv_iadd hx hb dX12_stop_35 ?_
        refine lv_iconst hx hb dX12_stop_36 ki_0 ?_
        refine lv_aload_n hx hb dX12_stop_37 rfl (lv_at hl 0 rfl) ?_
        refine gf_X12_108 (v := .ref (ad 33)) hC hP kM_0 rfl dX12_stop_38 ?_
        refine lv_iconst hx hb dX12_stop_41 ki_3 ?_
        refine lv_iload_n hx hb dX12_stop_42 rfl (lv_at hl 1 rfl) ?_
        refine lv_iadd hx hb dX12_stop_43 ?_
        obtain ⟨h13, hf⟩ := fxG_e hf
        refine fx_iald hC hP kM_33 (fx_inp h13) dX12_stop_44 ?_
        refine lv_iload_n hx hb dX12_stop_45 rfl (lv_at hl 2 rfl) ?_
        refine lv_isub hx hb dX12_stop_46 ?_
        refine fx_max hC hl.1 kL_X12_360 kMt_max kMi kMc_max (Nat.le_of_ble_eq_true rfl) (Nat.le_of_ble_eq_true rfl) ⟨Nat.le_refl 0, Nat.le_refl 0⟩ dX12_stop_47 ?_
        obtain ⟨h14, hf⟩ := fxG_e hf
        obtain ⟨σ15, eσ15, hf⟩ := fxL_e hf
        refine fx_iast hC hP hS kM_33 (fx_inp h14) dX12_stop_50 (fun H locs hP hS => ?_)
        replace hP := fx_Pe eσ15 hP
        refine lv_aload_n hx hb dX12_stop_51 rfl (lv_at hl 0 rfl) ?_
        refine gf_X12_108 (v := .ref (ad 33)) hC hP kM_0 rfl dX12_stop_52 ?_
        refine lv_iconst hx hb dX12_stop_55 ki_3 ?_
        refine lv_iload_n hx hb dX12_stop_56 rfl (lv_at hl 1 rfl) ?_
        refine lv_iadd hx hb dX12_stop_57 ?_
        obtain ⟨h16, hf⟩ := fxG_e hf
        refine fx_iald hC hP kM_33 (fx_inp h16) dX12_stop_58 ?_
        exact fx_iretf hf hC hr hk hP hS dX12_stop_59
      · replace hf := fx_it c9 hf
        refine lv_iconst hx hb dX12_stop_23 ki_m1 ?_
        exact fx_iretf hf hC hr hk hP hS dX12_stop_24
  exact main _ _ _ hP hS hl

set_option maxHeartbeats 4000000 in
set_option maxRecDepth 100000 in
theorem ctX12_join (l : Launch) {a1 : Int32} {a2 : Int32} {σ σ' : FH} {v : Int32} (hf : fX12_join a1 a2 σ = some (v, σ')) : fx_Mi l yX12_join cX12_join 3 (some .boolean) (3) LM (fun ad ec => [.ref (ad 0), .int a1, .int a2]) σ v σ' := by
  unfold fX12_join at hf
  refine fx_mi' (own := RX12) rfl (by decide +kernel) ?_
  intro p e s m args below meth c D cy ad ec A hC hr hk hP hS
  have hx := hC.1
  have hb := hC.2.1
  have hl := lv_entry ([.ref (ad 0), .int a1, .int a2]) (n := 3) (Nat.le_of_ble_eq_true rfl)
  show W _ _ _ _ _ _ _ _ _ _ _ _ _ _ _ (entryFrame m ([.ref (ad 0), .int a1, .int a2] : List Value).toArray 3)
  rw [lg_entry_eq]
  generalize (lg_sl ([.ref (ad 0), .int a1, .int a2]) ++ List.replicate (3 - (lg_sl ([.ref (ad 0), .int a1, .int a2])).length) Slot.unset).toArray = ls at hl ⊢
  have hl : lv_has ls 3 [(0, .ref (ad 0)), (1, .int a1), (2, .int a2)] := hl
  have main : ∀ (H : Heap) (locs : List Loc) (ls : Array Slot), fx_P D cy LM ad σ H → va_S A s.heap H locs → lv_has ls 3 [(0, .ref (ad 0)), (1, .int a1), (2, .int a2)] → W p l e (fx_R (3)) s m args below meth c H locs 0 0 (fx_Qi D cy LM ad A below args s v σ') (F0 m 0 ls []) := by
    intro H locs ls hP hS hl
    refine lv_aload_n hx hb dX12_join_0 rfl (lv_at hl 0 rfl) ?_
    refine lv_iconst hx hb dX12_join_1 ki_0 ?_
    obtain ⟨σ1, eσ1, hf⟩ := fxL_e hf
    refine pf_X12_133 hC hP hS kM_0 dX12_join_2 (fun H locs hP hS => ?_)
    replace hP := fx_Pe eσ1 hP
    refine lv_aload_n hx hb dX12_join_5 rfl (lv_at hl 0 rfl) ?_
    refine lv_iload_n hx hb dX12_join_6 rfl (lv_at hl 1 rfl) ?_
    obtain ⟨r3, hc2, hf⟩ := fxBP_e hf
    refine fx_ci hC hS (fx_runV (i := 0) (As := [.int a1]) (rest := []) hC hP hS (ctX12_isWare l hc2 D cy ad ec _) kM_0 (by decide) rfl kMV_X12_392 kC_X12_isWare hd_X12_isWare rfl ⟨(Nat.le_of_ble_eq_true rfl), (Nat.le_of_ble_eq_true rfl)⟩ ⟨Nat.le_refl 0, Nat.le_refl 0⟩ hl.1 (Nat.le_of_ble_eq_true rfl) rfl dX12_join_7) (fun H locs hP hS => ?_)
    refine lv_if_eq (tgt := 30) hx hb dX12_join_10 (by decide) (fun c5 => ?_) (fun c5 => ?_)
    · replace hf := fx_it c5 hf
      refine lv_iconst hx hb dX12_join_30 ki_0 ?_
      exact fx_zretf rfl hf hC hr hk hP hS dX12_join_31
    · replace hf := fx_ie c5 hf
      refine lv_aload_n hx hb dX12_join_13 rfl (lv_at hl 0 rfl) ?_
      refine lv_iload_n hx hb dX12_join_14 rfl (lv_at hl 2 rfl) ?_
      obtain ⟨r7, hc6, hf⟩ := fxBP_e hf
      refine fx_ci hC hS (fx_runV (i := 0) (As := [.int a2]) (rest := []) hC hP hS (ctX12_isWare l hc6 D cy ad ec _) kM_0 (by decide) rfl kMV_X12_392 kC_X12_isWare hd_X12_isWare rfl ⟨(Nat.le_of_ble_eq_true rfl), (Nat.le_of_ble_eq_true rfl)⟩ ⟨Nat.le_refl 0, Nat.le_refl 0⟩ hl.1 (Nat.le_of_ble_eq_true rfl) rfl dX12_join_15) (fun H locs hP hS => ?_)
      refine lv_if_eq (tgt := 30) hx hb dX12_join_18 (by decide) (fun c9 => ?_) (fun c9 => ?_)
      · replace hf := fx_it c9 hf
        refine lv_iconst hx hb dX12_join_30 ki_0 ?_
        exact fx_zretf rfl hf hC hr hk hP hS dX12_join_31
      · replace hf := fx_ie c9 hf
        refine lv_aload_n hx hb dX12_join_21 rfl (lv_at hl 0 rfl) ?_
        refine lv_iload_n hx hb dX12_join_22 rfl (lv_at hl 1 rfl) ?_
        refine lv_iload_n hx hb dX12_join_23 rfl (lv_at hl 2 rfl) ?_
        obtain ⟨r11, hc10, hf⟩ := fxBP_e hf
        refine fx_ci hC hS (fx_runV (i := 0) (As := [.int a1, .int a2]) (rest := []) hC hP hS (ctX12_canJoin l hc10 D cy ad ec _) kM_0 (by decide) rfl kMV_X12_408 kC_X12_canJoin hd_X12_canJoin rfl ⟨(Nat.le_of_ble_eq_true rfl), (Nat.le_of_ble_eq_true rfl)⟩ ⟨Nat.le_refl 0, Nat.le_refl 0⟩ hl.1 (Nat.le_of_ble_eq_true rfl) rfl dX12_join_24) (fun H locs hP hS => ?_)
        refine lv_if_ne (tgt := 32) hx hb dX12_join_27 (by decide) (fun c13 => ?_) (fun c13 => ?_)
        · replace hf := fx_ie c13 hf
          refine lv_aload_n hx hb dX12_join_32 rfl (lv_at hl 0 rfl) ?_
          obtain ⟨σ16, hc14, hf⟩ := fxBV_e hf
          refine fx_cv hC hS (fx_runV (i := 0) (As := []) (rest := []) hC hP hS (ctX12_keeps l hc14 D cy ad ec _) kM_0 (by decide) rfl kMV_X12_405 kC_X12_keeps hd_X12_keeps rfl ⟨(Nat.le_of_ble_eq_true rfl), (Nat.le_of_ble_eq_true rfl)⟩ ⟨Nat.le_refl 0, Nat.le_refl 0⟩ hl.1 (Nat.le_of_ble_eq_true rfl) rfl dX12_join_33) (fun H locs hP hS => ?_)
          refine lv_aload_n hx hb dX12_join_36 rfl (lv_at hl 0 rfl) ?_
          refine lv_iload_n hx hb dX12_join_37 rfl (lv_at hl 1 rfl) ?_
          refine lv_iload_n hx hb dX12_join_38 rfl (lv_at hl 2 rfl) ?_
          obtain ⟨σ19, hc17, hf⟩ := fxBV_e hf
          refine fx_cv hC hS (fx_runV (i := 0) (As := [.int a1, .int a2]) (rest := []) hC hP hS (ctX12_joins l hc17 D cy ad ec _) kM_0 (by decide) rfl kMV_X12_411 kC_X12_joins hd_X12_joins rfl ⟨(Nat.le_of_ble_eq_true rfl), (Nat.le_of_ble_eq_true rfl)⟩ ⟨Nat.le_refl 0, Nat.le_refl 0⟩ hl.1 (Nat.le_of_ble_eq_true rfl) rfl dX12_join_39) (fun H locs hP hS => ?_)
          refine lv_iconst hx hb dX12_join_42 ki_1 ?_
          exact fx_zretf rfl hf hC hr hk hP hS dX12_join_43
        · replace hf := fx_it c13 hf
          refine lv_iconst hx hb dX12_join_30 ki_0 ?_
          exact fx_zretf rfl hf hC hr hk hP hS dX12_join_31
  exact main _ _ _ hP hS hl

set_option maxHeartbeats 4000000 in
set_option maxRecDepth 100000 in
theorem ctX12_lend (l : Launch) {a1 : Int32} {a2 : Int32} {a3 : Int32} {σ σ' : FH} {v : Int32} (hf : fX12_lend a1 a2 a3 σ = some (v, σ')) : fx_Mi l yX12_lend cX12_lend 4 (some .boolean) (2) LM (fun ad ec => [.ref (ad 0), .int a1, .int a2, .int a3]) σ v σ' := by
  unfold fX12_lend at hf
  refine fx_mi' (own := RX12) rfl (by decide +kernel) ?_
  intro p e s m args below meth c D cy ad ec A hC hr hk hP hS
  have hx := hC.1
  have hb := hC.2.1
  have hl := lv_entry ([.ref (ad 0), .int a1, .int a2, .int a3]) (n := 4) (Nat.le_of_ble_eq_true rfl)
  show W _ _ _ _ _ _ _ _ _ _ _ _ _ _ _ (entryFrame m ([.ref (ad 0), .int a1, .int a2, .int a3] : List Value).toArray 4)
  rw [lg_entry_eq]
  generalize (lg_sl ([.ref (ad 0), .int a1, .int a2, .int a3]) ++ List.replicate (4 - (lg_sl ([.ref (ad 0), .int a1, .int a2, .int a3])).length) Slot.unset).toArray = ls at hl ⊢
  have hl : lv_has ls 4 [(0, .ref (ad 0)), (1, .int a1), (2, .int a2), (3, .int a3)] := hl
  have main : ∀ (H : Heap) (locs : List Loc) (ls : Array Slot), fx_P D cy LM ad σ H → va_S A s.heap H locs → lv_has ls 4 [(0, .ref (ad 0)), (1, .int a1), (2, .int a2), (3, .int a3)] → W p l e (fx_R (2)) s m args below meth c H locs 0 0 (fx_Qi D cy LM ad A below args s v σ') (F0 m 0 ls []) := by
    intro H locs ls hP hS hl
    refine lv_aload_n hx hb dX12_lend_0 rfl (lv_at hl 0 rfl) ?_
    refine lv_iconst hx hb dX12_lend_1 ki_0 ?_
    obtain ⟨σ1, eσ1, hf⟩ := fxL_e hf
    refine pf_X12_133 hC hP hS kM_0 dX12_lend_2 (fun H locs hP hS => ?_)
    replace hP := fx_Pe eσ1 hP
    refine lv_aload_n hx hb dX12_lend_5 rfl (lv_at hl 0 rfl) ?_
    refine lv_iload_n hx hb dX12_lend_6 rfl (lv_at hl 1 rfl) ?_
    obtain ⟨r3, hc2, hf⟩ := fxBP_e hf
    refine fx_ci hC hS (fx_runV (i := 0) (As := [.int a1]) (rest := []) hC hP hS (ctX12_isParty l hc2 D cy ad ec _) kM_0 (by decide) rfl kMV_X12_398 kC_X12_isParty hd_X12_isParty rfl ⟨(Nat.le_of_ble_eq_true rfl), (Nat.le_of_ble_eq_true rfl)⟩ ⟨Nat.le_refl 0, Nat.le_refl 0⟩ hl.1 (Nat.le_of_ble_eq_true rfl) rfl dX12_lend_7) (fun H locs hP hS => ?_)
    refine lv_if_eq (tgt := 41) hx hb dX12_lend_10 (by decide) (fun c5 => ?_) (fun c5 => ?_)
    · replace hf := fx_it c5 hf
      refine lv_iconst hx hb dX12_lend_41 ki_0 ?_
      exact fx_zretf rfl hf hC hr hk hP hS dX12_lend_42
    · replace hf := fx_ie c5 hf
      refine lv_aload_n hx hb dX12_lend_13 rfl (lv_at hl 0 rfl) ?_
      refine lv_iload_n hx hb dX12_lend_14 rfl (lv_at hl 2 rfl) ?_
      obtain ⟨r7, hc6, hf⟩ := fxBP_e hf
      refine fx_ci hC hS (fx_runV (i := 0) (As := [.int a2]) (rest := []) hC hP hS (ctX12_isParty l hc6 D cy ad ec _) kM_0 (by decide) rfl kMV_X12_398 kC_X12_isParty hd_X12_isParty rfl ⟨(Nat.le_of_ble_eq_true rfl), (Nat.le_of_ble_eq_true rfl)⟩ ⟨Nat.le_refl 0, Nat.le_refl 0⟩ hl.1 (Nat.le_of_ble_eq_true rfl) rfl dX12_lend_15) (fun H locs hP hS => ?_)
      refine lv_if_eq (tgt := 41) hx hb dX12_lend_18 (by decide) (fun c9 => ?_) (fun c9 => ?_)
      · replace hf := fx_it c9 hf
        refine lv_iconst hx hb dX12_lend_41 ki_0 ?_
        exact fx_zretf rfl hf hC hr hk hP hS dX12_lend_42
      · replace hf := fx_ie c9 hf
        refine lv_iload_n hx hb dX12_lend_21 rfl (lv_at hl 3 rfl) ?_
        refine lv_iconst hx hb dX12_lend_22 ki_1 ?_
        refine lv_bipush hx hb dX12_lend_23 kb_20 ?_
        obtain ⟨r11, hc10, hf⟩ := fxBP_e hf
        refine fx_ci hC hS (fx_runS (As := [.int a3, .int 1, .int 20]) (rest := []) hC hP hS (ctX12_within l hc10 D cy ad ec _) kMS_X12_253 kC_X12_within hd_X12_within.2 rfl ⟨(Nat.le_of_ble_eq_true rfl), (Nat.le_of_ble_eq_true rfl)⟩ ⟨Nat.le_refl 0, Nat.le_refl 0⟩ hl.1 (Nat.le_of_ble_eq_true rfl) rfl dX12_lend_25) (fun H locs hP hS => ?_)
        refine lv_if_eq (tgt := 41) hx hb dX12_lend_28 (by decide) (fun c13 => ?_) (fun c13 => ?_)
        · replace hf := fx_it c13 hf
          refine lv_iconst hx hb dX12_lend_41 ki_0 ?_
          exact fx_zretf rfl hf hC hr hk hP hS dX12_lend_42
        · replace hf := fx_ie c13 hf
          refine lv_aload_n hx hb dX12_lend_31 rfl (lv_at hl 0 rfl) ?_
          refine lv_iload_n hx hb dX12_lend_32 rfl (lv_at hl 1 rfl) ?_
          refine lv_iload_n hx hb dX12_lend_33 rfl (lv_at hl 2 rfl) ?_
          refine lv_iload_n hx hb dX12_lend_34 rfl (lv_at hl 3 rfl) ?_
          obtain ⟨r15, hc14, hf⟩ := fxBP_e hf
          refine fx_ci hC hS (fx_runV (i := 0) (As := [.int a1, .int a2, .int a3]) (rest := []) hC hP hS (ctX12_canLend l hc14 D cy ad ec _) kM_0 (by decide) rfl kMV_X12_414 kC_X12_canLend hd_X12_canLend rfl ⟨(Nat.le_of_ble_eq_true rfl), (Nat.le_of_ble_eq_true rfl)⟩ ⟨Nat.le_refl 0, Nat.le_refl 0⟩ hl.1 (Nat.le_of_ble_eq_true rfl) rfl dX12_lend_35) (fun H locs hP hS => ?_)
          refine lv_if_ne (tgt := 43) hx hb dX12_lend_38 (by decide) (fun c17 => ?_) (fun c17 => ?_)
          · replace hf := fx_ie c17 hf
            refine lv_aload_n hx hb dX12_lend_43 rfl (lv_at hl 0 rfl) ?_
            obtain ⟨σ20, hc18, hf⟩ := fxBV_e hf
            refine fx_cv hC hS (fx_runV (i := 0) (As := []) (rest := []) hC hP hS (ctX12_keeps l hc18 D cy ad ec _) kM_0 (by decide) rfl kMV_X12_405 kC_X12_keeps hd_X12_keeps rfl ⟨(Nat.le_of_ble_eq_true rfl), (Nat.le_of_ble_eq_true rfl)⟩ ⟨Nat.le_refl 0, Nat.le_refl 0⟩ hl.1 (Nat.le_of_ble_eq_true rfl) rfl dX12_lend_44) (fun H locs hP hS => ?_)
            refine lv_aload_n hx hb dX12_lend_47 rfl (lv_at hl 0 rfl) ?_
            refine lv_iload_n hx hb dX12_lend_48 rfl (lv_at hl 1 rfl) ?_
            refine lv_iload_n hx hb dX12_lend_49 rfl (lv_at hl 2 rfl) ?_
            refine lv_iload_n hx hb dX12_lend_50 rfl (lv_at hl 3 rfl) ?_
            obtain ⟨σ23, hc21, hf⟩ := fxBV_e hf
            refine fx_cv hC hS (fx_runV (i := 0) (As := [.int a1, .int a2, .int a3]) (rest := []) hC hP hS (ctX12_lends l hc21 D cy ad ec _) kM_0 (by decide) rfl kMV_X12_417 kC_X12_lends hd_X12_lends rfl ⟨(Nat.le_of_ble_eq_true rfl), (Nat.le_of_ble_eq_true rfl)⟩ ⟨Nat.le_refl 0, Nat.le_refl 0⟩ hl.1 (Nat.le_of_ble_eq_true rfl) rfl dX12_lend_51) (fun H locs hP hS => ?_)
            refine lv_iconst hx hb dX12_lend_54 ki_1 ?_
            exact fx_zretf rfl hf hC hr hk hP hS dX12_lend_55
          · replace hf := fx_it c17 hf
            refine lv_iconst hx hb dX12_lend_41 ki_0 ?_
            exact fx_zretf rfl hf hC hr hk hP hS dX12_lend_42
  exact main _ _ _ hP hS hl

set_option maxHeartbeats 4000000 in
set_option maxRecDepth 100000 in
theorem ctX12_week (l : Launch) {σ σ' : FH} {v : Int32} (hf : fX12_week σ = some (v, σ')) : fx_Mi l yX12_week cX12_week 1 (some .int) (6) LM (fun ad ec => [.ref (ad 0)]) σ v σ' := by
  unfold fX12_week at hf
  refine fx_mi' (own := RX12) rfl (by decide +kernel) ?_
  intro p e s m args below meth c D cy ad ec A hC hr hk hP hS
  have hx := hC.1
  have hb := hC.2.1
  have hl := lv_entry ([.ref (ad 0)]) (n := 1) (Nat.le_of_ble_eq_true rfl)
  show W _ _ _ _ _ _ _ _ _ _ _ _ _ _ _ (entryFrame m ([.ref (ad 0)] : List Value).toArray 1)
  rw [lg_entry_eq]
  generalize (lg_sl ([.ref (ad 0)]) ++ List.replicate (1 - (lg_sl ([.ref (ad 0)])).length) Slot.unset).toArray = ls at hl ⊢
  have hl : lv_has ls 1 [(0, .ref (ad 0))] := hl
  have main : ∀ (H : Heap) (locs : List Loc) (ls : Array Slot), fx_P D cy LM ad σ H → va_S A s.heap H locs → lv_has ls 1 [(0, .ref (ad 0))] → W p l e (fx_R (6)) s m args below meth c H locs 0 0 (fx_Qi D cy LM ad A below args s v σ') (F0 m 0 ls []) := by
    intro H locs ls hP hS hl
    refine lv_aload_n hx hb dX12_week_0 rfl (lv_at hl 0 rfl) ?_
    refine lv_iconst hx hb dX12_week_1 ki_0 ?_
    obtain ⟨σ1, eσ1, hf⟩ := fxL_e hf
    refine pf_X12_133 hC hP hS kM_0 dX12_week_2 (fun H locs hP hS => ?_)
    replace hP := fx_Pe eσ1 hP
    refine lv_aload_n hx hb dX12_week_5 rfl (lv_at hl 0 rfl) ?_
    obtain ⟨σ4, hc2, hf⟩ := fxBV_e hf
    refine fx_cv hC hS (fx_runV (i := 0) (As := []) (rest := []) hC hP hS (ctX12_keeps l hc2 D cy ad ec _) kM_0 (by decide) rfl kMV_X12_405 kC_X12_keeps hd_X12_keeps rfl ⟨(Nat.le_of_ble_eq_true rfl), (Nat.le_of_ble_eq_true rfl)⟩ ⟨Nat.le_refl 0, Nat.le_refl 0⟩ hl.1 (Nat.le_of_ble_eq_true rfl) rfl dX12_week_6) (fun H locs hP hS => ?_)
    refine lv_aload_n hx hb dX12_week_9 rfl (lv_at hl 0 rfl) ?_
    obtain ⟨r6, σ7, hc5, hf⟩ := fxBI_e hf
    refine fx_ci hC hS (fx_runV (i := 0) (As := []) (rest := []) hC hP hS (ctX12_passes l hc5 D cy ad ec _) kM_0 (by decide) rfl kMV_X12_421 kC_X12_passes hd_X12_passes rfl ⟨(Nat.le_of_ble_eq_true rfl), (Nat.le_of_ble_eq_true rfl)⟩ ⟨Nat.le_refl 0, Nat.le_refl 0⟩ hl.1 (Nat.le_of_ble_eq_true rfl) rfl dX12_week_10) (fun H locs hP hS => ?_)
    exact fx_iretf hf hC hr hk hP hS dX12_week_13
  exact main _ _ _ hP hS hl

set_option maxHeartbeats 4000000 in
set_option maxRecDepth 100000 in
theorem ctX12_undo (l : Launch) {σ σ' : FH} {v : Int32} (hf : fX12_undo σ = some (v, σ')) : fx_Mi l yX12_undo cX12_undo 1 (some .boolean) (1) LM (fun ad ec => [.ref (ad 0)]) σ v σ' := by
  unfold fX12_undo at hf
  refine fx_mi' (own := RX12) rfl (by decide +kernel) ?_
  intro p e s m args below meth c D cy ad ec A hC hr hk hP hS
  have hx := hC.1
  have hb := hC.2.1
  have hl := lv_entry ([.ref (ad 0)]) (n := 1) (Nat.le_of_ble_eq_true rfl)
  show W _ _ _ _ _ _ _ _ _ _ _ _ _ _ _ (entryFrame m ([.ref (ad 0)] : List Value).toArray 1)
  rw [lg_entry_eq]
  generalize (lg_sl ([.ref (ad 0)]) ++ List.replicate (1 - (lg_sl ([.ref (ad 0)])).length) Slot.unset).toArray = ls at hl ⊢
  have hl : lv_has ls 1 [(0, .ref (ad 0))] := hl
  have main : ∀ (H : Heap) (locs : List Loc) (ls : Array Slot), fx_P D cy LM ad σ H → va_S A s.heap H locs → lv_has ls 1 [(0, .ref (ad 0))] → W p l e (fx_R (1)) s m args below meth c H locs 0 0 (fx_Qi D cy LM ad A below args s v σ') (F0 m 0 ls []) := by
    intro H locs ls hP hS hl
    refine lv_aload_n hx hb dX12_undo_0 rfl (lv_at hl 0 rfl) ?_
    refine lv_iconst hx hb dX12_undo_1 ki_0 ?_
    obtain ⟨σ1, eσ1, hf⟩ := fxL_e hf
    refine pf_X12_133 hC hP hS kM_0 dX12_undo_2 (fun H locs hP hS => ?_)
    replace hP := fx_Pe eσ1 hP
    refine lv_aload_n hx hb dX12_undo_5 rfl (lv_at hl 0 rfl) ?_
    refine gf_X12_341 (v := .int (σ1.1 0 51)) hC hP kM_0 rfl dX12_undo_6 ?_
    refine lv_if_ne (tgt := 14) hx hb dX12_undo_9 (by decide) (fun c2 => ?_) (fun c2 => ?_)
    · replace hf := fx_ie c2 hf
      refine lv_aload_n hx hb dX12_undo_14 rfl (lv_at hl 0 rfl) ?_
      refine lv_dup hx hb dX12_undo_15 rfl ?_
      refine gf_X12_341 (v := .int (σ1.1 0 51)) hC hP kM_0 rfl dX12_undo_16 ?_
      refine lv_iconst hx hb dX12_undo_19 ki_1 ?_
      refine lv_isub hx hb dX12_undo_20 ?_
      obtain ⟨σ3, eσ3, hf⟩ := fxL_e hf
      refine pf_X12_341 hC hP hS kM_0 dX12_undo_21 (fun H locs hP hS => ?_)
      replace hP := fx_Pe eσ3 hP
      refine lv_aload_n hx hb dX12_undo_24 rfl (lv_at hl 0 rfl) ?_
      refine gf_X12_120 (v := .ref (ad 37)) hC hP kM_0 rfl dX12_undo_25 ?_
      refine lv_bipush hx hb dX12_undo_28 kb_14 ?_
      refine lv_aload_n hx hb dX12_undo_30 rfl (lv_at hl 0 rfl) ?_
      refine gf_X12_341 (v := .int (σ3.1 0 51)) hC hP kM_0 rfl dX12_undo_31 ?_
      refine lv_imul hx hb dX12_undo_34 ?_
      refine lv_aload_n hx hb dX12_undo_35 rfl (lv_at hl 0 rfl) ?_
      refine gf_X12_108 (v := .ref (ad 33)) hC hP kM_0 rfl dX12_undo_36 ?_
      refine lv_iconst hx hb dX12_undo_39 ki_0 ?_
      obtain ⟨σ6, hc4, hf⟩ := fxBV_e hf
      refine fx_cv hC hS (fx_runS (As := [.ref (ad 37), .int (14 * (σ3.1 0 51)), .ref (ad 33), .int 0]) (rest := []) hC hP hS (ctX12_copies l hc4 D cy ad ec _) kMS_X12_401 kC_X12_copies hd_X12_copies.2 rfl ⟨(Nat.le_of_ble_eq_true rfl), (Nat.le_of_ble_eq_true rfl)⟩ ⟨Nat.le_refl 0, Nat.le_refl 0⟩ hl.1 (Nat.le_of_ble_eq_true rfl) rfl dX12_undo_40) (fun H locs hP hS => ?_)
      refine lv_iconst hx hb dX12_undo_43 ki_1 ?_
      exact fx_zretf rfl hf hC hr hk hP hS dX12_undo_44
    · replace hf := fx_it c2 hf
      refine lv_iconst hx hb dX12_undo_12 ki_0 ?_
      exact fx_zretf rfl hf hC hr hk hP hS dX12_undo_13
  exact main _ _ _ hP hS hl

set_option maxHeartbeats 4000000 in
set_option maxRecDepth 100000 in
theorem ctX12_goes (l : Launch) {a1 : Int32} {σ σ' : FH} {v : Int32} (hf : fX12_goes a1 σ = some (v, σ')) : fx_Mi l yX12_goes cX12_goes 4 (some .boolean) (6) LM (fun ad ec => [.ref (ad 0), .int a1]) σ v σ' := by
  unfold fX12_goes at hf
  refine fx_mi' (own := RX12) rfl (by decide +kernel) ?_
  intro p e s m args below meth c D cy ad ec A hC hr hk hP hS
  have hx := hC.1
  have hb := hC.2.1
  have hl := lv_entry ([.ref (ad 0), .int a1]) (n := 4) (Nat.le_of_ble_eq_true rfl)
  show W _ _ _ _ _ _ _ _ _ _ _ _ _ _ _ (entryFrame m ([.ref (ad 0), .int a1] : List Value).toArray 4)
  rw [lg_entry_eq]
  generalize (lg_sl ([.ref (ad 0), .int a1]) ++ List.replicate (4 - (lg_sl ([.ref (ad 0), .int a1])).length) Slot.unset).toArray = ls at hl ⊢
  have hl : lv_has ls 4 [(0, .ref (ad 0)), (1, .int a1)] := hl
  have main : ∀ (H : Heap) (locs : List Loc) (ls : Array Slot), fx_P D cy LM ad σ H → va_S A s.heap H locs → lv_has ls 4 [(0, .ref (ad 0)), (1, .int a1)] → W p l e (fx_R (6)) s m args below meth c H locs 0 0 (fx_Qi D cy LM ad A below args s v σ') (F0 m 0 ls []) := by
    intro H locs ls hP hS hl
    refine lv_aload_n hx hb dX12_goes_0 rfl (lv_at hl 0 rfl) ?_
    refine gf_X12_90 (v := .ref (ad 27)) hC hP kM_0 rfl dX12_goes_1 ?_
    refine lv_iload_n hx hb dX12_goes_4 rfl (lv_at hl 1 rfl) ?_
    obtain ⟨h1, hf⟩ := fxG_e hf
    refine fx_iald hC hP kM_27 (fx_inp h1) dX12_goes_5 ?_
    obtain ⟨v2, ev2, hf⟩ := fxL_e hf
    refine fx_ti ev2 ?_
    refine lv_istore_n (lv' := [(2, .int v2), (0, .ref (ad 0)), (1, .int a1)]) hx hb dX12_goes_6 rfl hl (by decide) rfl (fun ls hl => ?_)
    refine lv_aload_n hx hb dX12_goes_7 rfl (lv_at hl 1 rfl) ?_
    refine gf_X12_87 (v := .ref (ad 26)) hC hP kM_0 rfl dX12_goes_8 ?_
    refine lv_iload_n hx hb dX12_goes_11 rfl (lv_at hl 2 rfl) ?_
    obtain ⟨h3, hf⟩ := fxG_e hf
    refine fx_iald hC hP kM_26 (fx_inp h3) dX12_goes_12 ?_
    obtain ⟨v4, ev4, hf⟩ := fxL_e hf
    refine fx_ti ev4 ?_
    refine lv_istore_n (lv' := [(3, .int v4), (2, .int v2), (0, .ref (ad 0)), (1, .int a1)]) hx hb dX12_goes_13 rfl hl (by decide) rfl (fun ls hl => ?_)
    refine lv_iload_n hx hb dX12_goes_14 rfl (lv_at hl 0 rfl) ?_
    refine lv_if_ne (tgt := 33) hx hb dX12_goes_15 (by decide) (fun c5 => ?_) (fun c5 => ?_)
    · replace hf := fx_ie c5 hf
      refine lv_iload_n hx hb dX12_goes_33 rfl (lv_at hl 0 rfl) ?_
      refine lv_iconst hx hb dX12_goes_34 ki_1 ?_
      refine lv_icmp_ne (tgt := 68) hx hb dX12_goes_35 (by decide) (fun c6 => ?_) (fun c6 => ?_)
      · replace hf := fx_ie c6 hf
        refine lv_iload_n hx hb dX12_goes_68 rfl (lv_at hl 0 rfl) ?_
        refine lv_iconst hx hb dX12_goes_69 ki_2 ?_
        refine lv_icmp_ne (tgt := 103) hx hb dX12_goes_70 (by decide) (fun c7 => ?_) (fun c7 => ?_)
        · replace hf := fx_ie c7 hf
          refine lv_iload_n hx hb dX12_goes_103 rfl (lv_at hl 0 rfl) ?_
          refine lv_iconst hx hb dX12_goes_104 ki_3 ?_
          refine lv_icmp_ne (tgt := 150) hx hb dX12_goes_105 (by decide) (fun c8 => ?_) (fun c8 => ?_)
          · replace hf := fx_ie c8 hf
            refine lv_aload_n hx hb dX12_goes_150 rfl (lv_at hl 2 rfl) ?_
            obtain ⟨r10, σ11, hc9, hf⟩ := fxBI_e hf
            refine fx_ci hC hS (fx_runV (i := 0) (As := []) (rest := []) hC hP hS (ctX12_passes l hc9 D cy ad ec _) kM_0 (by decide) rfl kMV_X12_421 kC_X12_passes hd_X12_passes rfl ⟨(Nat.le_of_ble_eq_true rfl), (Nat.le_of_ble_eq_true rfl)⟩ ⟨Nat.le_refl 0, Nat.le_refl 0⟩ hl.1 (Nat.le_of_ble_eq_true rfl) rfl dX12_goes_151) (fun H locs hP hS => ?_)
            refine lv_pop hx hb dX12_goes_154 rfl ?_
            refine lv_iconst hx hb dX12_goes_155 ki_1 ?_
            exact fx_zretf rfl hf hC hr hk hP hS dX12_goes_156
          · replace hf := fx_it c8 hf
            refine lv_aload_n hx hb dX12_goes_108 rfl (lv_at hl 2 rfl) ?_
            refine lv_iload_n hx hb dX12_goes_109 rfl (lv_at hl 1 rfl) ?_
            refine lv_aload_n hx hb dX12_goes_110 rfl (lv_at hl 2 rfl) ?_
            refine gf_X12_93 (v := .ref (ad 28)) hC hP kM_0 rfl dX12_goes_111 ?_
            refine lv_iload_n hx hb dX12_goes_114 rfl (lv_at hl 3 rfl) ?_
            obtain ⟨h12, hf⟩ := fxG_e hf
            refine fx_iald hC hP kM_28 (fx_inp h12) dX12_goes_115 ?_
            refine lv_aload_n hx hb dX12_goes_116 rfl (lv_at hl 2 rfl) ?_
            refine gf_X12_96 (v := .ref (ad 29)) hC hP kM_0 rfl dX12_goes_117 ?_
            refine lv_iload_n hx hb dX12_goes_120 rfl (lv_at hl 3 rfl) ?_
            obtain ⟨h13, hf⟩ := fxG_e hf
            refine fx_iald hC hP kM_29 (fx_inp h13) dX12_goes_121 ?_
            obtain ⟨r15, hc14, hf⟩ := fxBP_e hf
            refine fx_ci hC hS (fx_runV (i := 0) (As := [.int v2, .int (σ.1 28 (Int32.toNatClampNeg a1)), .int (σ.1 29 (Int32.toNatClampNeg a1))]) (rest := []) hC hP hS (ctX12_canLend l hc14 D cy ad ec _) kM_0 (by decide) rfl kMV_X12_414 kC_X12_canLend hd_X12_canLend rfl ⟨(Nat.le_of_ble_eq_true rfl), (Nat.le_of_ble_eq_true rfl)⟩ ⟨Nat.le_refl 0, Nat.le_refl 0⟩ hl.1 (Nat.le_of_ble_eq_true rfl) rfl dX12_goes_122) (fun H locs hP hS => ?_)
            refine lv_if_ne (tgt := 130) hx hb dX12_goes_125 (by decide) (fun c17 => ?_) (fun c17 => ?_)
            · replace hf := fx_ie c17 hf
              refine lv_aload_n hx hb dX12_goes_130 rfl (lv_at hl 2 rfl) ?_
              refine lv_iload_n hx hb dX12_goes_131 rfl (lv_at hl 1 rfl) ?_
              refine lv_aload_n hx hb dX12_goes_132 rfl (lv_at hl 2 rfl) ?_
              refine gf_X12_93 (v := .ref (ad 28)) hC hP kM_0 rfl dX12_goes_133 ?_
              refine lv_iload_n hx hb dX12_goes_136 rfl (lv_at hl 3 rfl) ?_
              obtain ⟨h18, hf⟩ := fxG_e hf
              refine fx_iald hC hP kM_28 (fx_inp h18) dX12_goes_137 ?_
              refine lv_aload_n hx hb dX12_goes_138 rfl (lv_at hl 2 rfl) ?_
              refine gf_X12_96 (v := .ref (ad 29)) hC hP kM_0 rfl dX12_goes_139 ?_
              refine lv_iload_n hx hb dX12_goes_142 rfl (lv_at hl 3 rfl) ?_
              obtain ⟨h19, hf⟩ := fxG_e hf
              refine fx_iald hC hP kM_29 (fx_inp h19) dX12_goes_143 ?_
              obtain ⟨σ22, hc20, hf⟩ := fxBV_e hf
              refine fx_cv hC hS (fx_runV (i := 0) (As := [.int v2, .int (σ.1 28 (Int32.toNatClampNeg a1)), .int (σ.1 29 (Int32.toNatClampNeg a1))]) (rest := []) hC hP hS (ctX12_lends l hc20 D cy ad ec _) kM_0 (by decide) rfl kMV_X12_417 kC_X12_lends hd_X12_lends rfl ⟨(Nat.le_of_ble_eq_true rfl), (Nat.le_of_ble_eq_true rfl)⟩ ⟨Nat.le_refl 0, Nat.le_refl 0⟩ hl.1 (Nat.le_of_ble_eq_true rfl) rfl dX12_goes_144) (fun H locs hP hS => ?_)
              refine lv_goto (tgt := 155) hx hb dX12_goes_147 (by decide) ?_
              refine lv_iconst hx hb dX12_goes_155 ki_1 ?_
              exact fx_zretf rfl hf hC hr hk hP hS dX12_goes_156
            · replace hf := fx_it c17 hf
              refine lv_iconst hx hb dX12_goes_128 ki_0 ?_
              exact fx_zretf rfl hf hC hr hk hP hS dX12_goes_129
        · replace hf := fx_it c7 hf
          refine lv_aload_n hx hb dX12_goes_73 rfl (lv_at hl 2 rfl) ?_
          refine lv_iload_n hx hb dX12_goes_74 rfl (lv_at hl 1 rfl) ?_
          refine lv_aload_n hx hb dX12_goes_75 rfl (lv_at hl 2 rfl) ?_
          refine gf_X12_93 (v := .ref (ad 28)) hC hP kM_0 rfl dX12_goes_76 ?_
          refine lv_iload_n hx hb dX12_goes_79 rfl (lv_at hl 3 rfl) ?_
          obtain ⟨h23, hf⟩ := fxG_e hf
          refine fx_iald hC hP kM_28 (fx_inp h23) dX12_goes_80 ?_
          obtain ⟨r25, hc24, hf⟩ := fxBP_e hf
          refine fx_ci hC hS (fx_runV (i := 0) (As := [.int v2, .int (σ.1 28 (Int32.toNatClampNeg a1))]) (rest := []) hC hP hS (ctX12_canJoin l hc24 D cy ad ec _) kM_0 (by decide) rfl kMV_X12_408 kC_X12_canJoin hd_X12_canJoin rfl ⟨(Nat.le_of_ble_eq_true rfl), (Nat.le_of_ble_eq_true rfl)⟩ ⟨Nat.le_refl 0, Nat.le_refl 0⟩ hl.1 (Nat.le_of_ble_eq_true rfl) rfl dX12_goes_81) (fun H locs hP hS => ?_)
          refine lv_if_ne (tgt := 89) hx hb dX12_goes_84 (by decide) (fun c27 => ?_) (fun c27 => ?_)
          · replace hf := fx_ie c27 hf
            refine lv_aload_n hx hb dX12_goes_89 rfl (lv_at hl 2 rfl) ?_
            refine lv_iload_n hx hb dX12_goes_90 rfl (lv_at hl 1 rfl) ?_
            refine lv_aload_n hx hb dX12_goes_91 rfl (lv_at hl 2 rfl) ?_
            refine gf_X12_93 (v := .ref (ad 28)) hC hP kM_0 rfl dX12_goes_92 ?_
            refine lv_iload_n hx hb dX12_goes_95 rfl (lv_at hl 3 rfl) ?_
            obtain ⟨h28, hf⟩ := fxG_e hf
            refine fx_iald hC hP kM_28 (fx_inp h28) dX12_goes_96 ?_
            obtain ⟨σ31, hc29, hf⟩ := fxBV_e hf
            refine fx_cv hC hS (fx_runV (i := 0) (As := [.int v2, .int (σ.1 28 (Int32.toNatClampNeg a1))]) (rest := []) hC hP hS (ctX12_joins l hc29 D cy ad ec _) kM_0 (by decide) rfl kMV_X12_411 kC_X12_joins hd_X12_joins rfl ⟨(Nat.le_of_ble_eq_true rfl), (Nat.le_of_ble_eq_true rfl)⟩ ⟨Nat.le_refl 0, Nat.le_refl 0⟩ hl.1 (Nat.le_of_ble_eq_true rfl) rfl dX12_goes_97) (fun H locs hP hS => ?_)
            refine lv_goto (tgt := 155) hx hb dX12_goes_100 (by decide) ?_
            refine lv_iconst hx hb dX12_goes_155 ki_1 ?_
            exact fx_zretf rfl hf hC hr hk hP hS dX12_goes_156
          · replace hf := fx_it c27 hf
            refine lv_iconst hx hb dX12_goes_87 ki_0 ?_
            exact fx_zretf rfl hf hC hr hk hP hS dX12_goes_88
      · replace hf := fx_it c6 hf
        refine lv_aload_n hx hb dX12_goes_38 rfl (lv_at hl 2 rfl) ?_
        refine gf_X12_108 (v := .ref (ad 33)) hC hP kM_0 rfl dX12_goes_39 ?_
        refine lv_iconst hx hb dX12_goes_42 ki_3 ?_
        refine lv_iload_n hx hb dX12_goes_43 rfl (lv_at hl 1 rfl) ?_
        refine lv_iadd hx hb dX12_goes_44 ?_
        refine lv_iconst hx hb dX12_goes_45 ki_0 ?_
        refine lv_aload_n hx hb dX12_goes_46 rfl (lv_at hl 2 rfl) ?_
        refine gf_X12_108 (v := .ref (ad 33)) hC hP kM_0 rfl dX12_goes_47 ?_
        refine lv_iconst hx hb dX12_goes_50 ki_3 ?_
        refine lv_iload_n hx hb dX12_goes_51 rfl (lv_at hl 1 rfl) ?_
        refine lv_iadd hx hb dX12_goes_52 ?_
        obtain ⟨h32, hf⟩ := fxG_e hf
        refine fx_iald hC hP kM_33 (fx_inp h32) dX12_goes_53 ?_
        refine lv_aload_n hx hb dX12_goes_54 rfl (lv_at hl 2 rfl) ?_
        refine gf_X12_96 (v := .ref (ad 29)) hC hP kM_0 rfl dX12_goes_55 ?_
        refine lv_iload_n hx hb dX12_goes_58 rfl (lv_at hl 3 rfl) ?_
        obtain ⟨h33, hf⟩ := fxG_e hf
        refine fx_iald hC hP kM_29 (fx_inp h33) dX12_goes_59 ?_
        refine lv_isub hx hb dX12_goes_60 ?_
        refine fx_max hC hl.1 kL_X12_360 kMt_max kMi kMc_max (Nat.le_of_ble_eq_true rfl) (Nat.le_of_ble_eq_true rfl) ⟨Nat.le_refl 0, Nat.le_refl 0⟩ dX12_goes_61 ?_
        obtain ⟨h34, hf⟩ := fxG_e hf
        obtain ⟨σ35, eσ35, hf⟩ := fxL_e hf
        refine fx_iast hC hP hS kM_33 (fx_inp h34) dX12_goes_64 (fun H locs hP hS => ?_)
        replace hP := fx_Pe eσ35 hP
        refine lv_goto (tgt := 155) hx hb dX12_goes_65 (by decide) ?_
        refine lv_iconst hx hb dX12_goes_155 ki_1 ?_
        exact fx_zretf rfl hf hC hr hk hP hS dX12_goes_156
    · replace hf := fx_it c5 hf
      refine lv_aload_n hx hb dX12_goes_18 rfl (lv_at hl 2 rfl) ?_
      refine lv_iload_n hx hb dX12_goes_19 rfl (lv_at hl 1 rfl) ?_
      refine lv_aload_n hx hb dX12_goes_20 rfl (lv_at hl 2 rfl) ?_
      refine gf_X12_96 (v := .ref (ad 29)) hC hP kM_0 rfl dX12_goes_21 ?_
      refine lv_iload_n hx hb dX12_goes_24 rfl (lv_at hl 3 rfl) ?_
      obtain ⟨h36, hf⟩ := fxG_e hf
      refine fx_iald hC hP kM_29 (fx_inp h36) dX12_goes_25 ?_
      obtain ⟨r38, σ39, hc37, hf⟩ := fxBI_e hf
      refine fx_ci hC hS (fx_runV (i := 0) (As := [.int v2, .int (σ.1 29 (Int32.toNatClampNeg a1))]) (rest := []) hC hP hS (ctX12_works l hc37 D cy ad ec _) kM_0 (by decide) rfl kMV_X12_377 kC_X12_works hd_X12_works rfl ⟨(Nat.le_of_ble_eq_true rfl), (Nat.le_of_ble_eq_true rfl)⟩ ⟨Nat.le_refl 0, Nat.le_refl 0⟩ hl.1 (Nat.le_of_ble_eq_true rfl) rfl dX12_goes_26) (fun H locs hP hS => ?_)
      refine lv_pop hx hb dX12_goes_29 rfl ?_
      refine lv_goto (tgt := 155) hx hb dX12_goes_30 (by decide) ?_
      refine lv_iconst hx hb dX12_goes_155 ki_1 ?_
      exact fx_zretf rfl hf hC hr hk hP hS dX12_goes_156
  exact main _ _ _ hP hS hl

set_option maxHeartbeats 4000000 in
set_option maxRecDepth 100000 in
theorem ctX12_judged (l : Launch) {a1 : Int32} {σ σ' : FH} {v : Int32} (hf : fX12_judged a1 σ = some (v, σ')) : fx_Mi l yX12_judged cX12_judged 5 (some .int) (7) LM (fun ad ec => [.ref (ad 0), .int a1]) σ v σ' := by
  unfold fX12_judged at hf
  refine fx_mi' (own := RX12) rfl (by decide +kernel) ?_
  intro p e s m args below meth c D cy ad ec A hC hr hk hP hS
  have hx := hC.1
  have hb := hC.2.1
  have hl := lv_entry ([.ref (ad 0), .int a1]) (n := 5) (Nat.le_of_ble_eq_true rfl)
  show W _ _ _ _ _ _ _ _ _ _ _ _ _ _ _ (entryFrame m ([.ref (ad 0), .int a1] : List Value).toArray 5)
  rw [lg_entry_eq]
  generalize (lg_sl ([.ref (ad 0), .int a1]) ++ List.replicate (5 - (lg_sl ([.ref (ad 0), .int a1])).length) Slot.unset).toArray = ls at hl ⊢
  have hl : lv_has ls 5 [(0, .ref (ad 0)), (1, .int a1)] := hl
  have main : ∀ (H : Heap) (locs : List Loc) (ls : Array Slot), fx_P D cy LM ad σ H → va_S A s.heap H locs → lv_has ls 5 [(0, .ref (ad 0)), (1, .int a1)] → W p l e (fx_R (7)) s m args below meth c H locs 0 0 (fx_Qi D cy LM ad A below args s v σ') (F0 m 0 ls []) := by
    intro H locs ls hP hS hl
    refine lv_aload_n hx hb dX12_judged_0 rfl (lv_at hl 0 rfl) ?_
    refine lv_iconst hx hb dX12_judged_1 ki_0 ?_
    obtain ⟨σ1, eσ1, hf⟩ := fxL_e hf
    refine pf_X12_133 hC hP hS kM_0 dX12_judged_2 (fun H locs hP hS => ?_)
    replace hP := fx_Pe eσ1 hP
    refine lv_iload_n hx hb dX12_judged_5 rfl (lv_at hl 1 rfl) ?_
    refine lv_iconst hx hb dX12_judged_6 ki_0 ?_
    refine lv_iconst hx hb dX12_judged_7 ki_2 ?_
    obtain ⟨r3, hc2, hf⟩ := fxBP_e hf
    refine fx_ci hC hS (fx_runS (As := [.int a1, .int 0, .int 2]) (rest := []) hC hP hS (ctX12_within l hc2 D cy ad ec _) kMS_X12_253 kC_X12_within hd_X12_within.2 rfl ⟨(Nat.le_of_ble_eq_true rfl), (Nat.le_of_ble_eq_true rfl)⟩ ⟨Nat.le_refl 0, Nat.le_refl 0⟩ hl.1 (Nat.le_of_ble_eq_true rfl) rfl dX12_judged_8) (fun H locs hP hS => ?_)
    refine lv_if_ne (tgt := 17) hx hb dX12_judged_11 (by decide) (fun c5 => ?_) (fun c5 => ?_)
    · replace hf := fx_ie c5 hf
      refine lv_aload_n hx hb dX12_judged_17 rfl (lv_at hl 0 rfl) ?_
      refine gf_X12_108 (v := .ref (ad 33)) hC hP kM_0 rfl dX12_judged_18 ?_
      refine lv_iconst hx hb dX12_judged_21 ki_0 ?_
      refine lv_aload_n hx hb dX12_judged_22 rfl (lv_at hl 0 rfl) ?_
      refine gf_X12_111 (v := .ref (ad 34)) hC hP kM_0 rfl dX12_judged_23 ?_
      refine lv_iconst hx hb dX12_judged_26 ki_0 ?_
      obtain ⟨σ8, hc6, hf⟩ := fxBV_e hf
      refine fx_cv hC hS (fx_runS (As := [.ref (ad 33), .int 0, .ref (ad 34), .int 0]) (rest := []) hC hP hS (ctX12_copies l hc6 D cy ad ec _) kMS_X12_401 kC_X12_copies hd_X12_copies.2 rfl ⟨(Nat.le_of_ble_eq_true rfl), (Nat.le_of_ble_eq_true rfl)⟩ ⟨Nat.le_refl 0, Nat.le_refl 0⟩ hl.1 (Nat.le_of_ble_eq_true rfl) rfl dX12_judged_27) (fun H locs hP hS => ?_)
      refine lv_aload_n hx hb dX12_judged_30 rfl (lv_at hl 0 rfl) ?_
      obtain ⟨σ11, hc9, hf⟩ := fxBV_e hf
      refine fx_cv hC hS (fx_runV (i := 0) (As := []) (rest := []) hC hP hS (ctX12_fresh0 l hc9 D cy ad ec _) kM_0 (by decide) rfl kMV_X12_338 kC_X12_fresh0 hd_X12_fresh0 rfl ⟨(Nat.le_of_ble_eq_true rfl), (Nat.le_of_ble_eq_true rfl)⟩ ⟨Nat.le_refl 0, Nat.le_refl 0⟩ hl.1 (Nat.le_of_ble_eq_true rfl) rfl dX12_judged_31) (fun H locs hP hS => ?_)
      refine lv_iconst hx hb dX12_judged_34 ki_m1 ?_
      refine lv_istore_n (lv' := [(2, .int (-1)), (0, .ref (ad 0)), (1, .int a1)]) hx hb dX12_judged_35 rfl hl (by decide) rfl (fun ls hl => ?_)
      refine lv_iconst hx hb dX12_judged_36 ki_m1 ?_
      refine lv_istore_n (lv' := [(3, .int (-1)), (2, .int (-1)), (0, .ref (ad 0)), (1, .int a1)]) hx hb dX12_judged_37 rfl hl (by decide) rfl (fun ls hl => ?_)
      refine lv_iconst hx hb dX12_judged_38 ki_0 ?_
      refine lv_istore (lv' := [(4, .int 0), (3, .int (-1)), (2, .int (-1)), (0, .ref (ad 0)), (1, .int a1)]) hx hb dX12_judged_39 hl (by decide) rfl (fun ls hl => ?_)
      obtain ⟨K12, hK12, hf⟩ := fxL_e hf
      have k_K12 : ∀ (x13 : Int32) (x14 : Int32) (σ15 : FH) (H : Heap) (locs : List Loc) (ls : Array Slot), fx_P D cy LM ad σ15 H → va_S A s.heap H locs → lv_has ls 5 [(0, .ref (ad 0)), (1, .int a1), (2, .int x13), (3, .int x14)] → K12 x13 x14 σ15 = some (v, σ') → W p l e (fx_R (7)) s m args below meth c H locs 0 0 (fx_Qi D cy LM ad A below args s v σ') (F0 m 90 ls []) := by
        intro x13 x14 σ15 H locs ls hP hS hl hf
        replace hf := fxk3 hK12 hf
        refine lv_aload_n hx hb dX12_judged_90 rfl (lv_at hl 0 rfl) ?_
        refine gf_X12_108 (v := .ref (ad 33)) hC hP kM_0 rfl dX12_judged_91 ?_
        refine lv_iconst hx hb dX12_judged_94 ki_1 ?_
        obtain ⟨h16, hf⟩ := fxG_e hf
        refine fx_iald hC hP kM_33 (fx_inp h16) dX12_judged_95 ?_
        obtain ⟨v17, ev17, hf⟩ := fxL_e hf
        refine fx_ti ev17 ?_
        refine lv_istore (lv' := [(4, .int v17), (0, .ref (ad 0)), (1, .int a1), (2, .int x13), (3, .int x14)]) hx hb dX12_judged_96 hl (by decide) rfl (fun ls hl => ?_)
        refine lv_aload_n hx hb dX12_judged_98 rfl (lv_at hl 1 rfl) ?_
        refine gf_X12_111 (v := .ref (ad 34)) hC hP kM_0 rfl dX12_judged_99 ?_
        refine lv_iconst hx hb dX12_judged_102 ki_0 ?_
        refine lv_aload_n hx hb dX12_judged_103 rfl (lv_at hl 1 rfl) ?_
        refine gf_X12_108 (v := .ref (ad 33)) hC hP kM_0 rfl dX12_judged_104 ?_
        refine lv_iconst hx hb dX12_judged_107 ki_0 ?_
        obtain ⟨σ20, hc18, hf⟩ := fxBV_e hf
        refine fx_cv hC hS (fx_runS (As := [.ref (ad 34), .int 0, .ref (ad 33), .int 0]) (rest := []) hC hP hS (ctX12_copies l hc18 D cy ad ec _) kMS_X12_401 kC_X12_copies hd_X12_copies.2 rfl ⟨(Nat.le_of_ble_eq_true rfl), (Nat.le_of_ble_eq_true rfl)⟩ ⟨Nat.le_refl 0, Nat.le_refl 0⟩ hl.1 (Nat.le_of_ble_eq_true rfl) rfl dX12_judged_108) (fun H locs hP hS => ?_)
        refine lv_iload_n hx hb dX12_judged_111 rfl (lv_at hl 2 rfl) ?_
        obtain ⟨v21, ev21, hf⟩ := fxL_e hf
        have j_v21 : ∀ (z22 : Int32), z22 = ((if a1 = 0 then x13 else (if a1 = 1 then x14 else v17)) : Int32) → ∀ (ls : Array Slot), lv_has ls 5 [] → W p l e (fx_R (7)) s m args below meth c H locs 0 0 (fx_Qi D cy LM ad A below args s v σ') (F0 m 130 ls [.int z22]) := by
          intro z22 hz22 ls hl
          obtain rfl : v21 = z22 := ev21.trans hz22.symm
          exact fx_iretf hf hC hr hk hP hS dX12_judged_130
        refine lv_if_ne (tgt := 119) hx hb dX12_judged_112 (by decide) (fun c23 => ?_) (fun c23 => ?_)
        · refine lv_iload_n hx hb dX12_judged_119 rfl (lv_at hl 2 rfl) ?_
          refine lv_iconst hx hb dX12_judged_120 ki_1 ?_
          refine lv_icmp_ne (tgt := 128) hx hb dX12_judged_121 (by decide) (fun c24 => ?_) (fun c24 => ?_)
          · refine lv_iload hx hb dX12_judged_128 (lv_at hl 0 rfl) ?_
            exact j_v21 v17 ((if_neg c23).trans (if_neg c24)).symm ls (lv_sub hl [] rfl)
          · refine lv_iload_n hx hb dX12_judged_124 rfl (lv_at hl 4 rfl) ?_
            refine lv_goto (tgt := 130) hx hb dX12_judged_125 (by decide) ?_
            exact j_v21 x14 ((if_neg c23).trans (if_pos c24)).symm ls (lv_sub hl [] rfl)
        · refine lv_iload_n hx hb dX12_judged_115 rfl (lv_at hl 3 rfl) ?_
          refine lv_goto (tgt := 130) hx hb dX12_judged_116 (by decide) ?_
          exact j_v21 x13 (if_pos c23).symm ls (lv_sub hl [] rfl)
      have L45 : ∀ (n30 : Nat) (w25 : Int32) (w26 : Int32) (w27 : Int32) (σ28 : FH) (H : Heap) (locs : List Loc) (ls : Array Slot), fx_P D cy LM ad σ28 H → va_S A s.heap H locs → lv_has ls 5 [(0, .ref (ad 0)), (1, .int a1), (2, .int w25), (3, .int w26), (4, .int w27)] → fX12_judged_41 K12 n30 w25 w26 w27 σ28 = some (v, σ') → W p l e (fx_R (7)) s m args below meth c H locs 0 0 (fx_Qi D cy LM ad A below args s v σ') (F0 m 41 ls []) := by
        intro n30
        induction n30 with
        | zero =>
          intro w25 w26 w27 σ28 H locs ls hP hS hl hf
          rw [fX12_judged_41] at hf
          cases hf
        | succ n30 ih29 =>
          intro w25 w26 w27 σ28 H locs ls hP hS hl hf
          rw [fX12_judged_41] at hf
          refine lv_iload hx hb dX12_judged_41 (lv_at hl 4 rfl) ?_
          refine lv_aload_n hx hb dX12_judged_43 rfl (lv_at hl 0 rfl) ?_
          refine gf_X12_84 (v := .ref (ad 25)) hC hP kM_0 rfl dX12_judged_44 ?_
          refine lv_iconst hx hb dX12_judged_47 ki_0 ?_
          obtain ⟨h31, hf⟩ := fxG_e hf
          refine fx_iald hC hP kM_25 (fx_inp h31) dX12_judged_48 ?_
          refine lv_icmp_ge (tgt := 90) hx hb dX12_judged_49 (by decide) (fun c32 => ?_) (fun c32 => ?_)
          · replace hf := fx_it c32 hf
            exact k_K12 w25 w26 σ28 _ _ _ hP hS (lv_sub hl [0, 1, 2, 3] rfl) hf
          · replace hf := fx_ie c32 hf
            refine lv_aload_n hx hb dX12_judged_52 rfl (lv_at hl 0 rfl) ?_
            refine lv_iload hx hb dX12_judged_53 (lv_at hl 4 rfl) ?_
            obtain ⟨r34, σ35, hc33, hf⟩ := fxBI_e hf
            refine fx_ci hC hS (fx_runV (i := 0) (As := [.int w27]) (rest := []) hC hP hS (ctX12_goes l hc33 D cy ad ec _) kM_0 (by decide) rfl kMV_X12_424 kC_X12_goes hd_X12_goes rfl ⟨(Nat.le_of_ble_eq_true rfl), (Nat.le_of_ble_eq_true rfl)⟩ ⟨Nat.le_refl 0, Nat.le_refl 0⟩ hl.1 (Nat.le_of_ble_eq_true rfl) rfl dX12_judged_55) (fun H locs hP hS => ?_)
            obtain ⟨v36, ev36, hf⟩ := fxL_e hf
            have j_v36 : ∀ (z37 : Int32), z37 = ((if r34 = 0 then (if 0 ≤ w25 then w25 else w27) else w25) : Int32) → ∀ (ls : Array Slot), lv_has ls 5 [(0, .ref (ad 0)), (1, .int a1), (2, .int z37), (3, .int w26), (4, .int w27)] → W p l e (fx_R (7)) s m args below meth c H locs 0 0 (fx_Qi D cy LM ad A below args s v σ') (F0 m 68 ls []) := by
              intro z37 hz37 ls hl
              obtain rfl : v36 = z37 := ev36.trans hz37.symm
              refine lv_aload_n hx hb dX12_judged_68 rfl (lv_at hl 0 rfl) ?_
              refine gf_X12_108 (v := .ref (ad 33)) hC hP kM_0 rfl dX12_judged_69 ?_
              refine lv_iconst hx hb dX12_judged_72 ki_1 ?_
              obtain ⟨h40, hf⟩ := fxG_e hf
              refine fx_iald hC hP kM_33 (fx_inp h40) dX12_judged_73 ?_
              obtain ⟨v41, ev41, hf⟩ := fxL_e hf
              have j_v41 : ∀ (z42 : Int32), z42 = ((if (σ35.1 33 (Int32.toNatClampNeg 1)) ≤ 0 then w26 else (if 0 ≤ w26 then w26 else w27)) : Int32) → ∀ (ls : Array Slot), lv_has ls 5 [(0, .ref (ad 0)), (1, .int a1), (2, .int v36), (3, .int z42), (4, .int w27)] → W p l e (fx_R (7)) s m args below meth c H locs 0 0 (fx_Qi D cy LM ad A below args s v σ') (F0 m 84 ls []) := by
                intro z42 hz42 ls hl
                obtain rfl : v41 = z42 := ev41.trans hz42.symm
                refine lv_iinc (v := (w27 + 1)) (lv' := [(4, .int (w27 + 1)), (0, .ref (ad 0)), (1, .int a1), (2, .int v36), (3, .int v41)]) hx hb dX12_judged_84 hl (k := 4) rfl (congrArg (fun z => w27 + z) ki_1) (by decide) rfl (fun ls hl => ?_)
                refine lv_goto (tgt := 41) hx hb dX12_judged_87 (by decide) ?_
                exact ih29 v36 v41 (w27 + 1) σ35 _ _ _ hP hS (lv_sub hl [1, 2, 3, 4, 0] rfl) hf
              refine lv_if_le (tgt := 84) hx hb dX12_judged_74 (by decide) (fun c43 => ?_) (fun c43 => ?_)
              · exact j_v41 w26 (if_pos c43).symm ls (lv_sub hl [0, 1, 2, 3, 4] rfl)
              · refine lv_iload_n hx hb dX12_judged_77 rfl (lv_at hl 3 rfl) ?_
                refine lv_if_ge (tgt := 84) hx hb dX12_judged_78 (by decide) (fun c44 => ?_) (fun c44 => ?_)
                · exact j_v41 w26 ((if_neg c43).trans (if_pos c44)).symm ls (lv_sub hl [0, 1, 2, 3, 4] rfl)
                · refine lv_iload hx hb dX12_judged_81 (lv_at hl 4 rfl) ?_
                  refine lv_istore_n (lv' := [(3, .int w27), (0, .ref (ad 0)), (1, .int a1), (2, .int v36), (4, .int w27)]) hx hb dX12_judged_83 rfl hl (by decide) rfl (fun ls hl => ?_)
                  exact j_v41 w27 ((if_neg c43).trans (if_neg c44)).symm ls (lv_sub hl [1, 2, 3, 0, 4] rfl)
            refine lv_if_ne (tgt := 68) hx hb dX12_judged_58 (by decide) (fun c38 => ?_) (fun c38 => ?_)
            · exact j_v36 w25 (if_neg c38).symm ls (lv_sub hl [0, 1, 2, 3, 4] rfl)
            · refine lv_iload_n hx hb dX12_judged_61 rfl (lv_at hl 2 rfl) ?_
              refine lv_if_ge (tgt := 68) hx hb dX12_judged_62 (by decide) (fun c39 => ?_) (fun c39 => ?_)
              · exact j_v36 w25 ((if_pos c38).trans (if_pos c39)).symm ls (lv_sub hl [0, 1, 2, 3, 4] rfl)
              · refine lv_iload hx hb dX12_judged_65 (lv_at hl 4 rfl) ?_
                refine lv_istore_n (lv' := [(2, .int w27), (0, .ref (ad 0)), (1, .int a1), (3, .int w26), (4, .int w27)]) hx hb dX12_judged_67 rfl hl (by decide) rfl (fun ls hl => ?_)
                exact j_v36 w27 ((if_pos c38).trans (if_neg c39)).symm ls (lv_sub hl [1, 2, 0, 3, 4] rfl)
      exact L45 FU (-1) (-1) 0 σ11 _ _ _ hP hS (lv_sub hl [3, 4, 2, 1, 0] rfl) hf
    · replace hf := fx_it c5 hf
      refine lv_bipush hx hb dX12_judged_14 kb_m2 ?_
      exact fx_iretf hf hC hr hk hP hS dX12_judged_16
  exact main _ _ _ hP hS hl

set_option maxHeartbeats 4000000 in
set_option maxRecDepth 100000 in
theorem ctX12_when (l : Launch) {a1 : Int32} {σ σ' : FH} {v : Int32} (hf : fX12_when a1 σ = some (v, σ')) : fx_Mi l yX12_when cX12_when 3 (some .int) (6) LM (fun ad ec => [.ref (ad 0), .int a1]) σ v σ' := by
  unfold fX12_when at hf
  refine fx_mi' (own := RX12) rfl (by decide +kernel) ?_
  intro p e s m args below meth c D cy ad ec A hC hr hk hP hS
  have hx := hC.1
  have hb := hC.2.1
  have hl := lv_entry ([.ref (ad 0), .int a1]) (n := 3) (Nat.le_of_ble_eq_true rfl)
  show W _ _ _ _ _ _ _ _ _ _ _ _ _ _ _ (entryFrame m ([.ref (ad 0), .int a1] : List Value).toArray 3)
  rw [lg_entry_eq]
  generalize (lg_sl ([.ref (ad 0), .int a1]) ++ List.replicate (3 - (lg_sl ([.ref (ad 0), .int a1])).length) Slot.unset).toArray = ls at hl ⊢
  have hl : lv_has ls 3 [(0, .ref (ad 0)), (1, .int a1)] := hl
  have main : ∀ (H : Heap) (locs : List Loc) (ls : Array Slot), fx_P D cy LM ad σ H → va_S A s.heap H locs → lv_has ls 3 [(0, .ref (ad 0)), (1, .int a1)] → W p l e (fx_R (6)) s m args below meth c H locs 0 0 (fx_Qi D cy LM ad A below args s v σ') (F0 m 0 ls []) := by
    intro H locs ls hP hS hl
    refine lv_aload_n hx hb dX12_when_0 rfl (lv_at hl 0 rfl) ?_
    refine lv_iconst hx hb dX12_when_1 ki_0 ?_
    obtain ⟨σ1, eσ1, hf⟩ := fxL_e hf
    refine pf_X12_133 hC hP hS kM_0 dX12_when_2 (fun H locs hP hS => ?_)
    replace hP := fx_Pe eσ1 hP
    refine lv_aload_n hx hb dX12_when_5 rfl (lv_at hl 0 rfl) ?_
    refine lv_iload_n hx hb dX12_when_6 rfl (lv_at hl 1 rfl) ?_
    obtain ⟨r3, hc2, hf⟩ := fxBP_e hf
    refine fx_ci hC hS (fx_runV (i := 0) (As := [.int a1]) (rest := []) hC hP hS (ctX12_isWare l hc2 D cy ad ec _) kM_0 (by decide) rfl kMV_X12_392 kC_X12_isWare hd_X12_isWare rfl ⟨(Nat.le_of_ble_eq_true rfl), (Nat.le_of_ble_eq_true rfl)⟩ ⟨Nat.le_refl 0, Nat.le_refl 0⟩ hl.1 (Nat.le_of_ble_eq_true rfl) rfl dX12_when_7) (fun H locs hP hS => ?_)
    refine lv_if_ne (tgt := 15) hx hb dX12_when_10 (by decide) (fun c5 => ?_) (fun c5 => ?_)
    · replace hf := fx_ie c5 hf
      refine lv_aload_n hx hb dX12_when_15 rfl (lv_at hl 0 rfl) ?_
      refine gf_X12_108 (v := .ref (ad 33)) hC hP kM_0 rfl dX12_when_16 ?_
      refine lv_iconst hx hb dX12_when_19 ki_0 ?_
      refine lv_aload_n hx hb dX12_when_20 rfl (lv_at hl 0 rfl) ?_
      refine gf_X12_114 (v := .ref (ad 35)) hC hP kM_0 rfl dX12_when_21 ?_
      refine lv_iconst hx hb dX12_when_24 ki_0 ?_
      obtain ⟨σ8, hc6, hf⟩ := fxBV_e hf
      refine fx_cv hC hS (fx_runS (As := [.ref (ad 33), .int 0, .ref (ad 35), .int 0]) (rest := []) hC hP hS (ctX12_copies l hc6 D cy ad ec _) kMS_X12_401 kC_X12_copies hd_X12_copies.2 rfl ⟨(Nat.le_of_ble_eq_true rfl), (Nat.le_of_ble_eq_true rfl)⟩ ⟨Nat.le_refl 0, Nat.le_refl 0⟩ hl.1 (Nat.le_of_ble_eq_true rfl) rfl dX12_when_25) (fun H locs hP hS => ?_)
      refine lv_iconst hx hb dX12_when_28 ki_0 ?_
      refine lv_istore_n (lv' := [(2, .int 0), (0, .ref (ad 0)), (1, .int a1)]) hx hb dX12_when_29 rfl hl (by decide) rfl (fun ls hl => ?_)
      obtain ⟨K9, hK9, hf⟩ := fxL_e hf
      have k_K9 : ∀ (x10 : Int32) (σ11 : FH) (H : Heap) (locs : List Loc) (ls : Array Slot), fx_P D cy LM ad σ11 H → va_S A s.heap H locs → lv_has ls 3 [(0, .ref (ad 0)), (2, .int x10)] → K9 x10 σ11 = some (v, σ') → W p l e (fx_R (6)) s m args below meth c H locs 0 0 (fx_Qi D cy LM ad A below args s v σ') (F0 m 55 ls []) := by
        intro x10 σ11 H locs ls hP hS hl hf
        replace hf := fxk2 hK9 hf
        refine lv_aload_n hx hb dX12_when_55 rfl (lv_at hl 0 rfl) ?_
        refine gf_X12_114 (v := .ref (ad 35)) hC hP kM_0 rfl dX12_when_56 ?_
        refine lv_iconst hx hb dX12_when_59 ki_0 ?_
        refine lv_aload_n hx hb dX12_when_60 rfl (lv_at hl 0 rfl) ?_
        refine gf_X12_108 (v := .ref (ad 33)) hC hP kM_0 rfl dX12_when_61 ?_
        refine lv_iconst hx hb dX12_when_64 ki_0 ?_
        obtain ⟨σ14, hc12, hf⟩ := fxBV_e hf
        refine fx_cv hC hS (fx_runS (As := [.ref (ad 35), .int 0, .ref (ad 33), .int 0]) (rest := []) hC hP hS (ctX12_copies l hc12 D cy ad ec _) kMS_X12_401 kC_X12_copies hd_X12_copies.2 rfl ⟨(Nat.le_of_ble_eq_true rfl), (Nat.le_of_ble_eq_true rfl)⟩ ⟨Nat.le_refl 0, Nat.le_refl 0⟩ hl.1 (Nat.le_of_ble_eq_true rfl) rfl dX12_when_65) (fun H locs hP hS => ?_)
        refine lv_iload_n hx hb dX12_when_68 rfl (lv_at hl 1 rfl) ?_
        refine lv_bipush hx hb dX12_when_69 kb_60 ?_
        obtain ⟨v15, ev15, hf⟩ := fxL_e hf
        have j_v15 : ∀ (z16 : Int32), z16 = ((if x10 ≤ 60 then x10 else (-1)) : Int32) → ∀ (ls : Array Slot), lv_has ls 3 [] → W p l e (fx_R (6)) s m args below meth c H locs 0 0 (fx_Qi D cy LM ad A below args s v σ') (F0 m 79 ls [.int z16]) := by
          intro z16 hz16 ls hl
          obtain rfl : v15 = z16 := ev15.trans hz16.symm
          exact fx_iretf hf hC hr hk hP hS dX12_when_79
        refine lv_icmp_le (tgt := 78) hx hb dX12_when_71 (by decide) (fun c17 => ?_) (fun c17 => ?_)
        · refine lv_iload_n hx hb dX12_when_78 rfl (lv_at hl 1 rfl) ?_
          exact j_v15 x10 (if_pos c17).symm ls (lv_sub hl [] rfl)
        · refine lv_iconst hx hb dX12_when_74 ki_m1 ?_
          refine lv_goto (tgt := 79) hx hb dX12_when_75 (by decide) ?_
          exact j_v15 (-1) (if_neg c17).symm ls (lv_sub hl [] rfl)
      have L30 : ∀ (n21 : Nat) (w18 : Int32) (σ19 : FH) (H : Heap) (locs : List Loc) (ls : Array Slot), fx_P D cy LM ad σ19 H → va_S A s.heap H locs → lv_has ls 3 [(0, .ref (ad 0)), (1, .int a1), (2, .int w18)] → fX12_when_30 a1 K9 n21 w18 σ19 = some (v, σ') → W p l e (fx_R (6)) s m args below meth c H locs 0 0 (fx_Qi D cy LM ad A below args s v σ') (F0 m 30 ls []) := by
        intro n21
        induction n21 with
        | zero =>
          intro w18 σ19 H locs ls hP hS hl hf
          rw [fX12_when_30] at hf
          cases hf
        | succ n21 ih20 =>
          intro w18 σ19 H locs ls hP hS hl hf
          rw [fX12_when_30] at hf
          refine lv_iload_n hx hb dX12_when_30 rfl (lv_at hl 2 rfl) ?_
          refine lv_bipush hx hb dX12_when_31 kb_60 ?_
          refine lv_icmp_gt (tgt := 55) hx hb dX12_when_33 (by decide) (fun c22 => ?_) (fun c22 => ?_)
          · replace hf := fx_it c22 hf
            exact k_K9 w18 σ19 _ _ _ hP hS (lv_sub hl [0, 2] rfl) hf
          · replace hf := fx_ie c22 hf
            refine lv_aload_n hx hb dX12_when_36 rfl (lv_at hl 0 rfl) ?_
            refine lv_iload_n hx hb dX12_when_37 rfl (lv_at hl 1 rfl) ?_
            obtain ⟨r24, hc23, hf⟩ := fxBP_e hf
            refine fx_ci hC hS (fx_runV (i := 0) (As := [.int a1]) (rest := []) hC hP hS (ctX12_isHalf l hc23 D cy ad ec _) kM_0 (by decide) rfl kMV_X12_386 kC_X12_isHalf hd_X12_isHalf rfl ⟨(Nat.le_of_ble_eq_true rfl), (Nat.le_of_ble_eq_true rfl)⟩ ⟨Nat.le_refl 0, Nat.le_refl 0⟩ hl.1 (Nat.le_of_ble_eq_true rfl) rfl dX12_when_38) (fun H locs hP hS => ?_)
            refine lv_if_ne (tgt := 55) hx hb dX12_when_41 (by decide) (fun c26 => ?_) (fun c26 => ?_)
            · replace hf := fx_ie c26 hf
              exact k_K9 w18 σ19 _ _ _ hP hS (lv_sub hl [0, 2] rfl) hf
            · replace hf := fx_it c26 hf
              refine lv_aload_n hx hb dX12_when_44 rfl (lv_at hl 0 rfl) ?_
              obtain ⟨r28, σ29, hc27, hf⟩ := fxBI_e hf
              refine fx_ci hC hS (fx_runV (i := 0) (As := []) (rest := []) hC hP hS (ctX12_passes l hc27 D cy ad ec _) kM_0 (by decide) rfl kMV_X12_421 kC_X12_passes hd_X12_passes rfl ⟨(Nat.le_of_ble_eq_true rfl), (Nat.le_of_ble_eq_true rfl)⟩ ⟨Nat.le_refl 0, Nat.le_refl 0⟩ hl.1 (Nat.le_of_ble_eq_true rfl) rfl dX12_when_45) (fun H locs hP hS => ?_)
              refine lv_pop hx hb dX12_when_48 rfl ?_
              refine lv_iinc (v := (w18 + 1)) (lv' := [(2, .int (w18 + 1)), (0, .ref (ad 0)), (1, .int a1)]) hx hb dX12_when_49 hl (k := 2) rfl (congrArg (fun z => w18 + z) ki_1) (by decide) rfl (fun ls hl => ?_)
              refine lv_goto (tgt := 30) hx hb dX12_when_52 (by decide) ?_
              exact ih20 (w18 + 1) σ29 _ _ _ hP hS (lv_sub hl [1, 2, 0] rfl) hf
      exact L30 FU 0 σ8 _ _ _ hP hS (lv_sub hl [1, 2, 0] rfl) hf
    · replace hf := fx_it c5 hf
      refine lv_iconst hx hb dX12_when_13 ki_m1 ?_
      exact fx_iretf hf hC hr hk hP hS dX12_when_14
  exact main _ _ _ hP hS hl

set_option maxHeartbeats 4000000 in
set_option maxRecDepth 100000 in
theorem ctX12_caught (l : Launch) {a1 : Int32} {σ σ' : FH} {v : Int32} (hf : fX12_caught a1 σ = some (v, σ')) : fx_Mi l yX12_caught cX12_caught 4 (some .int) (6) LM (fun ad ec => [.ref (ad 0), .int a1]) σ v σ' := by
  unfold fX12_caught at hf
  refine fx_mi' (own := RX12) rfl (by decide +kernel) ?_
  intro p e s m args below meth c D cy ad ec A hC hr hk hP hS
  have hx := hC.1
  have hb := hC.2.1
  have hl := lv_entry ([.ref (ad 0), .int a1]) (n := 4) (Nat.le_of_ble_eq_true rfl)
  show W _ _ _ _ _ _ _ _ _ _ _ _ _ _ _ (entryFrame m ([.ref (ad 0), .int a1] : List Value).toArray 4)
  rw [lg_entry_eq]
  generalize (lg_sl ([.ref (ad 0), .int a1]) ++ List.replicate (4 - (lg_sl ([.ref (ad 0), .int a1])).length) Slot.unset).toArray = ls at hl ⊢
  have hl : lv_has ls 4 [(0, .ref (ad 0)), (1, .int a1)] := hl
  have main : ∀ (H : Heap) (locs : List Loc) (ls : Array Slot), fx_P D cy LM ad σ H → va_S A s.heap H locs → lv_has ls 4 [(0, .ref (ad 0)), (1, .int a1)] → W p l e (fx_R (6)) s m args below meth c H locs 0 0 (fx_Qi D cy LM ad A below args s v σ') (F0 m 0 ls []) := by
    intro H locs ls hP hS hl
    refine lv_aload_n hx hb dX12_caught_0 rfl (lv_at hl 0 rfl) ?_
    refine lv_iconst hx hb dX12_caught_1 ki_0 ?_
    obtain ⟨σ1, eσ1, hf⟩ := fxL_e hf
    refine pf_X12_133 hC hP hS kM_0 dX12_caught_2 (fun H locs hP hS => ?_)
    replace hP := fx_Pe eσ1 hP
    refine lv_aload_n hx hb dX12_caught_5 rfl (lv_at hl 0 rfl) ?_
    refine lv_iload_n hx hb dX12_caught_6 rfl (lv_at hl 1 rfl) ?_
    obtain ⟨r3, hc2, hf⟩ := fxBP_e hf
    refine fx_ci hC hS (fx_runV (i := 0) (As := [.int a1]) (rest := []) hC hP hS (ctX12_isWare l hc2 D cy ad ec _) kM_0 (by decide) rfl kMV_X12_392 kC_X12_isWare hd_X12_isWare rfl ⟨(Nat.le_of_ble_eq_true rfl), (Nat.le_of_ble_eq_true rfl)⟩ ⟨Nat.le_refl 0, Nat.le_refl 0⟩ hl.1 (Nat.le_of_ble_eq_true rfl) rfl dX12_caught_7) (fun H locs hP hS => ?_)
    refine lv_if_ne (tgt := 15) hx hb dX12_caught_10 (by decide) (fun c5 => ?_) (fun c5 => ?_)
    · replace hf := fx_ie c5 hf
      refine lv_aload_n hx hb dX12_caught_15 rfl (lv_at hl 0 rfl) ?_
      refine gf_X12_108 (v := .ref (ad 33)) hC hP kM_0 rfl dX12_caught_16 ?_
      refine lv_iconst hx hb dX12_caught_19 ki_0 ?_
      refine lv_aload_n hx hb dX12_caught_20 rfl (lv_at hl 0 rfl) ?_
      refine gf_X12_114 (v := .ref (ad 35)) hC hP kM_0 rfl dX12_caught_21 ?_
      refine lv_iconst hx hb dX12_caught_24 ki_0 ?_
      obtain ⟨σ8, hc6, hf⟩ := fxBV_e hf
      refine fx_cv hC hS (fx_runS (As := [.ref (ad 33), .int 0, .ref (ad 35), .int 0]) (rest := []) hC hP hS (ctX12_copies l hc6 D cy ad ec _) kMS_X12_401 kC_X12_copies hd_X12_copies.2 rfl ⟨(Nat.le_of_ble_eq_true rfl), (Nat.le_of_ble_eq_true rfl)⟩ ⟨Nat.le_refl 0, Nat.le_refl 0⟩ hl.1 (Nat.le_of_ble_eq_true rfl) rfl dX12_caught_25) (fun H locs hP hS => ?_)
      refine lv_iconst hx hb dX12_caught_28 ki_m1 ?_
      refine lv_istore_n (lv' := [(2, .int (-1)), (0, .ref (ad 0)), (1, .int a1)]) hx hb dX12_caught_29 rfl hl (by decide) rfl (fun ls hl => ?_)
      refine lv_iconst hx hb dX12_caught_30 ki_1 ?_
      refine lv_istore_n (lv' := [(3, .int 1), (2, .int (-1)), (0, .ref (ad 0)), (1, .int a1)]) hx hb dX12_caught_31 rfl hl (by decide) rfl (fun ls hl => ?_)
      obtain ⟨K9, hK9, hf⟩ := fxL_e hf
      have k_K9 : ∀ (x10 : Int32) (σ11 : FH) (H : Heap) (locs : List Loc) (ls : Array Slot), fx_P D cy LM ad σ11 H → va_S A s.heap H locs → lv_has ls 4 [(0, .ref (ad 0)), (2, .int x10)] → K9 x10 σ11 = some (v, σ') → W p l e (fx_R (6)) s m args below meth c H locs 0 0 (fx_Qi D cy LM ad A below args s v σ') (F0 m 67 ls []) := by
        intro x10 σ11 H locs ls hP hS hl hf
        replace hf := fxk2 hK9 hf
        refine lv_aload_n hx hb dX12_caught_67 rfl (lv_at hl 0 rfl) ?_
        refine gf_X12_114 (v := .ref (ad 35)) hC hP kM_0 rfl dX12_caught_68 ?_
        refine lv_iconst hx hb dX12_caught_71 ki_0 ?_
        refine lv_aload_n hx hb dX12_caught_72 rfl (lv_at hl 0 rfl) ?_
        refine gf_X12_108 (v := .ref (ad 33)) hC hP kM_0 rfl dX12_caught_73 ?_
        refine lv_iconst hx hb dX12_caught_76 ki_0 ?_
        obtain ⟨σ14, hc12, hf⟩ := fxBV_e hf
        refine fx_cv hC hS (fx_runS (As := [.ref (ad 35), .int 0, .ref (ad 33), .int 0]) (rest := []) hC hP hS (ctX12_copies l hc12 D cy ad ec _) kMS_X12_401 kC_X12_copies hd_X12_copies.2 rfl ⟨(Nat.le_of_ble_eq_true rfl), (Nat.le_of_ble_eq_true rfl)⟩ ⟨Nat.le_refl 0, Nat.le_refl 0⟩ hl.1 (Nat.le_of_ble_eq_true rfl) rfl dX12_caught_77) (fun H locs hP hS => ?_)
        refine lv_iload_n hx hb dX12_caught_80 rfl (lv_at hl 1 rfl) ?_
        exact fx_iretf hf hC hr hk hP hS dX12_caught_81
      have L28 : ∀ (n19 : Nat) (w15 : Int32) (w16 : Int32) (σ17 : FH) (H : Heap) (locs : List Loc) (ls : Array Slot), fx_P D cy LM ad σ17 H → va_S A s.heap H locs → lv_has ls 4 [(0, .ref (ad 0)), (1, .int a1), (2, .int w15), (3, .int w16)] → fX12_caught_32 a1 K9 n19 w15 w16 σ17 = some (v, σ') → W p l e (fx_R (6)) s m args below meth c H locs 0 0 (fx_Qi D cy LM ad A below args s v σ') (F0 m 32 ls []) := by
        intro n19
        induction n19 with
        | zero =>
          intro w15 w16 σ17 H locs ls hP hS hl hf
          rw [fX12_caught_32] at hf
          cases hf
        | succ n19 ih18 =>
          intro w15 w16 σ17 H locs ls hP hS hl hf
          rw [fX12_caught_32] at hf
          refine lv_iload_n hx hb dX12_caught_32 rfl (lv_at hl 3 rfl) ?_
          refine lv_bipush hx hb dX12_caught_33 kb_60 ?_
          refine lv_icmp_gt (tgt := 67) hx hb dX12_caught_35 (by decide) (fun c20 => ?_) (fun c20 => ?_)
          · replace hf := fx_it c20 hf
            exact k_K9 w15 σ17 _ _ _ hP hS (lv_sub hl [0, 2] rfl) hf
          · replace hf := fx_ie c20 hf
            refine lv_iload_n hx hb dX12_caught_38 rfl (lv_at hl 2 rfl) ?_
            refine lv_if_ge (tgt := 67) hx hb dX12_caught_39 (by decide) (fun c21 => ?_) (fun c21 => ?_)
            · replace hf := fx_it c21 hf
              exact k_K9 w15 σ17 _ _ _ hP hS (lv_sub hl [0, 2] rfl) hf
            · replace hf := fx_ie c21 hf
              refine lv_aload_n hx hb dX12_caught_42 rfl (lv_at hl 0 rfl) ?_
              obtain ⟨r23, σ24, hc22, hf⟩ := fxBI_e hf
              refine fx_ci hC hS (fx_runV (i := 0) (As := []) (rest := []) hC hP hS (ctX12_passes l hc22 D cy ad ec _) kM_0 (by decide) rfl kMV_X12_421 kC_X12_passes hd_X12_passes rfl ⟨(Nat.le_of_ble_eq_true rfl), (Nat.le_of_ble_eq_true rfl)⟩ ⟨Nat.le_refl 0, Nat.le_refl 0⟩ hl.1 (Nat.le_of_ble_eq_true rfl) rfl dX12_caught_43) (fun H locs hP hS => ?_)
              refine lv_pop hx hb dX12_caught_46 rfl ?_
              refine lv_aload_n hx hb dX12_caught_47 rfl (lv_at hl 0 rfl) ?_
              refine gf_X12_380 (v := .int (σ24.1 0 52)) hC hP kM_0 rfl dX12_caught_48 ?_
              refine lv_iload_n hx hb dX12_caught_51 rfl (lv_at hl 1 rfl) ?_
              refine lv_ishr hx hb dX12_caught_52 ?_
              refine lv_iconst hx hb dX12_caught_53 ki_1 ?_
              refine lv_iand hx hb dX12_caught_54 ?_
              refine lv_iconst hx hb dX12_caught_55 ki_1 ?_
              obtain ⟨v25, ev25, hf⟩ := fxL_e hf
              have j_v25 : ∀ (z26 : Int32), z26 = ((if (((σ24.1 0 52) >>> (a1 &&& 31)) &&& 1) = 1 then w16 else w15) : Int32) → ∀ (ls : Array Slot), lv_has ls 4 [(0, .ref (ad 0)), (1, .int a1), (2, .int z26), (3, .int w16)] → W p l e (fx_R (6)) s m args below meth c H locs 0 0 (fx_Qi D cy LM ad A below args s v σ') (F0 m 61 ls []) := by
                intro z26 hz26 ls hl
                obtain rfl : v25 = z26 := ev25.trans hz26.symm
                refine lv_iinc (v := (w16 + 1)) (lv' := [(3, .int (w16 + 1)), (0, .ref (ad 0)), (1, .int a1), (2, .int v25)]) hx hb dX12_caught_61 hl (k := 3) rfl (congrArg (fun z => w16 + z) ki_1) (by decide) rfl (fun ls hl => ?_)
                refine lv_goto (tgt := 32) hx hb dX12_caught_64 (by decide) ?_
                exact ih18 v25 (w16 + 1) σ24 _ _ _ hP hS (lv_sub hl [1, 2, 3, 0] rfl) hf
              refine lv_icmp_ne (tgt := 61) hx hb dX12_caught_56 (by decide) (fun c27 => ?_) (fun c27 => ?_)
              · exact j_v25 w15 (if_neg c27).symm ls (lv_sub hl [0, 1, 2, 3] rfl)
              · refine lv_iload_n hx hb dX12_caught_59 rfl (lv_at hl 3 rfl) ?_
                refine lv_istore_n (lv' := [(2, .int w16), (0, .ref (ad 0)), (1, .int a1), (3, .int w16)]) hx hb dX12_caught_60 rfl hl (by decide) rfl (fun ls hl => ?_)
                exact j_v25 w16 (if_pos c27).symm ls (lv_sub hl [1, 2, 0, 3] rfl)
      exact L28 FU (-1) 1 σ8 _ _ _ hP hS (lv_sub hl [2, 3, 1, 0] rfl) hf
    · replace hf := fx_it c5 hf
      refine lv_iconst hx hb dX12_caught_13 ki_m1 ?_
      exact fx_iretf hf hC hr hk hP hS dX12_caught_14
  exact main _ _ _ hP hS hl

set_option maxHeartbeats 4000000 in
set_option maxRecDepth 100000 in
theorem ctX12_joined (l : Launch) {a1 : Int32} {a2 : Int32} {σ σ' : FH} {v : Int32} (hf : fX12_joined a1 a2 σ = some (v, σ')) : fx_Mi l yX12_joined cX12_joined 4 (some .int) (6) LM (fun ad ec => [.ref (ad 0), .int a1, .int a2]) σ v σ' := by
  unfold fX12_joined at hf
  refine fx_mi' (own := RX12) rfl (by decide +kernel) ?_
  intro p e s m args below meth c D cy ad ec A hC hr hk hP hS
  have hx := hC.1
  have hb := hC.2.1
  have hl := lv_entry ([.ref (ad 0), .int a1, .int a2]) (n := 4) (Nat.le_of_ble_eq_true rfl)
  show W _ _ _ _ _ _ _ _ _ _ _ _ _ _ _ (entryFrame m ([.ref (ad 0), .int a1, .int a2] : List Value).toArray 4)
  rw [lg_entry_eq]
  generalize (lg_sl ([.ref (ad 0), .int a1, .int a2]) ++ List.replicate (4 - (lg_sl ([.ref (ad 0), .int a1, .int a2])).length) Slot.unset).toArray = ls at hl ⊢
  have hl : lv_has ls 4 [(0, .ref (ad 0)), (1, .int a1), (2, .int a2)] := hl
  have main : ∀ (H : Heap) (locs : List Loc) (ls : Array Slot), fx_P D cy LM ad σ H → va_S A s.heap H locs → lv_has ls 4 [(0, .ref (ad 0)), (1, .int a1), (2, .int a2)] → W p l e (fx_R (6)) s m args below meth c H locs 0 0 (fx_Qi D cy LM ad A below args s v σ') (F0 m 0 ls []) := by
    intro H locs ls hP hS hl
    refine lv_aload_n hx hb dX12_joined_0 rfl (lv_at hl 0 rfl) ?_
    refine lv_iconst hx hb dX12_joined_1 ki_0 ?_
    obtain ⟨σ1, eσ1, hf⟩ := fxL_e hf
    refine pf_X12_133 hC hP hS kM_0 dX12_joined_2 (fun H locs hP hS => ?_)
    replace hP := fx_Pe eσ1 hP
    refine lv_aload_n hx hb dX12_joined_5 rfl (lv_at hl 0 rfl) ?_
    refine lv_iload_n hx hb dX12_joined_6 rfl (lv_at hl 1 rfl) ?_
    obtain ⟨r3, hc2, hf⟩ := fxBP_e hf
    refine fx_ci hC hS (fx_runV (i := 0) (As := [.int a1]) (rest := []) hC hP hS (ctX12_isWare l hc2 D cy ad ec _) kM_0 (by decide) rfl kMV_X12_392 kC_X12_isWare hd_X12_isWare rfl ⟨(Nat.le_of_ble_eq_true rfl), (Nat.le_of_ble_eq_true rfl)⟩ ⟨Nat.le_refl 0, Nat.le_refl 0⟩ hl.1 (Nat.le_of_ble_eq_true rfl) rfl dX12_joined_7) (fun H locs hP hS => ?_)
    refine lv_if_eq (tgt := 41) hx hb dX12_joined_10 (by decide) (fun c5 => ?_) (fun c5 => ?_)
    · replace hf := fx_it c5 hf
      refine lv_iconst hx hb dX12_joined_41 ki_m1 ?_
      exact fx_iretf hf hC hr hk hP hS dX12_joined_42
    · replace hf := fx_ie c5 hf
      refine lv_aload_n hx hb dX12_joined_13 rfl (lv_at hl 0 rfl) ?_
      refine lv_iload_n hx hb dX12_joined_14 rfl (lv_at hl 2 rfl) ?_
      obtain ⟨r7, hc6, hf⟩ := fxBP_e hf
      refine fx_ci hC hS (fx_runV (i := 0) (As := [.int a2]) (rest := []) hC hP hS (ctX12_isWare l hc6 D cy ad ec _) kM_0 (by decide) rfl kMV_X12_392 kC_X12_isWare hd_X12_isWare rfl ⟨(Nat.le_of_ble_eq_true rfl), (Nat.le_of_ble_eq_true rfl)⟩ ⟨Nat.le_refl 0, Nat.le_refl 0⟩ hl.1 (Nat.le_of_ble_eq_true rfl) rfl dX12_joined_15) (fun H locs hP hS => ?_)
      refine lv_if_eq (tgt := 41) hx hb dX12_joined_18 (by decide) (fun c9 => ?_) (fun c9 => ?_)
      · replace hf := fx_it c9 hf
        refine lv_iconst hx hb dX12_joined_41 ki_m1 ?_
        exact fx_iretf hf hC hr hk hP hS dX12_joined_42
      · replace hf := fx_ie c9 hf
        refine lv_aload_n hx hb dX12_joined_21 rfl (lv_at hl 0 rfl) ?_
        refine gf_X12_26 (v := .ref (ad 6)) hC hP kM_0 rfl dX12_joined_22 ?_
        refine lv_iload_n hx hb dX12_joined_25 rfl (lv_at hl 1 rfl) ?_
        obtain ⟨h10, hf⟩ := fxG_e hf
        refine fx_iald hC hP kM_6 (fx_inp h10) dX12_joined_26 ?_
        refine lv_aload_n hx hb dX12_joined_27 rfl (lv_at hl 0 rfl) ?_
        refine gf_X12_26 (v := .ref (ad 6)) hC hP kM_0 rfl dX12_joined_28 ?_
        refine lv_iload_n hx hb dX12_joined_31 rfl (lv_at hl 2 rfl) ?_
        obtain ⟨h11, hf⟩ := fxG_e hf
        refine fx_iald hC hP kM_6 (fx_inp h11) dX12_joined_32 ?_
        refine lv_icmp_ne (tgt := 41) hx hb dX12_joined_33 (by decide) (fun c12 => ?_) (fun c12 => ?_)
        · replace hf := fx_ie c12 hf
          refine lv_iconst hx hb dX12_joined_41 ki_m1 ?_
          exact fx_iretf hf hC hr hk hP hS dX12_joined_42
        · replace hf := fx_it c12 hf
          refine lv_iload_n hx hb dX12_joined_36 rfl (lv_at hl 1 rfl) ?_
          refine lv_iload_n hx hb dX12_joined_37 rfl (lv_at hl 2 rfl) ?_
          refine lv_icmp_ne (tgt := 43) hx hb dX12_joined_38 (by decide) (fun c13 => ?_) (fun c13 => ?_)
          · replace hf := fx_ie c13 hf
            refine lv_aload_n hx hb dX12_joined_43 rfl (lv_at hl 0 rfl) ?_
            refine gf_X12_108 (v := .ref (ad 33)) hC hP kM_0 rfl dX12_joined_44 ?_
            refine lv_iconst hx hb dX12_joined_47 ki_0 ?_
            refine lv_aload_n hx hb dX12_joined_48 rfl (lv_at hl 0 rfl) ?_
            refine gf_X12_114 (v := .ref (ad 35)) hC hP kM_0 rfl dX12_joined_49 ?_
            refine lv_iconst hx hb dX12_joined_52 ki_0 ?_
            obtain ⟨σ16, hc14, hf⟩ := fxBV_e hf
            refine fx_cv hC hS (fx_runS (As := [.ref (ad 33), .int 0, .ref (ad 35), .int 0]) (rest := []) hC hP hS (ctX12_copies l hc14 D cy ad ec _) kMS_X12_401 kC_X12_copies hd_X12_copies.2 rfl ⟨(Nat.le_of_ble_eq_true rfl), (Nat.le_of_ble_eq_true rfl)⟩ ⟨Nat.le_refl 0, Nat.le_refl 0⟩ hl.1 (Nat.le_of_ble_eq_true rfl) rfl dX12_joined_53) (fun H locs hP hS => ?_)
            refine lv_iconst hx hb dX12_joined_56 ki_0 ?_
            refine lv_istore_n (lv' := [(3, .int 0), (0, .ref (ad 0)), (1, .int a1), (2, .int a2)]) hx hb dX12_joined_57 rfl hl (by decide) rfl (fun ls hl => ?_)
            obtain ⟨K17, hK17, hf⟩ := fxL_e hf
            have k_K17 : ∀ (x18 : Int32) (σ19 : FH) (H : Heap) (locs : List Loc) (ls : Array Slot), fx_P D cy LM ad σ19 H → va_S A s.heap H locs → lv_has ls 4 [(0, .ref (ad 0)), (3, .int x18)] → K17 x18 σ19 = some (v, σ') → W p l e (fx_R (6)) s m args below meth c H locs 0 0 (fx_Qi D cy LM ad A below args s v σ') (F0 m 84 ls []) := by
              intro x18 σ19 H locs ls hP hS hl hf
              replace hf := fxk2 hK17 hf
              refine lv_aload_n hx hb dX12_joined_84 rfl (lv_at hl 0 rfl) ?_
              refine gf_X12_114 (v := .ref (ad 35)) hC hP kM_0 rfl dX12_joined_85 ?_
              refine lv_iconst hx hb dX12_joined_88 ki_0 ?_
              refine lv_aload_n hx hb dX12_joined_89 rfl (lv_at hl 0 rfl) ?_
              refine gf_X12_108 (v := .ref (ad 33)) hC hP kM_0 rfl dX12_joined_90 ?_
              refine lv_iconst hx hb dX12_joined_93 ki_0 ?_
              obtain ⟨σ22, hc20, hf⟩ := fxBV_e hf
              refine fx_cv hC hS (fx_runS (As := [.ref (ad 35), .int 0, .ref (ad 33), .int 0]) (rest := []) hC hP hS (ctX12_copies l hc20 D cy ad ec _) kMS_X12_401 kC_X12_copies hd_X12_copies.2 rfl ⟨(Nat.le_of_ble_eq_true rfl), (Nat.le_of_ble_eq_true rfl)⟩ ⟨Nat.le_refl 0, Nat.le_refl 0⟩ hl.1 (Nat.le_of_ble_eq_true rfl) rfl dX12_joined_94) (fun H locs hP hS => ?_)
              refine lv_iload_n hx hb dX12_joined_97 rfl (lv_at hl 1 rfl) ?_
              refine lv_bipush hx hb dX12_joined_98 kb_60 ?_
              obtain ⟨v23, ev23, hf⟩ := fxL_e hf
              have j_v23 : ∀ (z24 : Int32), z24 = ((if x18 ≤ 60 then x18 else (-1)) : Int32) → ∀ (ls : Array Slot), lv_has ls 4 [] → W p l e (fx_R (6)) s m args below meth c H locs 0 0 (fx_Qi D cy LM ad A below args s v σ') (F0 m 108 ls [.int z24]) := by
                intro z24 hz24 ls hl
                obtain rfl : v23 = z24 := ev23.trans hz24.symm
                exact fx_iretf hf hC hr hk hP hS dX12_joined_108
              refine lv_icmp_le (tgt := 107) hx hb dX12_joined_100 (by decide) (fun c25 => ?_) (fun c25 => ?_)
              · refine lv_iload_n hx hb dX12_joined_107 rfl (lv_at hl 1 rfl) ?_
                exact j_v23 x18 (if_pos c25).symm ls (lv_sub hl [] rfl)
              · refine lv_iconst hx hb dX12_joined_103 ki_m1 ?_
                refine lv_goto (tgt := 108) hx hb dX12_joined_104 (by decide) ?_
                exact j_v23 (-1) (if_neg c25).symm ls (lv_sub hl [] rfl)
            have L38 : ∀ (n29 : Nat) (w26 : Int32) (σ27 : FH) (H : Heap) (locs : List Loc) (ls : Array Slot), fx_P D cy LM ad σ27 H → va_S A s.heap H locs → lv_has ls 4 [(0, .ref (ad 0)), (1, .int a1), (2, .int a2), (3, .int w26)] → fX12_joined_58 a1 a2 K17 n29 w26 σ27 = some (v, σ') → W p l e (fx_R (6)) s m args below meth c H locs 0 0 (fx_Qi D cy LM ad A below args s v σ') (F0 m 58 ls []) := by
              intro n29
              induction n29 with
              | zero =>
                intro w26 σ27 H locs ls hP hS hl hf
                rw [fX12_joined_58] at hf
                cases hf
              | succ n29 ih28 =>
                intro w26 σ27 H locs ls hP hS hl hf
                rw [fX12_joined_58] at hf
                refine lv_iload_n hx hb dX12_joined_58 rfl (lv_at hl 3 rfl) ?_
                refine lv_bipush hx hb dX12_joined_59 kb_60 ?_
                refine lv_icmp_gt (tgt := 84) hx hb dX12_joined_61 (by decide) (fun c30 => ?_) (fun c30 => ?_)
                · replace hf := fx_it c30 hf
                  exact k_K17 w26 σ27 _ _ _ hP hS (lv_sub hl [0, 3] rfl) hf
                · replace hf := fx_ie c30 hf
                  refine lv_aload_n hx hb dX12_joined_64 rfl (lv_at hl 0 rfl) ?_
                  refine lv_iload_n hx hb dX12_joined_65 rfl (lv_at hl 1 rfl) ?_
                  refine lv_iload_n hx hb dX12_joined_66 rfl (lv_at hl 2 rfl) ?_
                  obtain ⟨r32, hc31, hf⟩ := fxBP_e hf
                  refine fx_ci hC hS (fx_runV (i := 0) (As := [.int a1, .int a2]) (rest := []) hC hP hS (ctX12_canJoin l hc31 D cy ad ec _) kM_0 (by decide) rfl kMV_X12_408 kC_X12_canJoin hd_X12_canJoin rfl ⟨(Nat.le_of_ble_eq_true rfl), (Nat.le_of_ble_eq_true rfl)⟩ ⟨Nat.le_refl 0, Nat.le_refl 0⟩ hl.1 (Nat.le_of_ble_eq_true rfl) rfl dX12_joined_67) (fun H locs hP hS => ?_)
                  refine lv_if_ne (tgt := 84) hx hb dX12_joined_70 (by decide) (fun c34 => ?_) (fun c34 => ?_)
                  · replace hf := fx_ie c34 hf
                    exact k_K17 w26 σ27 _ _ _ hP hS (lv_sub hl [0, 3] rfl) hf
                  · replace hf := fx_it c34 hf
                    refine lv_aload_n hx hb dX12_joined_73 rfl (lv_at hl 0 rfl) ?_
                    obtain ⟨r36, σ37, hc35, hf⟩ := fxBI_e hf
                    refine fx_ci hC hS (fx_runV (i := 0) (As := []) (rest := []) hC hP hS (ctX12_passes l hc35 D cy ad ec _) kM_0 (by decide) rfl kMV_X12_421 kC_X12_passes hd_X12_passes rfl ⟨(Nat.le_of_ble_eq_true rfl), (Nat.le_of_ble_eq_true rfl)⟩ ⟨Nat.le_refl 0, Nat.le_refl 0⟩ hl.1 (Nat.le_of_ble_eq_true rfl) rfl dX12_joined_74) (fun H locs hP hS => ?_)
                    refine lv_pop hx hb dX12_joined_77 rfl ?_
                    refine lv_iinc (v := (w26 + 1)) (lv' := [(3, .int (w26 + 1)), (0, .ref (ad 0)), (1, .int a1), (2, .int a2)]) hx hb dX12_joined_78 hl (k := 3) rfl (congrArg (fun z => w26 + z) ki_1) (by decide) rfl (fun ls hl => ?_)
                    refine lv_goto (tgt := 58) hx hb dX12_joined_81 (by decide) ?_
                    exact ih28 (w26 + 1) σ37 _ _ _ hP hS (lv_sub hl [1, 2, 3, 0] rfl) hf
            exact L38 FU 0 σ16 _ _ _ hP hS (lv_sub hl [1, 2, 3, 0] rfl) hf
          · replace hf := fx_it c13 hf
            refine lv_iconst hx hb dX12_joined_41 ki_m1 ?_
            exact fx_iretf hf hC hr hk hP hS dX12_joined_42
  exact main _ _ _ hP hS hl

set_option maxHeartbeats 4000000 in
set_option maxRecDepth 100000 in
theorem ctX12_fines (l : Launch) {a1 : Int32} {σ σ' : FH} {v : Int32} (hf : fX12_fines a1 σ = some (v, σ')) : fx_Mi l yX12_fines cX12_fines 4 (some .int) (6) LM (fun ad ec => [.ref (ad 0), .int a1]) σ v σ' := by
  unfold fX12_fines at hf
  refine fx_mi' (own := RX12) rfl (by decide +kernel) ?_
  intro p e s m args below meth c D cy ad ec A hC hr hk hP hS
  have hx := hC.1
  have hb := hC.2.1
  have hl := lv_entry ([.ref (ad 0), .int a1]) (n := 4) (Nat.le_of_ble_eq_true rfl)
  show W _ _ _ _ _ _ _ _ _ _ _ _ _ _ _ (entryFrame m ([.ref (ad 0), .int a1] : List Value).toArray 4)
  rw [lg_entry_eq]
  generalize (lg_sl ([.ref (ad 0), .int a1]) ++ List.replicate (4 - (lg_sl ([.ref (ad 0), .int a1])).length) Slot.unset).toArray = ls at hl ⊢
  have hl : lv_has ls 4 [(0, .ref (ad 0)), (1, .int a1)] := hl
  have main : ∀ (H : Heap) (locs : List Loc) (ls : Array Slot), fx_P D cy LM ad σ H → va_S A s.heap H locs → lv_has ls 4 [(0, .ref (ad 0)), (1, .int a1)] → W p l e (fx_R (6)) s m args below meth c H locs 0 0 (fx_Qi D cy LM ad A below args s v σ') (F0 m 0 ls []) := by
    intro H locs ls hP hS hl
    refine lv_aload_n hx hb dX12_fines_0 rfl (lv_at hl 0 rfl) ?_
    refine lv_iconst hx hb dX12_fines_1 ki_0 ?_
    obtain ⟨σ1, eσ1, hf⟩ := fxL_e hf
    refine pf_X12_133 hC hP hS kM_0 dX12_fines_2 (fun H locs hP hS => ?_)
    replace hP := fx_Pe eσ1 hP
    refine lv_iload_n hx hb dX12_fines_5 rfl (lv_at hl 1 rfl) ?_
    refine lv_iconst hx hb dX12_fines_6 ki_1 ?_
    refine lv_bipush hx hb dX12_fines_7 kb_60 ?_
    obtain ⟨r3, hc2, hf⟩ := fxBP_e hf
    refine fx_ci hC hS (fx_runS (As := [.int a1, .int 1, .int 60]) (rest := []) hC hP hS (ctX12_within l hc2 D cy ad ec _) kMS_X12_253 kC_X12_within hd_X12_within.2 rfl ⟨(Nat.le_of_ble_eq_true rfl), (Nat.le_of_ble_eq_true rfl)⟩ ⟨Nat.le_refl 0, Nat.le_refl 0⟩ hl.1 (Nat.le_of_ble_eq_true rfl) rfl dX12_fines_9) (fun H locs hP hS => ?_)
    refine lv_if_ne (tgt := 17) hx hb dX12_fines_12 (by decide) (fun c5 => ?_) (fun c5 => ?_)
    · replace hf := fx_ie c5 hf
      refine lv_aload_n hx hb dX12_fines_17 rfl (lv_at hl 0 rfl) ?_
      refine gf_X12_108 (v := .ref (ad 33)) hC hP kM_0 rfl dX12_fines_18 ?_
      refine lv_iconst hx hb dX12_fines_21 ki_0 ?_
      refine lv_aload_n hx hb dX12_fines_22 rfl (lv_at hl 0 rfl) ?_
      refine gf_X12_114 (v := .ref (ad 35)) hC hP kM_0 rfl dX12_fines_23 ?_
      refine lv_iconst hx hb dX12_fines_26 ki_0 ?_
      obtain ⟨σ8, hc6, hf⟩ := fxBV_e hf
      refine fx_cv hC hS (fx_runS (As := [.ref (ad 33), .int 0, .ref (ad 35), .int 0]) (rest := []) hC hP hS (ctX12_copies l hc6 D cy ad ec _) kMS_X12_401 kC_X12_copies hd_X12_copies.2 rfl ⟨(Nat.le_of_ble_eq_true rfl), (Nat.le_of_ble_eq_true rfl)⟩ ⟨Nat.le_refl 0, Nat.le_refl 0⟩ hl.1 (Nat.le_of_ble_eq_true rfl) rfl dX12_fines_27) (fun H locs hP hS => ?_)
      refine lv_iconst hx hb dX12_fines_30 ki_0 ?_
      refine lv_istore_n (lv' := [(2, .int 0), (0, .ref (ad 0)), (1, .int a1)]) hx hb dX12_fines_31 rfl hl (by decide) rfl (fun ls hl => ?_)
      refine lv_iconst hx hb dX12_fines_32 ki_0 ?_
      refine lv_istore_n (lv' := [(3, .int 0), (2, .int 0), (0, .ref (ad 0)), (1, .int a1)]) hx hb dX12_fines_33 rfl hl (by decide) rfl (fun ls hl => ?_)
      obtain ⟨K9, hK9, hf⟩ := fxL_e hf
      have k_K9 : ∀ (x10 : Int32) (σ11 : FH) (H : Heap) (locs : List Loc) (ls : Array Slot), fx_P D cy LM ad σ11 H → va_S A s.heap H locs → lv_has ls 4 [(0, .ref (ad 0)), (2, .int x10)] → K9 x10 σ11 = some (v, σ') → W p l e (fx_R (6)) s m args below meth c H locs 0 0 (fx_Qi D cy LM ad A below args s v σ') (F0 m 52 ls []) := by
        intro x10 σ11 H locs ls hP hS hl hf
        replace hf := fxk2 hK9 hf
        refine lv_aload_n hx hb dX12_fines_52 rfl (lv_at hl 0 rfl) ?_
        refine gf_X12_114 (v := .ref (ad 35)) hC hP kM_0 rfl dX12_fines_53 ?_
        refine lv_iconst hx hb dX12_fines_56 ki_0 ?_
        refine lv_aload_n hx hb dX12_fines_57 rfl (lv_at hl 0 rfl) ?_
        refine gf_X12_108 (v := .ref (ad 33)) hC hP kM_0 rfl dX12_fines_58 ?_
        refine lv_iconst hx hb dX12_fines_61 ki_0 ?_
        obtain ⟨σ14, hc12, hf⟩ := fxBV_e hf
        refine fx_cv hC hS (fx_runS (As := [.ref (ad 35), .int 0, .ref (ad 33), .int 0]) (rest := []) hC hP hS (ctX12_copies l hc12 D cy ad ec _) kMS_X12_401 kC_X12_copies hd_X12_copies.2 rfl ⟨(Nat.le_of_ble_eq_true rfl), (Nat.le_of_ble_eq_true rfl)⟩ ⟨Nat.le_refl 0, Nat.le_refl 0⟩ hl.1 (Nat.le_of_ble_eq_true rfl) rfl dX12_fines_62) (fun H locs hP hS => ?_)
        refine lv_iload_n hx hb dX12_fines_65 rfl (lv_at hl 1 rfl) ?_
        exact fx_iretf hf hC hr hk hP hS dX12_fines_66
      have L25 : ∀ (n19 : Nat) (w15 : Int32) (w16 : Int32) (σ17 : FH) (H : Heap) (locs : List Loc) (ls : Array Slot), fx_P D cy LM ad σ17 H → va_S A s.heap H locs → lv_has ls 4 [(0, .ref (ad 0)), (1, .int a1), (2, .int w15), (3, .int w16)] → fX12_fines_34 a1 K9 n19 w15 w16 σ17 = some (v, σ') → W p l e (fx_R (6)) s m args below meth c H locs 0 0 (fx_Qi D cy LM ad A below args s v σ') (F0 m 34 ls []) := by
        intro n19
        induction n19 with
        | zero =>
          intro w15 w16 σ17 H locs ls hP hS hl hf
          rw [fX12_fines_34] at hf
          cases hf
        | succ n19 ih18 =>
          intro w15 w16 σ17 H locs ls hP hS hl hf
          rw [fX12_fines_34] at hf
          refine lv_iload_n hx hb dX12_fines_34 rfl (lv_at hl 3 rfl) ?_
          refine lv_iload_n hx hb dX12_fines_35 rfl (lv_at hl 1 rfl) ?_
          refine lv_icmp_ge (tgt := 52) hx hb dX12_fines_36 (by decide) (fun c20 => ?_) (fun c20 => ?_)
          · replace hf := fx_it c20 hf
            exact k_K9 w15 σ17 _ _ _ hP hS (lv_sub hl [0, 2] rfl) hf
          · replace hf := fx_ie c20 hf
            refine lv_iload_n hx hb dX12_fines_39 rfl (lv_at hl 2 rfl) ?_
            refine lv_aload_n hx hb dX12_fines_40 rfl (lv_at hl 0 rfl) ?_
            obtain ⟨r22, σ23, hc21, hf⟩ := fxBI_e hf
            refine fx_ci hC hS (fx_runV (i := 0) (As := []) (rest := [.int w15]) hC hP hS (ctX12_passes l hc21 D cy ad ec _) kM_0 (by decide) rfl kMV_X12_421 kC_X12_passes hd_X12_passes rfl ⟨(Nat.le_of_ble_eq_true rfl), (Nat.le_of_ble_eq_true rfl)⟩ ⟨Nat.le_refl 0, Nat.le_refl 0⟩ hl.1 (Nat.le_of_ble_eq_true rfl) rfl dX12_fines_41) (fun H locs hP hS => ?_)
            refine lv_iadd hx hb dX12_fines_44 ?_
            obtain ⟨v24, ev24, hf⟩ := fxL_e hf
            refine fx_ti ev24 ?_
            refine lv_istore_n (lv' := [(2, .int v24), (0, .ref (ad 0)), (1, .int a1), (3, .int w16)]) hx hb dX12_fines_45 rfl hl (by decide) rfl (fun ls hl => ?_)
            refine lv_iinc (v := (w16 + 1)) (lv' := [(3, .int (w16 + 1)), (2, .int v24), (0, .ref (ad 0)), (1, .int a1)]) hx hb dX12_fines_46 hl (k := 3) rfl (congrArg (fun z => w16 + z) ki_1) (by decide) rfl (fun ls hl => ?_)
            refine lv_goto (tgt := 34) hx hb dX12_fines_49 (by decide) ?_
            exact ih18 v24 (w16 + 1) σ23 _ _ _ hP hS (lv_sub hl [2, 3, 1, 0] rfl) hf
      exact L25 FU 0 0 σ8 _ _ _ hP hS (lv_sub hl [2, 3, 1, 0] rfl) hf
    · replace hf := fx_it c5 hf
      refine lv_iconst hx hb dX12_fines_15 ki_m1 ?_
      exact fx_iretf hf hC hr hk hP hS dX12_fines_16
  exact main _ _ _ hP hS hl

set_option maxHeartbeats 4000000 in
set_option maxRecDepth 100000 in
theorem ctX12_round (l : Launch) {σ σ' : FH} {v : Int32} (hf : fX12_round σ = some (v, σ')) : fx_Mi l yX12_round cX12_round 4 (some .int) (3) LM (fun ad ec => [.ref (ad 0)]) σ v σ' := by
  unfold fX12_round at hf
  refine fx_mi' (own := RX12) rfl (by decide +kernel) ?_
  intro p e s m args below meth c D cy ad ec A hC hr hk hP hS
  have hx := hC.1
  have hb := hC.2.1
  have hl := lv_entry ([.ref (ad 0)]) (n := 4) (Nat.le_of_ble_eq_true rfl)
  show W _ _ _ _ _ _ _ _ _ _ _ _ _ _ _ (entryFrame m ([.ref (ad 0)] : List Value).toArray 4)
  rw [lg_entry_eq]
  generalize (lg_sl ([.ref (ad 0)]) ++ List.replicate (4 - (lg_sl ([.ref (ad 0)])).length) Slot.unset).toArray = ls at hl ⊢
  have hl : lv_has ls 4 [(0, .ref (ad 0))] := hl
  have main : ∀ (H : Heap) (locs : List Loc) (ls : Array Slot), fx_P D cy LM ad σ H → va_S A s.heap H locs → lv_has ls 4 [(0, .ref (ad 0))] → W p l e (fx_R (3)) s m args below meth c H locs 0 0 (fx_Qi D cy LM ad A below args s v σ') (F0 m 0 ls []) := by
    intro H locs ls hP hS hl
    refine lv_aload_n hx hb dX12_round_0 rfl (lv_at hl 0 rfl) ?_
    refine lv_iconst hx hb dX12_round_1 ki_0 ?_
    obtain ⟨σ1, eσ1, hf⟩ := fxL_e hf
    refine pf_X12_133 hC hP hS kM_0 dX12_round_2 (fun H locs hP hS => ?_)
    replace hP := fx_Pe eσ1 hP
    refine lv_iconst hx hb dX12_round_5 ki_0 ?_
    refine lv_istore_n (lv' := [(1, .int 0), (0, .ref (ad 0))]) hx hb dX12_round_6 rfl hl (by decide) rfl (fun ls hl => ?_)
    refine lv_iconst hx hb dX12_round_7 ki_0 ?_
    refine lv_istore_n (lv' := [(2, .int 0), (1, .int 0), (0, .ref (ad 0))]) hx hb dX12_round_8 rfl hl (by decide) rfl (fun ls hl => ?_)
    obtain ⟨K2, hK2, hf⟩ := fxL_e hf
    have k_K2 : ∀ (x3 : Int32) (H : Heap) (locs : List Loc) (ls : Array Slot), fx_P D cy LM ad σ1 H → va_S A s.heap H locs → lv_has ls 4 [(1, .int x3)] → K2 x3 = some (v, σ') → W p l e (fx_R (3)) s m args below meth c H locs 0 0 (fx_Qi D cy LM ad A below args s v σ') (F0 m 55 ls []) := by
      intro x3 H locs ls hP hS hl hf
      replace hf := fxk1 hK2 hf
      refine lv_iload_n hx hb dX12_round_55 rfl (lv_at hl 0 rfl) ?_
      exact fx_iretf hf hC hr hk hP hS dX12_round_56
    have L25 : ∀ (n7 : Nat) (w4 : Int32) (w5 : Int32) (H : Heap) (locs : List Loc) (ls : Array Slot), fx_P D cy LM ad σ1 H → va_S A s.heap H locs → lv_has ls 4 [(0, .ref (ad 0)), (1, .int w4), (2, .int w5)] → fX12_round_9 σ1 K2 n7 w4 w5 = some (v, σ') → W p l e (fx_R (3)) s m args below meth c H locs 0 0 (fx_Qi D cy LM ad A below args s v σ') (F0 m 9 ls []) := by
      intro n7
      induction n7 with
      | zero =>
        intro w4 w5 H locs ls hP hS hl hf
        rw [fX12_round_9] at hf
        cases hf
      | succ n7 ih6 =>
        intro w4 w5 H locs ls hP hS hl hf
        rw [fX12_round_9] at hf
        refine lv_iload_n hx hb dX12_round_9 rfl (lv_at hl 2 rfl) ?_
        refine lv_aload_n hx hb dX12_round_10 rfl (lv_at hl 0 rfl) ?_
        refine gf_X12_13 (v := .ref (ad 2)) hC hP kM_0 rfl dX12_round_11 ?_
        refine lv_iconst hx hb dX12_round_14 ki_0 ?_
        obtain ⟨h8, hf⟩ := fxG_e hf
        refine fx_iald hC hP kM_2 (fx_inp h8) dX12_round_15 ?_
        refine lv_icmp_ge (tgt := 55) hx hb dX12_round_16 (by decide) (fun c9 => ?_) (fun c9 => ?_)
        · replace hf := fx_it c9 hf
          exact k_K2 w4 _ _ _ hP hS (lv_sub hl [1] rfl) hf
        · replace hf := fx_ie c9 hf
          refine lv_iconst hx hb dX12_round_19 ki_0 ?_
          refine lv_istore_n (lv' := [(3, .int 0), (0, .ref (ad 0)), (1, .int w4), (2, .int w5)]) hx hb dX12_round_20 rfl hl (by decide) rfl (fun ls hl => ?_)
          obtain ⟨K10, hK10, hf⟩ := fxL_e hf
          have k_K10 : ∀ (x11 : Int32) (H : Heap) (locs : List Loc) (ls : Array Slot), fx_P D cy LM ad σ1 H → va_S A s.heap H locs → lv_has ls 4 [(0, .ref (ad 0)), (1, .int x11), (2, .int w5)] → K10 x11 = some (v, σ') → W p l e (fx_R (3)) s m args below meth c H locs 0 0 (fx_Qi D cy LM ad A below args s v σ') (F0 m 49 ls []) := by
            intro x11 H locs ls hP hS hl hf
            replace hf := fxk1 hK10 hf
            refine lv_iinc (v := (w5 + 1)) (lv' := [(2, .int (w5 + 1)), (0, .ref (ad 0)), (1, .int x11)]) hx hb dX12_round_49 hl (k := 2) rfl (congrArg (fun z => w5 + z) ki_1) (by decide) rfl (fun ls hl => ?_)
            refine lv_goto (tgt := 9) hx hb dX12_round_52 (by decide) ?_
            exact ih6 x11 (w5 + 1) _ _ _ hP hS (lv_sub hl [1, 2, 0] rfl) hf
          have L24 : ∀ (n15 : Nat) (w12 : Int32) (w13 : Int32) (H : Heap) (locs : List Loc) (ls : Array Slot), fx_P D cy LM ad σ1 H → va_S A s.heap H locs → lv_has ls 4 [(0, .ref (ad 0)), (1, .int w12), (2, .int w5), (3, .int w13)] → fX12_round_21 σ1 w5 K10 n15 w12 w13 = some (v, σ') → W p l e (fx_R (3)) s m args below meth c H locs 0 0 (fx_Qi D cy LM ad A below args s v σ') (F0 m 21 ls []) := by
            intro n15
            induction n15 with
            | zero =>
              intro w12 w13 H locs ls hP hS hl hf
              rw [fX12_round_21] at hf
              cases hf
            | succ n15 ih14 =>
              intro w12 w13 H locs ls hP hS hl hf
              rw [fX12_round_21] at hf
              refine lv_iload_n hx hb dX12_round_21 rfl (lv_at hl 3 rfl) ?_
              refine lv_iload_n hx hb dX12_round_22 rfl (lv_at hl 2 rfl) ?_
              refine lv_icmp_ge (tgt := 49) hx hb dX12_round_23 (by decide) (fun c16 => ?_) (fun c16 => ?_)
              · replace hf := fx_it c16 hf
                exact k_K10 w12 _ _ _ hP hS (lv_sub hl [0, 1, 2] rfl) hf
              · replace hf := fx_ie c16 hf
                refine lv_iload_n hx hb dX12_round_26 rfl (lv_at hl 1 rfl) ?_
                refine lv_aload_n hx hb dX12_round_27 rfl (lv_at hl 0 rfl) ?_
                refine lv_iload_n hx hb dX12_round_28 rfl (lv_at hl 2 rfl) ?_
                refine lv_iload_n hx hb dX12_round_29 rfl (lv_at hl 3 rfl) ?_
                obtain ⟨r18, hc17, hf⟩ := fxBP_e hf
                refine fx_ci hC hS (fx_runV (i := 0) (As := [.int w5, .int w13]) (rest := [.int w12]) hC hP hS (ctX12_canJoin l hc17 D cy ad ec _) kM_0 (by decide) rfl kMV_X12_408 kC_X12_canJoin hd_X12_canJoin rfl ⟨(Nat.le_of_ble_eq_true rfl), (Nat.le_of_ble_eq_true rfl)⟩ ⟨Nat.le_refl 0, Nat.le_refl 0⟩ hl.1 (Nat.le_of_ble_eq_true rfl) rfl dX12_round_30) (fun H locs hP hS => ?_)
                obtain ⟨v20, ev20, hf⟩ := fxL_e hf
                have j_v20 : ∀ (z21 : Int32), z21 = ((if r18 = 0 then 0 else 1) : Int32) → ∀ (ls : Array Slot), lv_has ls 4 [(0, .ref (ad 0)), (2, .int w5), (3, .int w13)] → W p l e (fx_R (3)) s m args below meth c H locs 0 0 (fx_Qi D cy LM ad A below args s v σ') (F0 m 41 ls [.int z21, .int w12]) := by
                  intro z21 hz21 ls hl
                  obtain rfl : v20 = z21 := ev20.trans hz21.symm
                  refine lv_iadd hx hb dX12_round_41 ?_
                  obtain ⟨v23, ev23, hf⟩ := fxL_e hf
                  refine fx_ti ev23 ?_
                  refine lv_istore_n (lv' := [(1, .int v23), (0, .ref (ad 0)), (2, .int w5), (3, .int w13)]) hx hb dX12_round_42 rfl hl (by decide) rfl (fun ls hl => ?_)
                  refine lv_iinc (v := (w13 + 1)) (lv' := [(3, .int (w13 + 1)), (1, .int v23), (0, .ref (ad 0)), (2, .int w5)]) hx hb dX12_round_43 hl (k := 3) rfl (congrArg (fun z => w13 + z) ki_1) (by decide) rfl (fun ls hl => ?_)
                  refine lv_goto (tgt := 21) hx hb dX12_round_46 (by decide) ?_
                  exact ih14 v23 (w13 + 1) _ _ _ hP hS (lv_sub hl [2, 1, 3, 0] rfl) hf
                refine lv_if_eq (tgt := 40) hx hb dX12_round_33 (by decide) (fun c22 => ?_) (fun c22 => ?_)
                · refine lv_iconst hx hb dX12_round_40 ki_0 ?_
                  exact j_v20 0 (if_pos c22).symm ls (lv_sub hl [0, 2, 3] rfl)
                · refine lv_iconst hx hb dX12_round_36 ki_1 ?_
                  refine lv_goto (tgt := 41) hx hb dX12_round_37 (by decide) ?_
                  exact j_v20 1 (if_neg c22).symm ls (lv_sub hl [0, 2, 3] rfl)
          exact L24 FU w4 0 _ _ _ hP hS (lv_sub hl [1, 2, 3, 0] rfl) hf
    exact L25 FU 0 0 _ _ _ hP hS (lv_sub hl [2, 1, 0] rfl) hf
  exact main _ _ _ hP hS hl

set_option maxHeartbeats 4000000 in
set_option maxRecDepth 100000 in
theorem ctX12_halves (l : Launch) {σ : FH} {v : Int32} (hf : fX12_halves σ = some v) : fx_Mi l yX12_halves cX12_halves 3 (some .int) (2) LM (fun ad ec => [.ref (ad 0)]) σ v σ := by
  unfold fX12_halves at hf
  refine fx_mi' (own := RX12) rfl (by decide +kernel) ?_
  intro p e s m args below meth c D cy ad ec A hC hr hk hP hS
  have hx := hC.1
  have hb := hC.2.1
  have hl := lv_entry ([.ref (ad 0)]) (n := 3) (Nat.le_of_ble_eq_true rfl)
  show W _ _ _ _ _ _ _ _ _ _ _ _ _ _ _ (entryFrame m ([.ref (ad 0)] : List Value).toArray 3)
  rw [lg_entry_eq]
  generalize (lg_sl ([.ref (ad 0)]) ++ List.replicate (3 - (lg_sl ([.ref (ad 0)])).length) Slot.unset).toArray = ls at hl ⊢
  have hl : lv_has ls 3 [(0, .ref (ad 0))] := hl
  have main : ∀ (H : Heap) (locs : List Loc) (ls : Array Slot), fx_P D cy LM ad σ H → va_S A s.heap H locs → lv_has ls 3 [(0, .ref (ad 0))] → W p l e (fx_R (2)) s m args below meth c H locs 0 0 (fx_Qi D cy LM ad A below args s v σ) (F0 m 0 ls []) := by
    intro H locs ls hP hS hl
    refine lv_iconst hx hb dX12_halves_0 ki_0 ?_
    refine lv_istore_n (lv' := [(1, .int 0), (0, .ref (ad 0))]) hx hb dX12_halves_1 rfl hl (by decide) rfl (fun ls hl => ?_)
    refine lv_iconst hx hb dX12_halves_2 ki_0 ?_
    refine lv_istore_n (lv' := [(2, .int 0), (1, .int 0), (0, .ref (ad 0))]) hx hb dX12_halves_3 rfl hl (by decide) rfl (fun ls hl => ?_)
    obtain ⟨K1, hK1, hf⟩ := fxL_e hf
    have k_K1 : ∀ (x2 : Int32) (H : Heap) (locs : List Loc) (ls : Array Slot), fx_P D cy LM ad σ H → va_S A s.heap H locs → lv_has ls 3 [(1, .int x2)] → K1 x2 = some v → W p l e (fx_R (2)) s m args below meth c H locs 0 0 (fx_Qi D cy LM ad A below args s v σ) (F0 m 38 ls []) := by
      intro x2 H locs ls hP hS hl hf
      replace hf := fxk1 hK1 hf
      refine lv_iload_n hx hb dX12_halves_38 rfl (lv_at hl 0 rfl) ?_
      exact fx_iretp hf hC hr hk hP hS dX12_halves_39
    have L16 : ∀ (n6 : Nat) (w3 : Int32) (w4 : Int32) (H : Heap) (locs : List Loc) (ls : Array Slot), fx_P D cy LM ad σ H → va_S A s.heap H locs → lv_has ls 3 [(0, .ref (ad 0)), (1, .int w3), (2, .int w4)] → fX12_halves_4 σ K1 n6 w3 w4 = some v → W p l e (fx_R (2)) s m args below meth c H locs 0 0 (fx_Qi D cy LM ad A below args s v σ) (F0 m 4 ls []) := by
      intro n6
      induction n6 with
      | zero =>
        intro w3 w4 H locs ls hP hS hl hf
        rw [fX12_halves_4] at hf
        cases hf
      | succ n6 ih5 =>
        intro w3 w4 H locs ls hP hS hl hf
        rw [fX12_halves_4] at hf
        refine lv_iload_n hx hb dX12_halves_4 rfl (lv_at hl 2 rfl) ?_
        refine lv_aload_n hx hb dX12_halves_5 rfl (lv_at hl 0 rfl) ?_
        refine gf_X12_13 (v := .ref (ad 2)) hC hP kM_0 rfl dX12_halves_6 ?_
        refine lv_iconst hx hb dX12_halves_9 ki_0 ?_
        obtain ⟨h7, hf⟩ := fxG_e hf
        refine fx_iald hC hP kM_2 (fx_inp h7) dX12_halves_10 ?_
        refine lv_icmp_ge (tgt := 38) hx hb dX12_halves_11 (by decide) (fun c8 => ?_) (fun c8 => ?_)
        · replace hf := fx_it c8 hf
          exact k_K1 w3 _ _ _ hP hS (lv_sub hl [1] rfl) hf
        · replace hf := fx_ie c8 hf
          refine lv_iload_n hx hb dX12_halves_14 rfl (lv_at hl 1 rfl) ?_
          refine lv_aload_n hx hb dX12_halves_15 rfl (lv_at hl 0 rfl) ?_
          refine lv_iload_n hx hb dX12_halves_16 rfl (lv_at hl 2 rfl) ?_
          obtain ⟨r10, hc9, hf⟩ := fxBP_e hf
          refine fx_ci hC hS (fx_runV (i := 0) (As := [.int w4]) (rest := [.int w3]) hC hP hS (ctX12_isHalf l hc9 D cy ad ec _) kM_0 (by decide) rfl kMV_X12_386 kC_X12_isHalf hd_X12_isHalf rfl ⟨(Nat.le_of_ble_eq_true rfl), (Nat.le_of_ble_eq_true rfl)⟩ ⟨Nat.le_refl 0, Nat.le_refl 0⟩ hl.1 (Nat.le_of_ble_eq_true rfl) rfl dX12_halves_17) (fun H locs hP hS => ?_)
          obtain ⟨v12, ev12, hf⟩ := fxL_e hf
          have j_v12 : ∀ (z13 : Int32), z13 = ((if r10 = 0 then 0 else (1 <<< (w4 &&& 31))) : Int32) → ∀ (ls : Array Slot), lv_has ls 3 [(0, .ref (ad 0)), (2, .int w4)] → W p l e (fx_R (2)) s m args below meth c H locs 0 0 (fx_Qi D cy LM ad A below args s v σ) (F0 m 30 ls [.int z13, .int w3]) := by
            intro z13 hz13 ls hl
            obtain rfl : v12 = z13 := ev12.trans hz13.symm
            refine lv_ior hx hb dX12_halves_30 ?_
            obtain ⟨v15, ev15, hf⟩ := fxL_e hf
            refine fx_ti ev15 ?_
            refine lv_istore_n (lv' := [(1, .int v15), (0, .ref (ad 0)), (2, .int w4)]) hx hb dX12_halves_31 rfl hl (by decide) rfl (fun ls hl => ?_)
            refine lv_iinc (v := (w4 + 1)) (lv' := [(2, .int (w4 + 1)), (1, .int v15), (0, .ref (ad 0))]) hx hb dX12_halves_32 hl (k := 2) rfl (congrArg (fun z => w4 + z) ki_1) (by decide) rfl (fun ls hl => ?_)
            refine lv_goto (tgt := 4) hx hb dX12_halves_35 (by decide) ?_
            exact ih5 v15 (w4 + 1) _ _ _ hP hS (lv_sub hl [2, 1, 0] rfl) hf
          refine lv_if_eq (tgt := 29) hx hb dX12_halves_20 (by decide) (fun c14 => ?_) (fun c14 => ?_)
          · refine lv_iconst hx hb dX12_halves_29 ki_0 ?_
            exact j_v12 0 (if_pos c14).symm ls (lv_sub hl [0, 2] rfl)
          · refine lv_iconst hx hb dX12_halves_23 ki_1 ?_
            refine lv_iload_n hx hb dX12_halves_24 rfl (lv_at hl 2 rfl) ?_
            refine lv_ishl hx hb dX12_halves_25 ?_
            refine lv_goto (tgt := 30) hx hb dX12_halves_26 (by decide) ?_
            exact j_v12 (1 <<< (w4 &&& 31)) (if_neg c14).symm ls (lv_sub hl [0, 2] rfl)
    exact L16 FU 0 0 _ _ _ hP hS (lv_sub hl [2, 1, 0] rfl) hf
  exact main _ _ _ hP hS hl

set_option maxHeartbeats 4000000 in
set_option maxRecDepth 100000 in
theorem ctX12_lackOf (l : Launch) {a1 : Int32} {σ : FH} {v : Int32} (hf : fX12_lackOf a1 σ = some v) : fx_Mi l yX12_lackOf cX12_lackOf 4 (some .int) (1) LM (fun ad ec => [.ref (ad 0), .int a1]) σ v σ := by
  unfold fX12_lackOf at hf
  refine fx_mi' (own := RX12) rfl (by decide +kernel) ?_
  intro p e s m args below meth c D cy ad ec A hC hr hk hP hS
  have hx := hC.1
  have hb := hC.2.1
  have hl := lv_entry ([.ref (ad 0), .int a1]) (n := 4) (Nat.le_of_ble_eq_true rfl)
  show W _ _ _ _ _ _ _ _ _ _ _ _ _ _ _ (entryFrame m ([.ref (ad 0), .int a1] : List Value).toArray 4)
  rw [lg_entry_eq]
  generalize (lg_sl ([.ref (ad 0), .int a1]) ++ List.replicate (4 - (lg_sl ([.ref (ad 0), .int a1])).length) Slot.unset).toArray = ls at hl ⊢
  have hl : lv_has ls 4 [(0, .ref (ad 0)), (1, .int a1)] := hl
  have main : ∀ (H : Heap) (locs : List Loc) (ls : Array Slot), fx_P D cy LM ad σ H → va_S A s.heap H locs → lv_has ls 4 [(0, .ref (ad 0)), (1, .int a1)] → W p l e (fx_R (1)) s m args below meth c H locs 0 0 (fx_Qi D cy LM ad A below args s v σ) (F0 m 0 ls []) := by
    intro H locs ls hP hS hl
    refine lv_iconst hx hb dX12_lackOf_0 ki_0 ?_
    refine lv_istore_n (lv' := [(2, .int 0), (0, .ref (ad 0)), (1, .int a1)]) hx hb dX12_lackOf_1 rfl hl (by decide) rfl (fun ls hl => ?_)
    refine lv_iconst hx hb dX12_lackOf_2 ki_0 ?_
    refine lv_istore_n (lv' := [(3, .int 0), (2, .int 0), (0, .ref (ad 0)), (1, .int a1)]) hx hb dX12_lackOf_3 rfl hl (by decide) rfl (fun ls hl => ?_)
    obtain ⟨K1, hK1, hf⟩ := fxL_e hf
    have k_K1 : ∀ (x2 : Int32) (H : Heap) (locs : List Loc) (ls : Array Slot), fx_P D cy LM ad σ H → va_S A s.heap H locs → lv_has ls 4 [(2, .int x2)] → K1 x2 = some v → W p l e (fx_R (1)) s m args below meth c H locs 0 0 (fx_Qi D cy LM ad A below args s v σ) (F0 m 50 ls []) := by
      intro x2 H locs ls hP hS hl hf
      replace hf := fxk1 hK1 hf
      refine lv_iload_n hx hb dX12_lackOf_50 rfl (lv_at hl 0 rfl) ?_
      exact fx_iretp hf hC hr hk hP hS dX12_lackOf_51
    have L16 : ∀ (n6 : Nat) (w3 : Int32) (w4 : Int32) (H : Heap) (locs : List Loc) (ls : Array Slot), fx_P D cy LM ad σ H → va_S A s.heap H locs → lv_has ls 4 [(0, .ref (ad 0)), (1, .int a1), (2, .int w3), (3, .int w4)] → fX12_lackOf_4 a1 σ K1 n6 w3 w4 = some v → W p l e (fx_R (1)) s m args below meth c H locs 0 0 (fx_Qi D cy LM ad A below args s v σ) (F0 m 4 ls []) := by
      intro n6
      induction n6 with
      | zero =>
        intro w3 w4 H locs ls hP hS hl hf
        rw [fX12_lackOf_4] at hf
        cases hf
      | succ n6 ih5 =>
        intro w3 w4 H locs ls hP hS hl hf
        rw [fX12_lackOf_4] at hf
        refine lv_iload_n hx hb dX12_lackOf_4 rfl (lv_at hl 3 rfl) ?_
        refine lv_aload_n hx hb dX12_lackOf_5 rfl (lv_at hl 0 rfl) ?_
        refine gf_X12_13 (v := .ref (ad 2)) hC hP kM_0 rfl dX12_lackOf_6 ?_
        refine lv_iconst hx hb dX12_lackOf_9 ki_0 ?_
        obtain ⟨h7, hf⟩ := fxG_e hf
        refine fx_iald hC hP kM_2 (fx_inp h7) dX12_lackOf_10 ?_
        refine lv_icmp_ge (tgt := 50) hx hb dX12_lackOf_11 (by decide) (fun c8 => ?_) (fun c8 => ?_)
        · replace hf := fx_it c8 hf
          exact k_K1 w3 _ _ _ hP hS (lv_sub hl [2] rfl) hf
        · replace hf := fx_ie c8 hf
          refine lv_iload_n hx hb dX12_lackOf_14 rfl (lv_at hl 2 rfl) ?_
          refine lv_iload_n hx hb dX12_lackOf_15 rfl (lv_at hl 1 rfl) ?_
          refine lv_iload_n hx hb dX12_lackOf_16 rfl (lv_at hl 3 rfl) ?_
          refine lv_ishr hx hb dX12_lackOf_17 ?_
          refine lv_iconst hx hb dX12_lackOf_18 ki_1 ?_
          refine lv_iand hx hb dX12_lackOf_19 ?_
          refine lv_iconst hx hb dX12_lackOf_20 ki_1 ?_
          refine lv_icmp_ne (tgt := 41) hx hb dX12_lackOf_21 (by decide) (fun c9 => ?_) (fun c9 => ?_)
          · replace hf := fx_ie c9 hf
            refine lv_iconst hx hb dX12_lackOf_41 ki_0 ?_
            refine lv_iadd hx hb dX12_lackOf_42 ?_
            obtain ⟨v10, ev10, hf⟩ := fxL_e hf
            refine fx_ti ev10 ?_
            refine lv_istore_n (lv' := [(2, .int v10), (0, .ref (ad 0)), (1, .int a1), (3, .int w4)]) hx hb dX12_lackOf_43 rfl hl (by decide) rfl (fun ls hl => ?_)
            refine lv_iinc (v := (w4 + 1)) (lv' := [(3, .int (w4 + 1)), (2, .int v10), (0, .ref (ad 0)), (1, .int a1)]) hx hb dX12_lackOf_44 hl (k := 3) rfl (congrArg (fun z => w4 + z) ki_1) (by decide) rfl (fun ls hl => ?_)
            refine lv_goto (tgt := 4) hx hb dX12_lackOf_47 (by decide) ?_
            exact ih5 v10 (w4 + 1) _ _ _ hP hS (lv_sub hl [2, 3, 1, 0] rfl) hf
          · replace hf := fx_it c9 hf
            refine lv_aload_n hx hb dX12_lackOf_24 rfl (lv_at hl 0 rfl) ?_
            refine lv_iload_n hx hb dX12_lackOf_25 rfl (lv_at hl 3 rfl) ?_
            obtain ⟨r12, hc11, hf⟩ := fxBP_e hf
            refine fx_ci hC hS (fx_runV (i := 0) (As := [.int w4]) (rest := [.int w3]) hC hP hS (ctX12_halfOf l hc11 D cy ad ec _) kM_0 (by decide) rfl kMV_X12_351 kC_X12_halfOf hd_X12_halfOf rfl ⟨(Nat.le_of_ble_eq_true rfl), (Nat.le_of_ble_eq_true rfl)⟩ ⟨Nat.le_refl 0, Nat.le_refl 0⟩ hl.1 (Nat.le_of_ble_eq_true rfl) rfl dX12_lackOf_26) (fun H locs hP hS => ?_)
            refine lv_aload_n hx hb dX12_lackOf_29 rfl (lv_at hl 0 rfl) ?_
            refine gf_X12_108 (v := .ref (ad 33)) hC hP kM_0 rfl dX12_lackOf_30 ?_
            refine lv_iconst hx hb dX12_lackOf_33 ki_3 ?_
            refine lv_iload_n hx hb dX12_lackOf_34 rfl (lv_at hl 3 rfl) ?_
            refine lv_iadd hx hb dX12_lackOf_35 ?_
            obtain ⟨h14, hf⟩ := fxG_e hf
            refine fx_iald hC hP kM_33 (fx_inp h14) dX12_lackOf_36 ?_
            refine lv_isub hx hb dX12_lackOf_37 ?_
            refine lv_goto (tgt := 42) hx hb dX12_lackOf_38 (by decide) ?_
            refine lv_iadd hx hb dX12_lackOf_42 ?_
            obtain ⟨v15, ev15, hf⟩ := fxL_e hf
            refine fx_ti ev15 ?_
            refine lv_istore_n (lv' := [(2, .int v15), (0, .ref (ad 0)), (1, .int a1), (3, .int w4)]) hx hb dX12_lackOf_43 rfl hl (by decide) rfl (fun ls hl => ?_)
            refine lv_iinc (v := (w4 + 1)) (lv' := [(3, .int (w4 + 1)), (2, .int v15), (0, .ref (ad 0)), (1, .int a1)]) hx hb dX12_lackOf_44 hl (k := 3) rfl (congrArg (fun z => w4 + z) ki_1) (by decide) rfl (fun ls hl => ?_)
            refine lv_goto (tgt := 4) hx hb dX12_lackOf_47 (by decide) ?_
            exact ih5 v15 (w4 + 1) _ _ _ hP hS (lv_sub hl [2, 3, 1, 0] rfl) hf
    exact L16 FU 0 0 _ _ _ hP hS (lv_sub hl [2, 3, 1, 0] rfl) hf
  exact main _ _ _ hP hS hl

set_option maxHeartbeats 4000000 in
set_option maxRecDepth 100000 in
theorem ctX12_most (l : Launch) {a1 : Int32} {a2 : Int32} {σ σ' : FH} {v : Int32} (hf : fX12_most a1 a2 σ = some (v, σ')) : fx_Mi l yX12_most cX12_most 6 (some .int) (3) LM (fun ad ec => [.ref (ad 0), .int a1, .int a2]) σ v σ' := by
  unfold fX12_most at hf
  refine fx_mi' (own := RX12) rfl (by decide +kernel) ?_
  intro p e s m args below meth c D cy ad ec A hC hr hk hP hS
  have hx := hC.1
  have hb := hC.2.1
  have hl := lv_entry ([.ref (ad 0), .int a1, .int a2]) (n := 6) (Nat.le_of_ble_eq_true rfl)
  show W _ _ _ _ _ _ _ _ _ _ _ _ _ _ _ (entryFrame m ([.ref (ad 0), .int a1, .int a2] : List Value).toArray 6)
  rw [lg_entry_eq]
  generalize (lg_sl ([.ref (ad 0), .int a1, .int a2]) ++ List.replicate (6 - (lg_sl ([.ref (ad 0), .int a1, .int a2])).length) Slot.unset).toArray = ls at hl ⊢
  have hl : lv_has ls 6 [(0, .ref (ad 0)), (1, .int a1), (2, .int a2)] := hl
  have main : ∀ (H : Heap) (locs : List Loc) (ls : Array Slot), fx_P D cy LM ad σ H → va_S A s.heap H locs → lv_has ls 6 [(0, .ref (ad 0)), (1, .int a1), (2, .int a2)] → W p l e (fx_R (3)) s m args below meth c H locs 0 0 (fx_Qi D cy LM ad A below args s v σ') (F0 m 0 ls []) := by
    intro H locs ls hP hS hl
    refine lv_aload_n hx hb dX12_most_0 rfl (lv_at hl 0 rfl) ?_
    refine lv_iconst hx hb dX12_most_1 ki_0 ?_
    obtain ⟨σ1, eσ1, hf⟩ := fxL_e hf
    refine pf_X12_133 hC hP hS kM_0 dX12_most_2 (fun H locs hP hS => ?_)
    replace hP := fx_Pe eσ1 hP
    refine lv_iload_n hx hb dX12_most_5 rfl (lv_at hl 1 rfl) ?_
    refine lv_iconst hx hb dX12_most_6 ki_0 ?_
    refine lv_sipush hx hb dX12_most_7 ks_200 ?_
    obtain ⟨r3, hc2, hf⟩ := fxBP_e hf
    refine fx_ci hC hS (fx_runS (As := [.int a1, .int 0, .int 200]) (rest := []) hC hP hS (ctX12_within l hc2 D cy ad ec _) kMS_X12_253 kC_X12_within hd_X12_within.2 rfl ⟨(Nat.le_of_ble_eq_true rfl), (Nat.le_of_ble_eq_true rfl)⟩ ⟨Nat.le_refl 0, Nat.le_refl 0⟩ hl.1 (Nat.le_of_ble_eq_true rfl) rfl dX12_most_10) (fun H locs hP hS => ?_)
    refine lv_if_eq (tgt := 25) hx hb dX12_most_13 (by decide) (fun c5 => ?_) (fun c5 => ?_)
    · replace hf := fx_it c5 hf
      refine lv_iconst hx hb dX12_most_25 ki_m1 ?_
      exact fx_iretf hf hC hr hk hP hS dX12_most_26
    · replace hf := fx_ie c5 hf
      refine lv_iload_n hx hb dX12_most_16 rfl (lv_at hl 2 rfl) ?_
      refine lv_iconst hx hb dX12_most_17 ki_0 ?_
      refine lv_iconst hx hb dX12_most_18 ki_2 ?_
      obtain ⟨r7, hc6, hf⟩ := fxBP_e hf
      refine fx_ci hC hS (fx_runS (As := [.int a2, .int 0, .int 2]) (rest := []) hC hP hS (ctX12_within l hc6 D cy ad ec _) kMS_X12_253 kC_X12_within hd_X12_within.2 rfl ⟨(Nat.le_of_ble_eq_true rfl), (Nat.le_of_ble_eq_true rfl)⟩ ⟨Nat.le_refl 0, Nat.le_refl 0⟩ hl.1 (Nat.le_of_ble_eq_true rfl) rfl dX12_most_19) (fun H locs hP hS => ?_)
      refine lv_if_ne (tgt := 27) hx hb dX12_most_22 (by decide) (fun c9 => ?_) (fun c9 => ?_)
      · replace hf := fx_ie c9 hf
        refine lv_aload_n hx hb dX12_most_27 rfl (lv_at hl 0 rfl) ?_
        obtain ⟨r11, hc10, hf⟩ := fxBP_e hf
        refine fx_ci hC hS (fx_runV (i := 0) (As := []) (rest := []) hC hP hS (ctX12_halves l hc10 D cy ad ec _) kM_0 (by decide) rfl kMV_X12_427 kC_X12_halves hd_X12_halves rfl ⟨(Nat.le_of_ble_eq_true rfl), (Nat.le_of_ble_eq_true rfl)⟩ ⟨Nat.le_refl 0, Nat.le_refl 0⟩ hl.1 (Nat.le_of_ble_eq_true rfl) rfl dX12_most_28) (fun H locs hP hS => ?_)
        refine lv_istore_n (lv' := [(3, .int r11), (0, .ref (ad 0)), (1, .int a1), (2, .int a2)]) hx hb dX12_most_31 rfl hl (by decide) rfl (fun ls hl => ?_)
        refine lv_iload_n hx hb dX12_most_32 rfl (lv_at hl 0 rfl) ?_
        refine lv_istore (lv' := [(4, .int r11), (3, .int r11), (0, .ref (ad 0)), (1, .int a1), (2, .int a2)]) hx hb dX12_most_33 hl (by decide) rfl (fun ls hl => ?_)
        refine lv_iconst hx hb dX12_most_35 ki_0 ?_
        refine lv_istore (lv' := [(5, .int 0), (4, .int r11), (3, .int r11), (0, .ref (ad 0)), (1, .int a1), (2, .int a2)]) hx hb dX12_most_36 hl (by decide) rfl (fun ls hl => ?_)
        obtain ⟨K13, hK13, hf⟩ := fxL_e hf
        have k_K13 : ∀ (x14 : Int32) (H : Heap) (locs : List Loc) (ls : Array Slot), fx_P D cy LM ad σ1 H → va_S A s.heap H locs → lv_has ls 6 [(0, .ref (ad 0)), (2, .int a2), (4, .int x14)] → K13 x14 = some (v, σ') → W p l e (fx_R (3)) s m args below meth c H locs 0 0 (fx_Qi D cy LM ad A below args s v σ') (F0 m 123 ls []) := by
          intro x14 H locs ls hP hS hl hf
          replace hf := fxk1 hK13 hf
          refine lv_iload_n hx hb dX12_most_123 rfl (lv_at hl 1 rfl) ?_
          refine lv_if_ne (tgt := 135) hx hb dX12_most_124 (by decide) (fun c15 => ?_) (fun c15 => ?_)
          · replace hf := fx_ie c15 hf
            refine lv_iload_n hx hb dX12_most_135 rfl (lv_at hl 1 rfl) ?_
            refine lv_iconst hx hb dX12_most_136 ki_1 ?_
            refine lv_icmp_ne (tgt := 149) hx hb dX12_most_137 (by decide) (fun c16 => ?_) (fun c16 => ?_)
            · replace hf := fx_ie c16 hf
              refine lv_iload hx hb dX12_most_149 (lv_at hl 2 rfl) ?_
              exact fx_iretf hf hC hr hk hP hS dX12_most_151
            · replace hf := fx_it c16 hf
              refine lv_aload_n hx hb dX12_most_140 rfl (lv_at hl 0 rfl) ?_
              refine lv_iload hx hb dX12_most_141 (lv_at hl 2 rfl) ?_
              obtain ⟨r18, hc17, hf⟩ := fxBP_e hf
              refine fx_ci hC hS (fx_runV (i := 0) (As := [.int x14]) (rest := []) hC hP hS (ctX12_lackOf l hc17 D cy ad ec _) kM_0 (by decide) rfl kMV_X12_430 kC_X12_lackOf hd_X12_lackOf rfl ⟨(Nat.le_of_ble_eq_true rfl), (Nat.le_of_ble_eq_true rfl)⟩ ⟨Nat.le_refl 0, Nat.le_refl 0⟩ hl.1 (Nat.le_of_ble_eq_true rfl) rfl dX12_most_143) (fun H locs hP hS => ?_)
              refine lv_goto (tgt := 151) hx hb dX12_most_146 (by decide) ?_
              exact fx_iretf hf hC hr hk hP hS dX12_most_151
          · replace hf := fx_it c15 hf
            refine lv_iload hx hb dX12_most_127 (lv_at hl 2 rfl) ?_
            obtain ⟨r21, hc20, hf⟩ := fxBP_e hf
            refine fx_ci hC hS (fx_runS (As := [.int x14]) (rest := []) hC hP hS (ctX12_bits l hc20 D cy ad ec _) kMS_X12_433 kC_X12_bits hd_X12_bits.2 rfl ⟨(Nat.le_of_ble_eq_true rfl), (Nat.le_of_ble_eq_true rfl)⟩ ⟨Nat.le_refl 0, Nat.le_refl 0⟩ hl.1 (Nat.le_of_ble_eq_true rfl) rfl dX12_most_129) (fun H locs hP hS => ?_)
            refine lv_goto (tgt := 151) hx hb dX12_most_132 (by decide) ?_
            exact fx_iretf hf hC hr hk hP hS dX12_most_151
        have L55 : ∀ (n26 : Nat) (w23 : Int32) (w24 : Int32) (H : Heap) (locs : List Loc) (ls : Array Slot), fx_P D cy LM ad σ1 H → va_S A s.heap H locs → lv_has ls 6 [(0, .ref (ad 0)), (1, .int a1), (2, .int a2), (3, .int r11), (4, .int w23), (5, .int w24)] → fX12_most_38 a1 σ1 r11 K13 n26 w23 w24 = some (v, σ') → W p l e (fx_R (3)) s m args below meth c H locs 0 0 (fx_Qi D cy LM ad A below args s v σ') (F0 m 38 ls []) := by
          intro n26
          induction n26 with
          | zero =>
            intro w23 w24 H locs ls hP hS hl hf
            rw [fX12_most_38] at hf
            cases hf
          | succ n26 ih25 =>
            intro w23 w24 H locs ls hP hS hl hf
            rw [fX12_most_38] at hf
            refine lv_iload hx hb dX12_most_38 (lv_at hl 5 rfl) ?_
            refine lv_iconst hx hb dX12_most_40 ki_1 ?_
            refine lv_aload_n hx hb dX12_most_41 rfl (lv_at hl 0 rfl) ?_
            refine gf_X12_13 (v := .ref (ad 2)) hC hP kM_0 rfl dX12_most_42 ?_
            refine lv_iconst hx hb dX12_most_45 ki_0 ?_
            obtain ⟨h27, hf⟩ := fxG_e hf
            refine fx_iald hC hP kM_2 (fx_inp h27) dX12_most_46 ?_
            refine lv_ishl hx hb dX12_most_47 ?_
            refine lv_icmp_ge (tgt := 123) hx hb dX12_most_48 (by decide) (fun c28 => ?_) (fun c28 => ?_)
            · replace hf := fx_it c28 hf
              exact k_K13 w23 _ _ _ hP hS (lv_sub hl [0, 2, 4] rfl) hf
            · replace hf := fx_ie c28 hf
              refine lv_iload hx hb dX12_most_51 (lv_at hl 5 rfl) ?_
              refine lv_iload_n hx hb dX12_most_53 rfl (lv_at hl 3 rfl) ?_
              refine lv_iand hx hb dX12_most_54 ?_
              refine lv_iload_n hx hb dX12_most_55 rfl (lv_at hl 3 rfl) ?_
              refine lv_icmp_ne (tgt := 117) hx hb dX12_most_56 (by decide) (fun c29 => ?_) (fun c29 => ?_)
              · replace hf := fx_ie c29 hf
                refine lv_iinc (v := (w24 + 1)) (lv' := [(5, .int (w24 + 1)), (0, .ref (ad 0)), (1, .int a1), (2, .int a2), (3, .int r11), (4, .int w23)]) hx hb dX12_most_117 hl (k := 5) rfl (congrArg (fun z => w24 + z) ki_1) (by decide) rfl (fun ls hl => ?_)
                refine lv_goto (tgt := 38) hx hb dX12_most_120 (by decide) ?_
                exact ih25 w23 (w24 + 1) _ _ _ hP hS (lv_sub hl [1, 2, 3, 4, 5, 0] rfl) hf
              · replace hf := fx_it c29 hf
                refine lv_aload_n hx hb dX12_most_59 rfl (lv_at hl 0 rfl) ?_
                refine lv_iload hx hb dX12_most_60 (lv_at hl 5 rfl) ?_
                obtain ⟨r31, hc30, hf⟩ := fxBP_e hf
                refine fx_ci hC hS (fx_runV (i := 0) (As := [.int w24]) (rest := []) hC hP hS (ctX12_lackOf l hc30 D cy ad ec _) kM_0 (by decide) rfl kMV_X12_430 kC_X12_lackOf hd_X12_lackOf rfl ⟨(Nat.le_of_ble_eq_true rfl), (Nat.le_of_ble_eq_true rfl)⟩ ⟨Nat.le_refl 0, Nat.le_refl 0⟩ hl.1 (Nat.le_of_ble_eq_true rfl) rfl dX12_most_62) (fun H locs hP hS => ?_)
                refine lv_iload_n hx hb dX12_most_65 rfl (lv_at hl 1 rfl) ?_
                refine lv_icmp_gt (tgt := 117) hx hb dX12_most_66 (by decide) (fun c33 => ?_) (fun c33 => ?_)
                · replace hf := fx_it c33 hf
                  refine lv_iinc (v := (w24 + 1)) (lv' := [(5, .int (w24 + 1)), (0, .ref (ad 0)), (1, .int a1), (2, .int a2), (3, .int r11), (4, .int w23)]) hx hb dX12_most_117 hl (k := 5) rfl (congrArg (fun z => w24 + z) ki_1) (by decide) rfl (fun ls hl => ?_)
                  refine lv_goto (tgt := 38) hx hb dX12_most_120 (by decide) ?_
                  exact ih25 w23 (w24 + 1) _ _ _ hP hS (lv_sub hl [1, 2, 3, 4, 5, 0] rfl) hf
                · replace hf := fx_ie c33 hf
                  refine lv_iload hx hb dX12_most_69 (lv_at hl 5 rfl) ?_
                  obtain ⟨r35, hc34, hf⟩ := fxBP_e hf
                  refine fx_ci hC hS (fx_runS (As := [.int w24]) (rest := []) hC hP hS (ctX12_bits l hc34 D cy ad ec _) kMS_X12_433 kC_X12_bits hd_X12_bits.2 rfl ⟨(Nat.le_of_ble_eq_true rfl), (Nat.le_of_ble_eq_true rfl)⟩ ⟨Nat.le_refl 0, Nat.le_refl 0⟩ hl.1 (Nat.le_of_ble_eq_true rfl) rfl dX12_most_71) (fun H locs hP hS => ?_)
                  refine lv_iload hx hb dX12_most_74 (lv_at hl 4 rfl) ?_
                  obtain ⟨r38, hc37, hf⟩ := fxBP_e hf
                  refine fx_ci hC hS (fx_runS (As := [.int w23]) (rest := [.int r35]) hC hP hS (ctX12_bits l hc37 D cy ad ec _) kMS_X12_433 kC_X12_bits hd_X12_bits.2 rfl ⟨(Nat.le_of_ble_eq_true rfl), (Nat.le_of_ble_eq_true rfl)⟩ ⟨Nat.le_refl 0, Nat.le_refl 0⟩ hl.1 (Nat.le_of_ble_eq_true rfl) rfl dX12_most_76) (fun H locs hP hS => ?_)
                  refine lv_icmp_ge (tgt := 85) hx hb dX12_most_79 (by decide) (fun c40 => ?_) (fun c40 => ?_)
                  · replace hf := fx_it c40 hf
                    refine lv_iload hx hb dX12_most_85 (lv_at hl 5 rfl) ?_
                    obtain ⟨r42, hc41, hf⟩ := fxBP_e hf
                    refine fx_ci hC hS (fx_runS (As := [.int w24]) (rest := []) hC hP hS (ctX12_bits l hc41 D cy ad ec _) kMS_X12_433 kC_X12_bits hd_X12_bits.2 rfl ⟨(Nat.le_of_ble_eq_true rfl), (Nat.le_of_ble_eq_true rfl)⟩ ⟨Nat.le_refl 0, Nat.le_refl 0⟩ hl.1 (Nat.le_of_ble_eq_true rfl) rfl dX12_most_87) (fun H locs hP hS => ?_)
                    refine lv_iload hx hb dX12_most_90 (lv_at hl 4 rfl) ?_
                    obtain ⟨r45, hc44, hf⟩ := fxBP_e hf
                    refine fx_ci hC hS (fx_runS (As := [.int w23]) (rest := [.int r42]) hC hP hS (ctX12_bits l hc44 D cy ad ec _) kMS_X12_433 kC_X12_bits hd_X12_bits.2 rfl ⟨(Nat.le_of_ble_eq_true rfl), (Nat.le_of_ble_eq_true rfl)⟩ ⟨Nat.le_refl 0, Nat.le_refl 0⟩ hl.1 (Nat.le_of_ble_eq_true rfl) rfl dX12_most_92) (fun H locs hP hS => ?_)
                    refine lv_icmp_gt (tgt := 113) hx hb dX12_most_95 (by decide) (fun c47 => ?_) (fun c47 => ?_)
                    · replace hf := fx_it c47 hf
                      refine lv_iload hx hb dX12_most_113 (lv_at hl 5 rfl) ?_
                      refine lv_istore (lv' := [(4, .int w24), (0, .ref (ad 0)), (1, .int a1), (2, .int a2), (3, .int r11), (5, .int w24)]) hx hb dX12_most_115 hl (by decide) rfl (fun ls hl => ?_)
                      refine lv_iinc (v := (w24 + 1)) (lv' := [(5, .int (w24 + 1)), (4, .int w24), (0, .ref (ad 0)), (1, .int a1), (2, .int a2), (3, .int r11)]) hx hb dX12_most_117 hl (k := 5) rfl (congrArg (fun z => w24 + z) ki_1) (by decide) rfl (fun ls hl => ?_)
                      refine lv_goto (tgt := 38) hx hb dX12_most_120 (by decide) ?_
                      exact ih25 w24 (w24 + 1) _ _ _ hP hS (lv_sub hl [2, 3, 4, 5, 1, 0] rfl) hf
                    · replace hf := fx_ie c47 hf
                      refine lv_aload_n hx hb dX12_most_98 rfl (lv_at hl 0 rfl) ?_
                      refine lv_iload hx hb dX12_most_99 (lv_at hl 5 rfl) ?_
                      obtain ⟨r49, hc48, hf⟩ := fxBP_e hf
                      refine fx_ci hC hS (fx_runV (i := 0) (As := [.int w24]) (rest := []) hC hP hS (ctX12_lackOf l hc48 D cy ad ec _) kM_0 (by decide) rfl kMV_X12_430 kC_X12_lackOf hd_X12_lackOf rfl ⟨(Nat.le_of_ble_eq_true rfl), (Nat.le_of_ble_eq_true rfl)⟩ ⟨Nat.le_refl 0, Nat.le_refl 0⟩ hl.1 (Nat.le_of_ble_eq_true rfl) rfl dX12_most_101) (fun H locs hP hS => ?_)
                      refine lv_aload_n hx hb dX12_most_104 rfl (lv_at hl 0 rfl) ?_
                      refine lv_iload hx hb dX12_most_105 (lv_at hl 4 rfl) ?_
                      obtain ⟨r52, hc51, hf⟩ := fxBP_e hf
                      refine fx_ci hC hS (fx_runV (i := 0) (As := [.int w23]) (rest := [.int r49]) hC hP hS (ctX12_lackOf l hc51 D cy ad ec _) kM_0 (by decide) rfl kMV_X12_430 kC_X12_lackOf hd_X12_lackOf rfl ⟨(Nat.le_of_ble_eq_true rfl), (Nat.le_of_ble_eq_true rfl)⟩ ⟨Nat.le_refl 0, Nat.le_refl 0⟩ hl.1 (Nat.le_of_ble_eq_true rfl) rfl dX12_most_107) (fun H locs hP hS => ?_)
                      refine lv_icmp_ge (tgt := 117) hx hb dX12_most_110 (by decide) (fun c54 => ?_) (fun c54 => ?_)
                      · replace hf := fx_it c54 hf
                        refine lv_iinc (v := (w24 + 1)) (lv' := [(5, .int (w24 + 1)), (0, .ref (ad 0)), (1, .int a1), (2, .int a2), (3, .int r11), (4, .int w23)]) hx hb dX12_most_117 hl (k := 5) rfl (congrArg (fun z => w24 + z) ki_1) (by decide) rfl (fun ls hl => ?_)
                        refine lv_goto (tgt := 38) hx hb dX12_most_120 (by decide) ?_
                        exact ih25 w23 (w24 + 1) _ _ _ hP hS (lv_sub hl [1, 2, 3, 4, 5, 0] rfl) hf
                      · replace hf := fx_ie c54 hf
                        refine lv_iload hx hb dX12_most_113 (lv_at hl 5 rfl) ?_
                        refine lv_istore (lv' := [(4, .int w24), (0, .ref (ad 0)), (1, .int a1), (2, .int a2), (3, .int r11), (5, .int w24)]) hx hb dX12_most_115 hl (by decide) rfl (fun ls hl => ?_)
                        refine lv_iinc (v := (w24 + 1)) (lv' := [(5, .int (w24 + 1)), (4, .int w24), (0, .ref (ad 0)), (1, .int a1), (2, .int a2), (3, .int r11)]) hx hb dX12_most_117 hl (k := 5) rfl (congrArg (fun z => w24 + z) ki_1) (by decide) rfl (fun ls hl => ?_)
                        refine lv_goto (tgt := 38) hx hb dX12_most_120 (by decide) ?_
                        exact ih25 w24 (w24 + 1) _ _ _ hP hS (lv_sub hl [2, 3, 4, 5, 1, 0] rfl) hf
                  · replace hf := fx_ie c40 hf
                    refine lv_goto (tgt := 117) hx hb dX12_most_82 (by decide) ?_
                    refine lv_iinc (v := (w24 + 1)) (lv' := [(5, .int (w24 + 1)), (0, .ref (ad 0)), (1, .int a1), (2, .int a2), (3, .int r11), (4, .int w23)]) hx hb dX12_most_117 hl (k := 5) rfl (congrArg (fun z => w24 + z) ki_1) (by decide) rfl (fun ls hl => ?_)
                    refine lv_goto (tgt := 38) hx hb dX12_most_120 (by decide) ?_
                    exact ih25 w23 (w24 + 1) _ _ _ hP hS (lv_sub hl [1, 2, 3, 4, 5, 0] rfl) hf
        exact L55 FU r11 0 _ _ _ hP hS (lv_sub hl [3, 4, 5, 2, 1, 0] rfl) hf
      · replace hf := fx_it c9 hf
        refine lv_iconst hx hb dX12_most_25 ki_m1 ?_
        exact fx_iretf hf hC hr hk hP hS dX12_most_26
  exact main _ _ _ hP hS hl

set_option maxHeartbeats 4000000 in
set_option maxRecDepth 100000 in
theorem ctX12_ways (l : Launch) {a1 : Int32} {σ σ' : FH} {v : Int32} (hf : fX12_ways a1 σ = some (v, σ')) : fx_Mi l yX12_ways cX12_ways 4 (some .int) (1) LM (fun ad ec => [.ref (ad 0), .int a1]) σ v σ' := by
  unfold fX12_ways at hf
  refine fx_mi' (own := RX12) rfl (by decide +kernel) ?_
  intro p e s m args below meth c D cy ad ec A hC hr hk hP hS
  have hx := hC.1
  have hb := hC.2.1
  have hl := lv_entry ([.ref (ad 0), .int a1]) (n := 4) (Nat.le_of_ble_eq_true rfl)
  show W _ _ _ _ _ _ _ _ _ _ _ _ _ _ _ (entryFrame m ([.ref (ad 0), .int a1] : List Value).toArray 4)
  rw [lg_entry_eq]
  generalize (lg_sl ([.ref (ad 0), .int a1]) ++ List.replicate (4 - (lg_sl ([.ref (ad 0), .int a1])).length) Slot.unset).toArray = ls at hl ⊢
  have hl : lv_has ls 4 [(0, .ref (ad 0)), (1, .int a1)] := hl
  have main : ∀ (H : Heap) (locs : List Loc) (ls : Array Slot), fx_P D cy LM ad σ H → va_S A s.heap H locs → lv_has ls 4 [(0, .ref (ad 0)), (1, .int a1)] → W p l e (fx_R (1)) s m args below meth c H locs 0 0 (fx_Qi D cy LM ad A below args s v σ') (F0 m 0 ls []) := by
    intro H locs ls hP hS hl
    refine lv_aload_n hx hb dX12_ways_0 rfl (lv_at hl 0 rfl) ?_
    refine lv_iconst hx hb dX12_ways_1 ki_0 ?_
    obtain ⟨σ1, eσ1, hf⟩ := fxL_e hf
    refine pf_X12_133 hC hP hS kM_0 dX12_ways_2 (fun H locs hP hS => ?_)
    replace hP := fx_Pe eσ1 hP
    refine lv_iload_n hx hb dX12_ways_5 rfl (lv_at hl 1 rfl) ?_
    refine lv_iconst hx hb dX12_ways_6 ki_0 ?_
    refine lv_sipush hx hb dX12_ways_7 ks_200 ?_
    obtain ⟨r3, hc2, hf⟩ := fxBP_e hf
    refine fx_ci hC hS (fx_runS (As := [.int a1, .int 0, .int 200]) (rest := []) hC hP hS (ctX12_within l hc2 D cy ad ec _) kMS_X12_253 kC_X12_within hd_X12_within.2 rfl ⟨(Nat.le_of_ble_eq_true rfl), (Nat.le_of_ble_eq_true rfl)⟩ ⟨Nat.le_refl 0, Nat.le_refl 0⟩ hl.1 (Nat.le_of_ble_eq_true rfl) rfl dX12_ways_10) (fun H locs hP hS => ?_)
    refine lv_if_ne (tgt := 18) hx hb dX12_ways_13 (by decide) (fun c5 => ?_) (fun c5 => ?_)
    · replace hf := fx_ie c5 hf
      refine lv_iconst hx hb dX12_ways_18 ki_0 ?_
      refine lv_istore_n (lv' := [(2, .int 0), (0, .ref (ad 0)), (1, .int a1)]) hx hb dX12_ways_19 rfl hl (by decide) rfl (fun ls hl => ?_)
      refine lv_iconst hx hb dX12_ways_20 ki_0 ?_
      refine lv_istore_n (lv' := [(3, .int 0), (2, .int 0), (0, .ref (ad 0)), (1, .int a1)]) hx hb dX12_ways_21 rfl hl (by decide) rfl (fun ls hl => ?_)
      obtain ⟨K6, hK6, hf⟩ := fxL_e hf
      have k_K6 : ∀ (x7 : Int32) (H : Heap) (locs : List Loc) (ls : Array Slot), fx_P D cy LM ad σ1 H → va_S A s.heap H locs → lv_has ls 4 [(2, .int x7)] → K6 x7 = some (v, σ') → W p l e (fx_R (1)) s m args below meth c H locs 0 0 (fx_Qi D cy LM ad A below args s v σ') (F0 m 57 ls []) := by
        intro x7 H locs ls hP hS hl hf
        replace hf := fxk1 hK6 hf
        refine lv_iload_n hx hb dX12_ways_57 rfl (lv_at hl 0 rfl) ?_
        exact fx_iretf hf hC hr hk hP hS dX12_ways_58
      have L21 : ∀ (n11 : Nat) (w8 : Int32) (w9 : Int32) (H : Heap) (locs : List Loc) (ls : Array Slot), fx_P D cy LM ad σ1 H → va_S A s.heap H locs → lv_has ls 4 [(0, .ref (ad 0)), (1, .int a1), (2, .int w8), (3, .int w9)] → fX12_ways_22 a1 σ1 K6 n11 w8 w9 = some (v, σ') → W p l e (fx_R (1)) s m args below meth c H locs 0 0 (fx_Qi D cy LM ad A below args s v σ') (F0 m 22 ls []) := by
        intro n11
        induction n11 with
        | zero =>
          intro w8 w9 H locs ls hP hS hl hf
          rw [fX12_ways_22] at hf
          cases hf
        | succ n11 ih10 =>
          intro w8 w9 H locs ls hP hS hl hf
          rw [fX12_ways_22] at hf
          refine lv_iload_n hx hb dX12_ways_22 rfl (lv_at hl 3 rfl) ?_
          refine lv_iconst hx hb dX12_ways_23 ki_1 ?_
          refine lv_aload_n hx hb dX12_ways_24 rfl (lv_at hl 0 rfl) ?_
          refine gf_X12_13 (v := .ref (ad 2)) hC hP kM_0 rfl dX12_ways_25 ?_
          refine lv_iconst hx hb dX12_ways_28 ki_1 ?_
          obtain ⟨h12, hf⟩ := fxG_e hf
          refine fx_iald hC hP kM_2 (fx_inp h12) dX12_ways_29 ?_
          refine lv_ishl hx hb dX12_ways_30 ?_
          refine lv_icmp_ge (tgt := 57) hx hb dX12_ways_31 (by decide) (fun c13 => ?_) (fun c13 => ?_)
          · replace hf := fx_it c13 hf
            exact k_K6 w8 _ _ _ hP hS (lv_sub hl [2] rfl) hf
          · replace hf := fx_ie c13 hf
            refine lv_iload_n hx hb dX12_ways_34 rfl (lv_at hl 2 rfl) ?_
            refine lv_aload_n hx hb dX12_ways_35 rfl (lv_at hl 0 rfl) ?_
            refine lv_iload_n hx hb dX12_ways_36 rfl (lv_at hl 3 rfl) ?_
            obtain ⟨r15, hc14, hf⟩ := fxBP_e hf
            refine fx_ci hC hS (fx_runV (i := 0) (As := [.int w9]) (rest := [.int w8]) hC hP hS (ctX12_seatsOf l hc14 D cy ad ec _) kM_0 (by decide) rfl kMV_X12_354 kC_X12_seatsOf hd_X12_seatsOf rfl ⟨(Nat.le_of_ble_eq_true rfl), (Nat.le_of_ble_eq_true rfl)⟩ ⟨Nat.le_refl 0, Nat.le_refl 0⟩ hl.1 (Nat.le_of_ble_eq_true rfl) rfl dX12_ways_37) (fun H locs hP hS => ?_)
            refine lv_iload_n hx hb dX12_ways_40 rfl (lv_at hl 1 rfl) ?_
            obtain ⟨v17, ev17, hf⟩ := fxL_e hf
            have j_v17 : ∀ (z18 : Int32), z18 = ((if r15 = a1 then 1 else 0) : Int32) → ∀ (ls : Array Slot), lv_has ls 4 [(0, .ref (ad 0)), (1, .int a1), (3, .int w9)] → W p l e (fx_R (1)) s m args below meth c H locs 0 0 (fx_Qi D cy LM ad A below args s v σ') (F0 m 49 ls [.int z18, .int w8]) := by
              intro z18 hz18 ls hl
              obtain rfl : v17 = z18 := ev17.trans hz18.symm
              refine lv_iadd hx hb dX12_ways_49 ?_
              obtain ⟨v20, ev20, hf⟩ := fxL_e hf
              refine fx_ti ev20 ?_
              refine lv_istore_n (lv' := [(2, .int v20), (0, .ref (ad 0)), (1, .int a1), (3, .int w9)]) hx hb dX12_ways_50 rfl hl (by decide) rfl (fun ls hl => ?_)
              refine lv_iinc (v := (w9 + 1)) (lv' := [(3, .int (w9 + 1)), (2, .int v20), (0, .ref (ad 0)), (1, .int a1)]) hx hb dX12_ways_51 hl (k := 3) rfl (congrArg (fun z => w9 + z) ki_1) (by decide) rfl (fun ls hl => ?_)
              refine lv_goto (tgt := 22) hx hb dX12_ways_54 (by decide) ?_
              exact ih10 v20 (w9 + 1) _ _ _ hP hS (lv_sub hl [2, 3, 1, 0] rfl) hf
            refine lv_icmp_ne (tgt := 48) hx hb dX12_ways_41 (by decide) (fun c19 => ?_) (fun c19 => ?_)
            · refine lv_iconst hx hb dX12_ways_48 ki_0 ?_
              exact j_v17 0 (if_neg c19).symm ls (lv_sub hl [0, 1, 3] rfl)
            · refine lv_iconst hx hb dX12_ways_44 ki_1 ?_
              refine lv_goto (tgt := 49) hx hb dX12_ways_45 (by decide) ?_
              exact j_v17 1 (if_pos c19).symm ls (lv_sub hl [0, 1, 3] rfl)
      exact L21 FU 0 0 _ _ _ hP hS (lv_sub hl [2, 3, 1, 0] rfl) hf
    · replace hf := fx_it c5 hf
      refine lv_iconst hx hb dX12_ways_16 ki_m1 ?_
      exact fx_iretf hf hC hr hk hP hS dX12_ways_17
  exact main _ _ _ hP hS hl

set_option maxHeartbeats 4000000 in
set_option maxRecDepth 100000 in
theorem ctX12_isMore (l : Launch) {a1 : Int32} {σ : FH} {v : Int32} (hf : fX12_isMore a1 σ = some v) : fx_Mi l yX12_isMore cX12_isMore 2 (some .boolean) (2) LM (fun ad ec => [.ref (ad 0), .int a1]) σ v σ := by
  unfold fX12_isMore at hf
  refine fx_mi' (own := RX12) rfl (by decide +kernel) ?_
  intro p e s m args below meth c D cy ad ec A hC hr hk hP hS
  have hx := hC.1
  have hb := hC.2.1
  have hl := lv_entry ([.ref (ad 0), .int a1]) (n := 2) (Nat.le_of_ble_eq_true rfl)
  show W _ _ _ _ _ _ _ _ _ _ _ _ _ _ _ (entryFrame m ([.ref (ad 0), .int a1] : List Value).toArray 2)
  rw [lg_entry_eq]
  generalize (lg_sl ([.ref (ad 0), .int a1]) ++ List.replicate (2 - (lg_sl ([.ref (ad 0), .int a1])).length) Slot.unset).toArray = ls at hl ⊢
  have hl : lv_has ls 2 [(0, .ref (ad 0)), (1, .int a1)] := hl
  have main : ∀ (H : Heap) (locs : List Loc) (ls : Array Slot), fx_P D cy LM ad σ H → va_S A s.heap H locs → lv_has ls 2 [(0, .ref (ad 0)), (1, .int a1)] → W p l e (fx_R (2)) s m args below meth c H locs 0 0 (fx_Qi D cy LM ad A below args s v σ) (F0 m 0 ls []) := by
    intro H locs ls hP hS hl
    refine lv_iconst hx hb dX12_isMore_0 ki_2 ?_
    refine lv_aload_n hx hb dX12_isMore_1 rfl (lv_at hl 0 rfl) ?_
    refine lv_iload_n hx hb dX12_isMore_2 rfl (lv_at hl 1 rfl) ?_
    obtain ⟨r2, hc1, hf⟩ := fxBP_e hf
    refine fx_ci hC hS (fx_runV (i := 0) (As := [.int a1]) (rest := [.int 2]) hC hP hS (ctX12_seatsOf l hc1 D cy ad ec _) kM_0 (by decide) rfl kMV_X12_354 kC_X12_seatsOf hd_X12_seatsOf rfl ⟨(Nat.le_of_ble_eq_true rfl), (Nat.le_of_ble_eq_true rfl)⟩ ⟨Nat.le_refl 0, Nat.le_refl 0⟩ hl.1 (Nat.le_of_ble_eq_true rfl) rfl dX12_isMore_3) (fun H locs hP hS => ?_)
    refine lv_imul hx hb dX12_isMore_6 ?_
    refine lv_aload_n hx hb dX12_isMore_7 rfl (lv_at hl 0 rfl) ?_
    obtain ⟨r5, hc4, hf⟩ := fxBP_e hf
    refine fx_ci hC hS (fx_runV (i := 0) (As := []) (rest := [.int (2 * r2)]) hC hP hS (ctX12_allSeats l hc4 D cy ad ec _) kM_0 (by decide) rfl kMV_X12_389 kC_X12_allSeats hd_X12_allSeats rfl ⟨(Nat.le_of_ble_eq_true rfl), (Nat.le_of_ble_eq_true rfl)⟩ ⟨Nat.le_refl 0, Nat.le_refl 0⟩ hl.1 (Nat.le_of_ble_eq_true rfl) rfl dX12_isMore_8) (fun H locs hP hS => ?_)
    obtain ⟨v7, ev7, hf⟩ := fxL_e hf
    have j_v7 : ∀ (z8 : Int32), z8 = ((if (2 * r2) ≤ r5 then 0 else 1) : Int32) → ∀ (ls : Array Slot), lv_has ls 2 [] → W p l e (fx_R (2)) s m args below meth c H locs 0 0 (fx_Qi D cy LM ad A below args s v σ) (F0 m 19 ls [.int z8]) := by
      intro z8 hz8 ls hl
      obtain rfl : v7 = z8 := ev7.trans hz8.symm
      obtain ⟨h10, hf⟩ := fxG_e hf
      exact fx_zretp (fx_bon h10) hf hC hr hk hP hS dX12_isMore_19
    refine lv_icmp_le (tgt := 18) hx hb dX12_isMore_11 (by decide) (fun c9 => ?_) (fun c9 => ?_)
    · refine lv_iconst hx hb dX12_isMore_18 ki_0 ?_
      exact j_v7 0 (if_pos c9).symm ls (lv_sub hl [] rfl)
    · refine lv_iconst hx hb dX12_isMore_14 ki_1 ?_
      refine lv_goto (tgt := 19) hx hb dX12_isMore_15 (by decide) ?_
      exact j_v7 1 (if_neg c9).symm ls (lv_sub hl [] rfl)
  exact main _ _ _ hP hS hl

set_option maxHeartbeats 4000000 in
set_option maxRecDepth 100000 in
theorem ctX12_pivotsOf (l : Launch) {a1 : Int32} {σ : FH} {v : Int32} (hf : fX12_pivotsOf a1 σ = some v) : fx_Mi l yX12_pivotsOf cX12_pivotsOf 4 (some .int) (3) LM (fun ad ec => [.ref (ad 0), .int a1]) σ v σ := by
  unfold fX12_pivotsOf at hf
  refine fx_mi' (own := RX12) rfl (by decide +kernel) ?_
  intro p e s m args below meth c D cy ad ec A hC hr hk hP hS
  have hx := hC.1
  have hb := hC.2.1
  have hl := lv_entry ([.ref (ad 0), .int a1]) (n := 4) (Nat.le_of_ble_eq_true rfl)
  show W _ _ _ _ _ _ _ _ _ _ _ _ _ _ _ (entryFrame m ([.ref (ad 0), .int a1] : List Value).toArray 4)
  rw [lg_entry_eq]
  generalize (lg_sl ([.ref (ad 0), .int a1]) ++ List.replicate (4 - (lg_sl ([.ref (ad 0), .int a1])).length) Slot.unset).toArray = ls at hl ⊢
  have hl : lv_has ls 4 [(0, .ref (ad 0)), (1, .int a1)] := hl
  have main : ∀ (H : Heap) (locs : List Loc) (ls : Array Slot), fx_P D cy LM ad σ H → va_S A s.heap H locs → lv_has ls 4 [(0, .ref (ad 0)), (1, .int a1)] → W p l e (fx_R (3)) s m args below meth c H locs 0 0 (fx_Qi D cy LM ad A below args s v σ) (F0 m 0 ls []) := by
    intro H locs ls hP hS hl
    refine lv_iconst hx hb dX12_pivotsOf_0 ki_0 ?_
    refine lv_istore_n (lv' := [(2, .int 0), (0, .ref (ad 0)), (1, .int a1)]) hx hb dX12_pivotsOf_1 rfl hl (by decide) rfl (fun ls hl => ?_)
    refine lv_iconst hx hb dX12_pivotsOf_2 ki_0 ?_
    refine lv_istore_n (lv' := [(3, .int 0), (2, .int 0), (0, .ref (ad 0)), (1, .int a1)]) hx hb dX12_pivotsOf_3 rfl hl (by decide) rfl (fun ls hl => ?_)
    obtain ⟨K1, hK1, hf⟩ := fxL_e hf
    have k_K1 : ∀ (x2 : Int32) (H : Heap) (locs : List Loc) (ls : Array Slot), fx_P D cy LM ad σ H → va_S A s.heap H locs → lv_has ls 4 [(2, .int x2)] → K1 x2 = some v → W p l e (fx_R (3)) s m args below meth c H locs 0 0 (fx_Qi D cy LM ad A below args s v σ) (F0 m 58 ls []) := by
      intro x2 H locs ls hP hS hl hf
      replace hf := fxk1 hK1 hf
      refine lv_iload_n hx hb dX12_pivotsOf_58 rfl (lv_at hl 0 rfl) ?_
      exact fx_iretp hf hC hr hk hP hS dX12_pivotsOf_59
    have L22 : ∀ (n6 : Nat) (w3 : Int32) (w4 : Int32) (H : Heap) (locs : List Loc) (ls : Array Slot), fx_P D cy LM ad σ H → va_S A s.heap H locs → lv_has ls 4 [(0, .ref (ad 0)), (1, .int a1), (2, .int w3), (3, .int w4)] → fX12_pivotsOf_4 a1 σ K1 n6 w3 w4 = some v → W p l e (fx_R (3)) s m args below meth c H locs 0 0 (fx_Qi D cy LM ad A below args s v σ) (F0 m 4 ls []) := by
      intro n6
      induction n6 with
      | zero =>
        intro w3 w4 H locs ls hP hS hl hf
        rw [fX12_pivotsOf_4] at hf
        cases hf
      | succ n6 ih5 =>
        intro w3 w4 H locs ls hP hS hl hf
        rw [fX12_pivotsOf_4] at hf
        refine lv_iload_n hx hb dX12_pivotsOf_4 rfl (lv_at hl 3 rfl) ?_
        refine lv_iconst hx hb dX12_pivotsOf_5 ki_1 ?_
        refine lv_aload_n hx hb dX12_pivotsOf_6 rfl (lv_at hl 0 rfl) ?_
        refine gf_X12_13 (v := .ref (ad 2)) hC hP kM_0 rfl dX12_pivotsOf_7 ?_
        refine lv_iconst hx hb dX12_pivotsOf_10 ki_1 ?_
        obtain ⟨h7, hf⟩ := fxG_e hf
        refine fx_iald hC hP kM_2 (fx_inp h7) dX12_pivotsOf_11 ?_
        refine lv_ishl hx hb dX12_pivotsOf_12 ?_
        refine lv_icmp_ge (tgt := 58) hx hb dX12_pivotsOf_13 (by decide) (fun c8 => ?_) (fun c8 => ?_)
        · replace hf := fx_it c8 hf
          exact k_K1 w3 _ _ _ hP hS (lv_sub hl [2] rfl) hf
        · replace hf := fx_ie c8 hf
          refine lv_iload_n hx hb dX12_pivotsOf_16 rfl (lv_at hl 2 rfl) ?_
          refine lv_iload_n hx hb dX12_pivotsOf_17 rfl (lv_at hl 3 rfl) ?_
          refine lv_iload_n hx hb dX12_pivotsOf_18 rfl (lv_at hl 1 rfl) ?_
          refine lv_ishr hx hb dX12_pivotsOf_19 ?_
          refine lv_iconst hx hb dX12_pivotsOf_20 ki_1 ?_
          refine lv_iand hx hb dX12_pivotsOf_21 ?_
          refine lv_if_ne (tgt := 49) hx hb dX12_pivotsOf_22 (by decide) (fun c9 => ?_) (fun c9 => ?_)
          · replace hf := fx_ie c9 hf
            refine lv_iconst hx hb dX12_pivotsOf_49 ki_0 ?_
            refine lv_iadd hx hb dX12_pivotsOf_50 ?_
            obtain ⟨v10, ev10, hf⟩ := fxL_e hf
            refine fx_ti ev10 ?_
            refine lv_istore_n (lv' := [(2, .int v10), (0, .ref (ad 0)), (1, .int a1), (3, .int w4)]) hx hb dX12_pivotsOf_51 rfl hl (by decide) rfl (fun ls hl => ?_)
            refine lv_iinc (v := (w4 + 1)) (lv' := [(3, .int (w4 + 1)), (2, .int v10), (0, .ref (ad 0)), (1, .int a1)]) hx hb dX12_pivotsOf_52 hl (k := 3) rfl (congrArg (fun z => w4 + z) ki_1) (by decide) rfl (fun ls hl => ?_)
            refine lv_goto (tgt := 4) hx hb dX12_pivotsOf_55 (by decide) ?_
            exact ih5 v10 (w4 + 1) _ _ _ hP hS (lv_sub hl [2, 3, 1, 0] rfl) hf
          · replace hf := fx_it c9 hf
            refine lv_aload_n hx hb dX12_pivotsOf_25 rfl (lv_at hl 0 rfl) ?_
            refine lv_iload_n hx hb dX12_pivotsOf_26 rfl (lv_at hl 3 rfl) ?_
            obtain ⟨r12, hc11, hf⟩ := fxBP_e hf
            refine fx_ci hC hS (fx_runV (i := 0) (As := [.int w4]) (rest := [.int w3]) hC hP hS (ctX12_isMore l hc11 D cy ad ec _) kM_0 (by decide) rfl kMV_X12_436 kC_X12_isMore hd_X12_isMore rfl ⟨(Nat.le_of_ble_eq_true rfl), (Nat.le_of_ble_eq_true rfl)⟩ ⟨Nat.le_refl 0, Nat.le_refl 0⟩ hl.1 (Nat.le_of_ble_eq_true rfl) rfl dX12_pivotsOf_27) (fun H locs hP hS => ?_)
            refine lv_if_ne (tgt := 49) hx hb dX12_pivotsOf_30 (by decide) (fun c14 => ?_) (fun c14 => ?_)
            · replace hf := fx_ie c14 hf
              refine lv_iconst hx hb dX12_pivotsOf_49 ki_0 ?_
              refine lv_iadd hx hb dX12_pivotsOf_50 ?_
              obtain ⟨v15, ev15, hf⟩ := fxL_e hf
              refine fx_ti ev15 ?_
              refine lv_istore_n (lv' := [(2, .int v15), (0, .ref (ad 0)), (1, .int a1), (3, .int w4)]) hx hb dX12_pivotsOf_51 rfl hl (by decide) rfl (fun ls hl => ?_)
              refine lv_iinc (v := (w4 + 1)) (lv' := [(3, .int (w4 + 1)), (2, .int v15), (0, .ref (ad 0)), (1, .int a1)]) hx hb dX12_pivotsOf_52 hl (k := 3) rfl (congrArg (fun z => w4 + z) ki_1) (by decide) rfl (fun ls hl => ?_)
              refine lv_goto (tgt := 4) hx hb dX12_pivotsOf_55 (by decide) ?_
              exact ih5 v15 (w4 + 1) _ _ _ hP hS (lv_sub hl [2, 3, 1, 0] rfl) hf
            · replace hf := fx_it c14 hf
              refine lv_aload_n hx hb dX12_pivotsOf_33 rfl (lv_at hl 0 rfl) ?_
              refine lv_iload_n hx hb dX12_pivotsOf_34 rfl (lv_at hl 3 rfl) ?_
              refine lv_iconst hx hb dX12_pivotsOf_35 ki_1 ?_
              refine lv_iload_n hx hb dX12_pivotsOf_36 rfl (lv_at hl 1 rfl) ?_
              refine lv_ishl hx hb dX12_pivotsOf_37 ?_
              refine lv_ior hx hb dX12_pivotsOf_38 ?_
              obtain ⟨r17, hc16, hf⟩ := fxBP_e hf
              refine fx_ci hC hS (fx_runV (i := 0) (As := [.int (w4 ||| (1 <<< (a1 &&& 31)))]) (rest := [.int w3]) hC hP hS (ctX12_isMore l hc16 D cy ad ec _) kM_0 (by decide) rfl kMV_X12_436 kC_X12_isMore hd_X12_isMore rfl ⟨(Nat.le_of_ble_eq_true rfl), (Nat.le_of_ble_eq_true rfl)⟩ ⟨Nat.le_refl 0, Nat.le_refl 0⟩ hl.1 (Nat.le_of_ble_eq_true rfl) rfl dX12_pivotsOf_39) (fun H locs hP hS => ?_)
              refine lv_if_eq (tgt := 49) hx hb dX12_pivotsOf_42 (by decide) (fun c19 => ?_) (fun c19 => ?_)
              · replace hf := fx_it c19 hf
                refine lv_iconst hx hb dX12_pivotsOf_49 ki_0 ?_
                refine lv_iadd hx hb dX12_pivotsOf_50 ?_
                obtain ⟨v20, ev20, hf⟩ := fxL_e hf
                refine fx_ti ev20 ?_
                refine lv_istore_n (lv' := [(2, .int v20), (0, .ref (ad 0)), (1, .int a1), (3, .int w4)]) hx hb dX12_pivotsOf_51 rfl hl (by decide) rfl (fun ls hl => ?_)
                refine lv_iinc (v := (w4 + 1)) (lv' := [(3, .int (w4 + 1)), (2, .int v20), (0, .ref (ad 0)), (1, .int a1)]) hx hb dX12_pivotsOf_52 hl (k := 3) rfl (congrArg (fun z => w4 + z) ki_1) (by decide) rfl (fun ls hl => ?_)
                refine lv_goto (tgt := 4) hx hb dX12_pivotsOf_55 (by decide) ?_
                exact ih5 v20 (w4 + 1) _ _ _ hP hS (lv_sub hl [2, 3, 1, 0] rfl) hf
              · replace hf := fx_ie c19 hf
                refine lv_iconst hx hb dX12_pivotsOf_45 ki_1 ?_
                refine lv_goto (tgt := 50) hx hb dX12_pivotsOf_46 (by decide) ?_
                refine lv_iadd hx hb dX12_pivotsOf_50 ?_
                obtain ⟨v21, ev21, hf⟩ := fxL_e hf
                refine fx_ti ev21 ?_
                refine lv_istore_n (lv' := [(2, .int v21), (0, .ref (ad 0)), (1, .int a1), (3, .int w4)]) hx hb dX12_pivotsOf_51 rfl hl (by decide) rfl (fun ls hl => ?_)
                refine lv_iinc (v := (w4 + 1)) (lv' := [(3, .int (w4 + 1)), (2, .int v21), (0, .ref (ad 0)), (1, .int a1)]) hx hb dX12_pivotsOf_52 hl (k := 3) rfl (congrArg (fun z => w4 + z) ki_1) (by decide) rfl (fun ls hl => ?_)
                refine lv_goto (tgt := 4) hx hb dX12_pivotsOf_55 (by decide) ?_
                exact ih5 v21 (w4 + 1) _ _ _ hP hS (lv_sub hl [2, 3, 1, 0] rfl) hf
    exact L22 FU 0 0 _ _ _ hP hS (lv_sub hl [2, 3, 1, 0] rfl) hf
  exact main _ _ _ hP hS hl

set_option maxHeartbeats 4000000 in
set_option maxRecDepth 100000 in
theorem ctX12_pivot (l : Launch) {a1 : Int32} {σ σ' : FH} {v : Int32} (hf : fX12_pivot a1 σ = some (v, σ')) : fx_Mi l yX12_pivot cX12_pivot 2 (some .int) (4) LM (fun ad ec => [.ref (ad 0), .int a1]) σ v σ' := by
  unfold fX12_pivot at hf
  refine fx_mi' (own := RX12) rfl (by decide +kernel) ?_
  intro p e s m args below meth c D cy ad ec A hC hr hk hP hS
  have hx := hC.1
  have hb := hC.2.1
  have hl := lv_entry ([.ref (ad 0), .int a1]) (n := 2) (Nat.le_of_ble_eq_true rfl)
  show W _ _ _ _ _ _ _ _ _ _ _ _ _ _ _ (entryFrame m ([.ref (ad 0), .int a1] : List Value).toArray 2)
  rw [lg_entry_eq]
  generalize (lg_sl ([.ref (ad 0), .int a1]) ++ List.replicate (2 - (lg_sl ([.ref (ad 0), .int a1])).length) Slot.unset).toArray = ls at hl ⊢
  have hl : lv_has ls 2 [(0, .ref (ad 0)), (1, .int a1)] := hl
  have main : ∀ (H : Heap) (locs : List Loc) (ls : Array Slot), fx_P D cy LM ad σ H → va_S A s.heap H locs → lv_has ls 2 [(0, .ref (ad 0)), (1, .int a1)] → W p l e (fx_R (4)) s m args below meth c H locs 0 0 (fx_Qi D cy LM ad A below args s v σ') (F0 m 0 ls []) := by
    intro H locs ls hP hS hl
    refine lv_aload_n hx hb dX12_pivot_0 rfl (lv_at hl 0 rfl) ?_
    refine lv_iconst hx hb dX12_pivot_1 ki_0 ?_
    obtain ⟨σ1, eσ1, hf⟩ := fxL_e hf
    refine pf_X12_133 hC hP hS kM_0 dX12_pivot_2 (fun H locs hP hS => ?_)
    replace hP := fx_Pe eσ1 hP
    refine lv_aload_n hx hb dX12_pivot_5 rfl (lv_at hl 0 rfl) ?_
    refine lv_iload_n hx hb dX12_pivot_6 rfl (lv_at hl 1 rfl) ?_
    obtain ⟨r3, hc2, hf⟩ := fxBP_e hf
    refine fx_ci hC hS (fx_runV (i := 0) (As := [.int a1]) (rest := []) hC hP hS (ctX12_isParty l hc2 D cy ad ec _) kM_0 (by decide) rfl kMV_X12_398 kC_X12_isParty hd_X12_isParty rfl ⟨(Nat.le_of_ble_eq_true rfl), (Nat.le_of_ble_eq_true rfl)⟩ ⟨Nat.le_refl 0, Nat.le_refl 0⟩ hl.1 (Nat.le_of_ble_eq_true rfl) rfl dX12_pivot_7) (fun H locs hP hS => ?_)
    refine lv_if_eq (tgt := 21) hx hb dX12_pivot_10 (by decide) (fun c5 => ?_) (fun c5 => ?_)
    · replace hf := fx_it c5 hf
      refine lv_iconst hx hb dX12_pivot_21 ki_m1 ?_
      exact fx_iretf hf hC hr hk hP hS dX12_pivot_22
    · replace hf := fx_ie c5 hf
      refine lv_aload_n hx hb dX12_pivot_13 rfl (lv_at hl 0 rfl) ?_
      refine lv_iload_n hx hb dX12_pivot_14 rfl (lv_at hl 1 rfl) ?_
      obtain ⟨r7, hc6, hf⟩ := fxBP_e hf
      refine fx_ci hC hS (fx_runV (i := 0) (As := [.int a1]) (rest := []) hC hP hS (ctX12_pivotsOf l hc6 D cy ad ec _) kM_0 (by decide) rfl kMV_X12_439 kC_X12_pivotsOf hd_X12_pivotsOf rfl ⟨(Nat.le_of_ble_eq_true rfl), (Nat.le_of_ble_eq_true rfl)⟩ ⟨Nat.le_refl 0, Nat.le_refl 0⟩ hl.1 (Nat.le_of_ble_eq_true rfl) rfl dX12_pivot_15) (fun H locs hP hS => ?_)
      refine lv_goto (tgt := 22) hx hb dX12_pivot_18 (by decide) ?_
      exact fx_iretf hf hC hr hk hP hS dX12_pivot_22
  exact main _ _ _ hP hS hl

set_option maxHeartbeats 4000000 in
set_option maxRecDepth 100000 in
theorem ctX12_power (l : Launch) {a1 : Int32} {σ σ' : FH} {v : Int32} (hf : fX12_power a1 σ = some (v, σ')) : fx_Mi l yX12_power cX12_power 4 (some .int) (4) LM (fun ad ec => [.ref (ad 0), .int a1]) σ v σ' := by
  unfold fX12_power at hf
  refine fx_mi' (own := RX12) rfl (by decide +kernel) ?_
  intro p e s m args below meth c D cy ad ec A hC hr hk hP hS
  have hx := hC.1
  have hb := hC.2.1
  have hl := lv_entry ([.ref (ad 0), .int a1]) (n := 4) (Nat.le_of_ble_eq_true rfl)
  show W _ _ _ _ _ _ _ _ _ _ _ _ _ _ _ (entryFrame m ([.ref (ad 0), .int a1] : List Value).toArray 4)
  rw [lg_entry_eq]
  generalize (lg_sl ([.ref (ad 0), .int a1]) ++ List.replicate (4 - (lg_sl ([.ref (ad 0), .int a1])).length) Slot.unset).toArray = ls at hl ⊢
  have hl : lv_has ls 4 [(0, .ref (ad 0)), (1, .int a1)] := hl
  have main : ∀ (H : Heap) (locs : List Loc) (ls : Array Slot), fx_P D cy LM ad σ H → va_S A s.heap H locs → lv_has ls 4 [(0, .ref (ad 0)), (1, .int a1)] → W p l e (fx_R (4)) s m args below meth c H locs 0 0 (fx_Qi D cy LM ad A below args s v σ') (F0 m 0 ls []) := by
    intro H locs ls hP hS hl
    refine lv_aload_n hx hb dX12_power_0 rfl (lv_at hl 0 rfl) ?_
    refine lv_iconst hx hb dX12_power_1 ki_0 ?_
    obtain ⟨σ1, eσ1, hf⟩ := fxL_e hf
    refine pf_X12_133 hC hP hS kM_0 dX12_power_2 (fun H locs hP hS => ?_)
    replace hP := fx_Pe eσ1 hP
    refine lv_aload_n hx hb dX12_power_5 rfl (lv_at hl 0 rfl) ?_
    refine lv_iload_n hx hb dX12_power_6 rfl (lv_at hl 1 rfl) ?_
    obtain ⟨r3, hc2, hf⟩ := fxBP_e hf
    refine fx_ci hC hS (fx_runV (i := 0) (As := [.int a1]) (rest := []) hC hP hS (ctX12_isParty l hc2 D cy ad ec _) kM_0 (by decide) rfl kMV_X12_398 kC_X12_isParty hd_X12_isParty rfl ⟨(Nat.le_of_ble_eq_true rfl), (Nat.le_of_ble_eq_true rfl)⟩ ⟨Nat.le_refl 0, Nat.le_refl 0⟩ hl.1 (Nat.le_of_ble_eq_true rfl) rfl dX12_power_7) (fun H locs hP hS => ?_)
    refine lv_if_ne (tgt := 15) hx hb dX12_power_10 (by decide) (fun c5 => ?_) (fun c5 => ?_)
    · replace hf := fx_ie c5 hf
      refine lv_iconst hx hb dX12_power_15 ki_0 ?_
      refine lv_istore_n (lv' := [(2, .int 0), (0, .ref (ad 0)), (1, .int a1)]) hx hb dX12_power_16 rfl hl (by decide) rfl (fun ls hl => ?_)
      refine lv_iconst hx hb dX12_power_17 ki_0 ?_
      refine lv_istore_n (lv' := [(3, .int 0), (2, .int 0), (0, .ref (ad 0)), (1, .int a1)]) hx hb dX12_power_18 rfl hl (by decide) rfl (fun ls hl => ?_)
      obtain ⟨K6, hK6, hf⟩ := fxL_e hf
      have k_K6 : ∀ (x7 : Int32) (H : Heap) (locs : List Loc) (ls : Array Slot), fx_P D cy LM ad σ1 H → va_S A s.heap H locs → lv_has ls 4 [(0, .ref (ad 0)), (1, .int a1), (2, .int x7)] → K6 x7 = some (v, σ') → W p l e (fx_R (4)) s m args below meth c H locs 0 0 (fx_Qi D cy LM ad A below args s v σ') (F0 m 43 ls []) := by
        intro x7 H locs ls hP hS hl hf
        replace hf := fxk1 hK6 hf
        refine lv_iload_n hx hb dX12_power_43 rfl (lv_at hl 2 rfl) ?_
        refine lv_if_ne (tgt := 51) hx hb dX12_power_44 (by decide) (fun c8 => ?_) (fun c8 => ?_)
        · replace hf := fx_ie c8 hf
          refine lv_aload_n hx hb dX12_power_51 rfl (lv_at hl 0 rfl) ?_
          refine lv_iload_n hx hb dX12_power_52 rfl (lv_at hl 1 rfl) ?_
          obtain ⟨r10, hc9, hf⟩ := fxBP_e hf
          refine fx_ci hC hS (fx_runV (i := 0) (As := [.int a1]) (rest := []) hC hP hS (ctX12_pivotsOf l hc9 D cy ad ec _) kM_0 (by decide) rfl kMV_X12_439 kC_X12_pivotsOf hd_X12_pivotsOf rfl ⟨(Nat.le_of_ble_eq_true rfl), (Nat.le_of_ble_eq_true rfl)⟩ ⟨Nat.le_refl 0, Nat.le_refl 0⟩ hl.1 (Nat.le_of_ble_eq_true rfl) rfl dX12_power_53) (fun H locs hP hS => ?_)
          refine lv_i2l (v := (Int32.toInt64 r10)) hx hb dX12_power_56 rfl ?_
          refine lv_ldc2 (own := RX12) (v := 1000000) hx hb hC.2.2.2.1 (hC.2.2.2.2.1 _ kK_X12_442) dX12_power_57 ?_
          refine lv_lmul hx hb dX12_power_60 ?_
          refine lv_iload_n hx hb dX12_power_61 rfl (lv_at hl 2 rfl) ?_
          refine lv_i2l (v := (Int32.toInt64 x7)) hx hb dX12_power_62 rfl ?_
          obtain ⟨h12, hf⟩ := fxG_e hf
          refine lv_ldiv hx hb dX12_power_63 h12 ?_
          refine lv_l2i (v := (Int64.toInt32 (((Int32.toInt64 r10) * 1000000) / (Int32.toInt64 x7)))) hx hb dX12_power_64 rfl ?_
          exact fx_iretf hf hC hr hk hP hS dX12_power_65
        · replace hf := fx_it c8 hf
          refine lv_iconst hx hb dX12_power_47 ki_m1 ?_
          refine lv_goto (tgt := 65) hx hb dX12_power_48 (by decide) ?_
          exact fx_iretf hf hC hr hk hP hS dX12_power_65
      have L23 : ∀ (n16 : Nat) (w13 : Int32) (w14 : Int32) (H : Heap) (locs : List Loc) (ls : Array Slot), fx_P D cy LM ad σ1 H → va_S A s.heap H locs → lv_has ls 4 [(0, .ref (ad 0)), (1, .int a1), (2, .int w13), (3, .int w14)] → fX12_power_19 σ1 K6 n16 w13 w14 = some (v, σ') → W p l e (fx_R (4)) s m args below meth c H locs 0 0 (fx_Qi D cy LM ad A below args s v σ') (F0 m 19 ls []) := by
        intro n16
        induction n16 with
        | zero =>
          intro w13 w14 H locs ls hP hS hl hf
          rw [fX12_power_19] at hf
          cases hf
        | succ n16 ih15 =>
          intro w13 w14 H locs ls hP hS hl hf
          rw [fX12_power_19] at hf
          refine lv_iload_n hx hb dX12_power_19 rfl (lv_at hl 3 rfl) ?_
          refine lv_aload_n hx hb dX12_power_20 rfl (lv_at hl 0 rfl) ?_
          refine gf_X12_13 (v := .ref (ad 2)) hC hP kM_0 rfl dX12_power_21 ?_
          refine lv_iconst hx hb dX12_power_24 ki_1 ?_
          obtain ⟨h17, hf⟩ := fxG_e hf
          refine fx_iald hC hP kM_2 (fx_inp h17) dX12_power_25 ?_
          refine lv_icmp_ge (tgt := 43) hx hb dX12_power_26 (by decide) (fun c18 => ?_) (fun c18 => ?_)
          · replace hf := fx_it c18 hf
            exact k_K6 w13 _ _ _ hP hS (lv_sub hl [0, 1, 2] rfl) hf
          · replace hf := fx_ie c18 hf
            refine lv_iload_n hx hb dX12_power_29 rfl (lv_at hl 2 rfl) ?_
            refine lv_aload_n hx hb dX12_power_30 rfl (lv_at hl 0 rfl) ?_
            refine lv_iload_n hx hb dX12_power_31 rfl (lv_at hl 3 rfl) ?_
            obtain ⟨r20, hc19, hf⟩ := fxBP_e hf
            refine fx_ci hC hS (fx_runV (i := 0) (As := [.int w14]) (rest := [.int w13]) hC hP hS (ctX12_pivotsOf l hc19 D cy ad ec _) kM_0 (by decide) rfl kMV_X12_439 kC_X12_pivotsOf hd_X12_pivotsOf rfl ⟨(Nat.le_of_ble_eq_true rfl), (Nat.le_of_ble_eq_true rfl)⟩ ⟨Nat.le_refl 0, Nat.le_refl 0⟩ hl.1 (Nat.le_of_ble_eq_true rfl) rfl dX12_power_32) (fun H locs hP hS => ?_)
            refine lv_iadd hx hb dX12_power_35 ?_
            obtain ⟨v22, ev22, hf⟩ := fxL_e hf
            refine fx_ti ev22 ?_
            refine lv_istore_n (lv' := [(2, .int v22), (0, .ref (ad 0)), (1, .int a1), (3, .int w14)]) hx hb dX12_power_36 rfl hl (by decide) rfl (fun ls hl => ?_)
            refine lv_iinc (v := (w14 + 1)) (lv' := [(3, .int (w14 + 1)), (2, .int v22), (0, .ref (ad 0)), (1, .int a1)]) hx hb dX12_power_37 hl (k := 3) rfl (congrArg (fun z => w14 + z) ki_1) (by decide) rfl (fun ls hl => ?_)
            refine lv_goto (tgt := 19) hx hb dX12_power_40 (by decide) ?_
            exact ih15 v22 (w14 + 1) _ _ _ hP hS (lv_sub hl [2, 3, 1, 0] rfl) hf
      exact L23 FU 0 0 _ _ _ hP hS (lv_sub hl [2, 3, 1, 0] rfl) hf
    · replace hf := fx_it c5 hf
      refine lv_iconst hx hb dX12_power_13 ki_m1 ?_
      exact fx_iretf hf hC hr hk hP hS dX12_power_14
  exact main _ _ _ hP hS hl

set_option maxHeartbeats 4000000 in
set_option maxRecDepth 100000 in
theorem ctX12_core (l : Launch) {σ σ' : FH} {v : Int32} (hf : fX12_core σ = some (v, σ')) : fx_Mi l yX12_core cX12_core 4 (some .int) (3) LM (fun ad ec => [.ref (ad 0)]) σ v σ' := by
  unfold fX12_core at hf
  refine fx_mi' (own := RX12) rfl (by decide +kernel) ?_
  intro p e s m args below meth c D cy ad ec A hC hr hk hP hS
  have hx := hC.1
  have hb := hC.2.1
  have hl := lv_entry ([.ref (ad 0)]) (n := 4) (Nat.le_of_ble_eq_true rfl)
  show W _ _ _ _ _ _ _ _ _ _ _ _ _ _ _ (entryFrame m ([.ref (ad 0)] : List Value).toArray 4)
  rw [lg_entry_eq]
  generalize (lg_sl ([.ref (ad 0)]) ++ List.replicate (4 - (lg_sl ([.ref (ad 0)])).length) Slot.unset).toArray = ls at hl ⊢
  have hl : lv_has ls 4 [(0, .ref (ad 0))] := hl
  have main : ∀ (H : Heap) (locs : List Loc) (ls : Array Slot), fx_P D cy LM ad σ H → va_S A s.heap H locs → lv_has ls 4 [(0, .ref (ad 0))] → W p l e (fx_R (3)) s m args below meth c H locs 0 0 (fx_Qi D cy LM ad A below args s v σ') (F0 m 0 ls []) := by
    intro H locs ls hP hS hl
    refine lv_aload_n hx hb dX12_core_0 rfl (lv_at hl 0 rfl) ?_
    refine lv_iconst hx hb dX12_core_1 ki_0 ?_
    obtain ⟨σ1, eσ1, hf⟩ := fxL_e hf
    refine pf_X12_133 hC hP hS kM_0 dX12_core_2 (fun H locs hP hS => ?_)
    replace hP := fx_Pe eσ1 hP
    refine lv_iconst hx hb dX12_core_5 ki_1 ?_
    refine lv_aload_n hx hb dX12_core_6 rfl (lv_at hl 0 rfl) ?_
    refine gf_X12_13 (v := .ref (ad 2)) hC hP kM_0 rfl dX12_core_7 ?_
    refine lv_iconst hx hb dX12_core_10 ki_1 ?_
    obtain ⟨h2, hf⟩ := fxG_e hf
    refine fx_iald hC hP kM_2 (fx_inp h2) dX12_core_11 ?_
    refine lv_ishl hx hb dX12_core_12 ?_
    refine lv_iconst hx hb dX12_core_13 ki_1 ?_
    refine lv_isub hx hb dX12_core_14 ?_
    obtain ⟨v3, ev3, hf⟩ := fxL_e hf
    refine fx_ti ev3 ?_
    refine lv_istore_n (lv' := [(1, .int v3), (0, .ref (ad 0))]) hx hb dX12_core_15 rfl hl (by decide) rfl (fun ls hl => ?_)
    refine lv_iconst hx hb dX12_core_16 ki_0 ?_
    refine lv_istore_n (lv' := [(2, .int 0), (1, .int v3), (0, .ref (ad 0))]) hx hb dX12_core_17 rfl hl (by decide) rfl (fun ls hl => ?_)
    refine lv_iconst hx hb dX12_core_18 ki_0 ?_
    refine lv_istore_n (lv' := [(3, .int 0), (2, .int 0), (1, .int v3), (0, .ref (ad 0))]) hx hb dX12_core_19 rfl hl (by decide) rfl (fun ls hl => ?_)
    obtain ⟨K4, hK4, hf⟩ := fxL_e hf
    have k_K4 : ∀ (x5 : Int32) (x6 : Int32) (H : Heap) (locs : List Loc) (ls : Array Slot), fx_P D cy LM ad σ1 H → va_S A s.heap H locs → lv_has ls 4 [(1, .int x5), (2, .int x6)] → K4 x5 x6 = some (v, σ') → W p l e (fx_R (3)) s m args below meth c H locs 0 0 (fx_Qi D cy LM ad A below args s v σ') (F0 m 55 ls []) := by
      intro x5 x6 H locs ls hP hS hl hf
      replace hf := fxk2 hK4 hf
      refine lv_iload_n hx hb dX12_core_55 rfl (lv_at hl 1 rfl) ?_
      obtain ⟨v7, ev7, hf⟩ := fxL_e hf
      have j_v7 : ∀ (z8 : Int32), z8 = ((if x6 = 0 then 0 else x5) : Int32) → ∀ (ls : Array Slot), lv_has ls 4 [] → W p l e (fx_R (3)) s m args below meth c H locs 0 0 (fx_Qi D cy LM ad A below args s v σ') (F0 m 64 ls [.int z8]) := by
        intro z8 hz8 ls hl
        obtain rfl : v7 = z8 := ev7.trans hz8.symm
        exact fx_iretf hf hC hr hk hP hS dX12_core_64
      refine lv_if_eq (tgt := 63) hx hb dX12_core_56 (by decide) (fun c9 => ?_) (fun c9 => ?_)
      · refine lv_iconst hx hb dX12_core_63 ki_0 ?_
        exact j_v7 0 (if_pos c9).symm ls (lv_sub hl [] rfl)
      · refine lv_iload_n hx hb dX12_core_59 rfl (lv_at hl 0 rfl) ?_
        refine lv_goto (tgt := 64) hx hb dX12_core_60 (by decide) ?_
        exact j_v7 x5 (if_neg c9).symm ls (lv_sub hl [] rfl)
    have L22 : ∀ (n14 : Nat) (w10 : Int32) (w11 : Int32) (w12 : Int32) (H : Heap) (locs : List Loc) (ls : Array Slot), fx_P D cy LM ad σ1 H → va_S A s.heap H locs → lv_has ls 4 [(0, .ref (ad 0)), (1, .int w10), (2, .int w11), (3, .int w12)] → fX12_core_20 σ1 K4 n14 w10 w11 w12 = some (v, σ') → W p l e (fx_R (3)) s m args below meth c H locs 0 0 (fx_Qi D cy LM ad A below args s v σ') (F0 m 20 ls []) := by
      intro n14
      induction n14 with
      | zero =>
        intro w10 w11 w12 H locs ls hP hS hl hf
        rw [fX12_core_20] at hf
        cases hf
      | succ n14 ih13 =>
        intro w10 w11 w12 H locs ls hP hS hl hf
        rw [fX12_core_20] at hf
        refine lv_iload_n hx hb dX12_core_20 rfl (lv_at hl 3 rfl) ?_
        refine lv_iconst hx hb dX12_core_21 ki_1 ?_
        refine lv_aload_n hx hb dX12_core_22 rfl (lv_at hl 0 rfl) ?_
        refine gf_X12_13 (v := .ref (ad 2)) hC hP kM_0 rfl dX12_core_23 ?_
        refine lv_iconst hx hb dX12_core_26 ki_1 ?_
        obtain ⟨h15, hf⟩ := fxG_e hf
        refine fx_iald hC hP kM_2 (fx_inp h15) dX12_core_27 ?_
        refine lv_ishl hx hb dX12_core_28 ?_
        refine lv_icmp_ge (tgt := 55) hx hb dX12_core_29 (by decide) (fun c16 => ?_) (fun c16 => ?_)
        · replace hf := fx_it c16 hf
          exact k_K4 w10 w11 _ _ _ hP hS (lv_sub hl [1, 2] rfl) hf
        · replace hf := fx_ie c16 hf
          refine lv_aload_n hx hb dX12_core_32 rfl (lv_at hl 0 rfl) ?_
          refine lv_iload_n hx hb dX12_core_33 rfl (lv_at hl 3 rfl) ?_
          obtain ⟨r18, hc17, hf⟩ := fxBP_e hf
          refine fx_ci hC hS (fx_runV (i := 0) (As := [.int w12]) (rest := []) hC hP hS (ctX12_isMore l hc17 D cy ad ec _) kM_0 (by decide) rfl kMV_X12_436 kC_X12_isMore hd_X12_isMore rfl ⟨(Nat.le_of_ble_eq_true rfl), (Nat.le_of_ble_eq_true rfl)⟩ ⟨Nat.le_refl 0, Nat.le_refl 0⟩ hl.1 (Nat.le_of_ble_eq_true rfl) rfl dX12_core_34) (fun H locs hP hS => ?_)
          refine lv_if_ne (tgt := 43) hx hb dX12_core_37 (by decide) (fun c20 => ?_) (fun c20 => ?_)
          · replace hf := fx_ie c20 hf
            refine lv_iconst hx hb dX12_core_43 ki_1 ?_
            refine lv_istore_n (lv' := [(2, .int 1), (0, .ref (ad 0)), (1, .int w10), (3, .int w12)]) hx hb dX12_core_44 rfl hl (by decide) rfl (fun ls hl => ?_)
            refine lv_iload_n hx hb dX12_core_45 rfl (lv_at hl 2 rfl) ?_
            refine lv_iload_n hx hb dX12_core_46 rfl (lv_at hl 3 rfl) ?_
            refine lv_iand hx hb dX12_core_47 ?_
            obtain ⟨v21, ev21, hf⟩ := fxL_e hf
            refine fx_ti ev21 ?_
            refine lv_istore_n (lv' := [(1, .int v21), (2, .int 1), (0, .ref (ad 0)), (3, .int w12)]) hx hb dX12_core_48 rfl hl (by decide) rfl (fun ls hl => ?_)
            refine lv_iinc (v := (w12 + 1)) (lv' := [(3, .int (w12 + 1)), (1, .int v21), (2, .int 1), (0, .ref (ad 0))]) hx hb dX12_core_49 hl (k := 3) rfl (congrArg (fun z => w12 + z) ki_1) (by decide) rfl (fun ls hl => ?_)
            refine lv_goto (tgt := 20) hx hb dX12_core_52 (by decide) ?_
            exact ih13 v21 1 (w12 + 1) _ _ _ hP hS (lv_sub hl [3, 1, 2, 0] rfl) hf
          · replace hf := fx_it c20 hf
            refine lv_goto (tgt := 49) hx hb dX12_core_40 (by decide) ?_
            refine lv_iinc (v := (w12 + 1)) (lv' := [(3, .int (w12 + 1)), (0, .ref (ad 0)), (1, .int w10), (2, .int w11)]) hx hb dX12_core_49 hl (k := 3) rfl (congrArg (fun z => w12 + z) ki_1) (by decide) rfl (fun ls hl => ?_)
            refine lv_goto (tgt := 20) hx hb dX12_core_52 (by decide) ?_
            exact ih13 w10 w11 (w12 + 1) _ _ _ hP hS (lv_sub hl [1, 2, 3, 0] rfl) hf
    exact L22 FU v3 0 0 _ _ _ hP hS (lv_sub hl [3, 2, 1, 0] rfl) hf
  exact main _ _ _ hP hS hl

set_option maxHeartbeats 4000000 in
set_option maxRecDepth 100000 in
theorem ctX12_lean (l : Launch) {σ σ' : FH} {v : Int32} (hf : fX12_lean σ = some (v, σ')) : fx_Mi l yX12_lean cX12_lean 3 (some .int) (3) LM (fun ad ec => [.ref (ad 0)]) σ v σ' := by
  unfold fX12_lean at hf
  refine fx_mi' (own := RX12) rfl (by decide +kernel) ?_
  intro p e s m args below meth c D cy ad ec A hC hr hk hP hS
  have hx := hC.1
  have hb := hC.2.1
  have hl := lv_entry ([.ref (ad 0)]) (n := 3) (Nat.le_of_ble_eq_true rfl)
  show W _ _ _ _ _ _ _ _ _ _ _ _ _ _ _ (entryFrame m ([.ref (ad 0)] : List Value).toArray 3)
  rw [lg_entry_eq]
  generalize (lg_sl ([.ref (ad 0)]) ++ List.replicate (3 - (lg_sl ([.ref (ad 0)])).length) Slot.unset).toArray = ls at hl ⊢
  have hl : lv_has ls 3 [(0, .ref (ad 0))] := hl
  have main : ∀ (H : Heap) (locs : List Loc) (ls : Array Slot), fx_P D cy LM ad σ H → va_S A s.heap H locs → lv_has ls 3 [(0, .ref (ad 0))] → W p l e (fx_R (3)) s m args below meth c H locs 0 0 (fx_Qi D cy LM ad A below args s v σ') (F0 m 0 ls []) := by
    intro H locs ls hP hS hl
    refine lv_aload_n hx hb dX12_lean_0 rfl (lv_at hl 0 rfl) ?_
    refine lv_iconst hx hb dX12_lean_1 ki_0 ?_
    obtain ⟨σ1, eσ1, hf⟩ := fxL_e hf
    refine pf_X12_133 hC hP hS kM_0 dX12_lean_2 (fun H locs hP hS => ?_)
    replace hP := fx_Pe eσ1 hP
    refine lv_iconst hx hb dX12_lean_5 ki_m1 ?_
    refine lv_istore_n (lv' := [(1, .int (-1)), (0, .ref (ad 0))]) hx hb dX12_lean_6 rfl hl (by decide) rfl (fun ls hl => ?_)
    refine lv_iconst hx hb dX12_lean_7 ki_0 ?_
    refine lv_istore_n (lv' := [(2, .int 0), (1, .int (-1)), (0, .ref (ad 0))]) hx hb dX12_lean_8 rfl hl (by decide) rfl (fun ls hl => ?_)
    obtain ⟨K2, hK2, hf⟩ := fxL_e hf
    have k_K2 : ∀ (x3 : Int32) (H : Heap) (locs : List Loc) (ls : Array Slot), fx_P D cy LM ad σ1 H → va_S A s.heap H locs → lv_has ls 3 [(1, .int x3)] → K2 x3 = some (v, σ') → W p l e (fx_R (3)) s m args below meth c H locs 0 0 (fx_Qi D cy LM ad A below args s v σ') (F0 m 52 ls []) := by
      intro x3 H locs ls hP hS hl hf
      replace hf := fxk1 hK2 hf
      refine lv_iload_n hx hb dX12_lean_52 rfl (lv_at hl 0 rfl) ?_
      exact fx_iretf hf hC hr hk hP hS dX12_lean_53
    have L22 : ∀ (n7 : Nat) (w4 : Int32) (w5 : Int32) (H : Heap) (locs : List Loc) (ls : Array Slot), fx_P D cy LM ad σ1 H → va_S A s.heap H locs → lv_has ls 3 [(0, .ref (ad 0)), (1, .int w4), (2, .int w5)] → fX12_lean_9 σ1 K2 n7 w4 w5 = some (v, σ') → W p l e (fx_R (3)) s m args below meth c H locs 0 0 (fx_Qi D cy LM ad A below args s v σ') (F0 m 9 ls []) := by
      intro n7
      induction n7 with
      | zero =>
        intro w4 w5 H locs ls hP hS hl hf
        rw [fX12_lean_9] at hf
        cases hf
      | succ n7 ih6 =>
        intro w4 w5 H locs ls hP hS hl hf
        rw [fX12_lean_9] at hf
        refine lv_iload_n hx hb dX12_lean_9 rfl (lv_at hl 2 rfl) ?_
        refine lv_iconst hx hb dX12_lean_10 ki_1 ?_
        refine lv_aload_n hx hb dX12_lean_11 rfl (lv_at hl 0 rfl) ?_
        refine gf_X12_13 (v := .ref (ad 2)) hC hP kM_0 rfl dX12_lean_12 ?_
        refine lv_iconst hx hb dX12_lean_15 ki_1 ?_
        obtain ⟨h8, hf⟩ := fxG_e hf
        refine fx_iald hC hP kM_2 (fx_inp h8) dX12_lean_16 ?_
        refine lv_ishl hx hb dX12_lean_17 ?_
        refine lv_icmp_ge (tgt := 52) hx hb dX12_lean_18 (by decide) (fun c9 => ?_) (fun c9 => ?_)
        · replace hf := fx_it c9 hf
          exact k_K2 w4 _ _ _ hP hS (lv_sub hl [1] rfl) hf
        · replace hf := fx_ie c9 hf
          refine lv_aload_n hx hb dX12_lean_21 rfl (lv_at hl 0 rfl) ?_
          refine lv_iload_n hx hb dX12_lean_22 rfl (lv_at hl 2 rfl) ?_
          obtain ⟨r11, hc10, hf⟩ := fxBP_e hf
          refine fx_ci hC hS (fx_runV (i := 0) (As := [.int w5]) (rest := []) hC hP hS (ctX12_isMore l hc10 D cy ad ec _) kM_0 (by decide) rfl kMV_X12_436 kC_X12_isMore hd_X12_isMore rfl ⟨(Nat.le_of_ble_eq_true rfl), (Nat.le_of_ble_eq_true rfl)⟩ ⟨Nat.le_refl 0, Nat.le_refl 0⟩ hl.1 (Nat.le_of_ble_eq_true rfl) rfl dX12_lean_23) (fun H locs hP hS => ?_)
          refine lv_if_eq (tgt := 46) hx hb dX12_lean_26 (by decide) (fun c13 => ?_) (fun c13 => ?_)
          · replace hf := fx_it c13 hf
            refine lv_iinc (v := (w5 + 1)) (lv' := [(2, .int (w5 + 1)), (0, .ref (ad 0)), (1, .int w4)]) hx hb dX12_lean_46 hl (k := 2) rfl (congrArg (fun z => w5 + z) ki_1) (by decide) rfl (fun ls hl => ?_)
            refine lv_goto (tgt := 9) hx hb dX12_lean_49 (by decide) ?_
            exact ih6 w4 (w5 + 1) _ _ _ hP hS (lv_sub hl [1, 2, 0] rfl) hf
          · replace hf := fx_ie c13 hf
            refine lv_iload_n hx hb dX12_lean_29 rfl (lv_at hl 1 rfl) ?_
            refine lv_if_lt (tgt := 44) hx hb dX12_lean_30 (by decide) (fun c14 => ?_) (fun c14 => ?_)
            · replace hf := fx_it c14 hf
              refine lv_iload_n hx hb dX12_lean_44 rfl (lv_at hl 2 rfl) ?_
              refine lv_istore_n (lv' := [(1, .int w5), (0, .ref (ad 0)), (2, .int w5)]) hx hb dX12_lean_45 rfl hl (by decide) rfl (fun ls hl => ?_)
              refine lv_iinc (v := (w5 + 1)) (lv' := [(2, .int (w5 + 1)), (1, .int w5), (0, .ref (ad 0))]) hx hb dX12_lean_46 hl (k := 2) rfl (congrArg (fun z => w5 + z) ki_1) (by decide) rfl (fun ls hl => ?_)
              refine lv_goto (tgt := 9) hx hb dX12_lean_49 (by decide) ?_
              exact ih6 w5 (w5 + 1) _ _ _ hP hS (lv_sub hl [2, 1, 0] rfl) hf
            · replace hf := fx_ie c14 hf
              refine lv_iload_n hx hb dX12_lean_33 rfl (lv_at hl 2 rfl) ?_
              obtain ⟨r16, hc15, hf⟩ := fxBP_e hf
              refine fx_ci hC hS (fx_runS (As := [.int w5]) (rest := []) hC hP hS (ctX12_bits l hc15 D cy ad ec _) kMS_X12_433 kC_X12_bits hd_X12_bits.2 rfl ⟨(Nat.le_of_ble_eq_true rfl), (Nat.le_of_ble_eq_true rfl)⟩ ⟨Nat.le_refl 0, Nat.le_refl 0⟩ hl.1 (Nat.le_of_ble_eq_true rfl) rfl dX12_lean_34) (fun H locs hP hS => ?_)
              refine lv_iload_n hx hb dX12_lean_37 rfl (lv_at hl 1 rfl) ?_
              obtain ⟨r19, hc18, hf⟩ := fxBP_e hf
              refine fx_ci hC hS (fx_runS (As := [.int w4]) (rest := [.int r16]) hC hP hS (ctX12_bits l hc18 D cy ad ec _) kMS_X12_433 kC_X12_bits hd_X12_bits.2 rfl ⟨(Nat.le_of_ble_eq_true rfl), (Nat.le_of_ble_eq_true rfl)⟩ ⟨Nat.le_refl 0, Nat.le_refl 0⟩ hl.1 (Nat.le_of_ble_eq_true rfl) rfl dX12_lean_38) (fun H locs hP hS => ?_)
              refine lv_icmp_ge (tgt := 46) hx hb dX12_lean_41 (by decide) (fun c21 => ?_) (fun c21 => ?_)
              · replace hf := fx_it c21 hf
                refine lv_iinc (v := (w5 + 1)) (lv' := [(2, .int (w5 + 1)), (0, .ref (ad 0)), (1, .int w4)]) hx hb dX12_lean_46 hl (k := 2) rfl (congrArg (fun z => w5 + z) ki_1) (by decide) rfl (fun ls hl => ?_)
                refine lv_goto (tgt := 9) hx hb dX12_lean_49 (by decide) ?_
                exact ih6 w4 (w5 + 1) _ _ _ hP hS (lv_sub hl [1, 2, 0] rfl) hf
              · replace hf := fx_ie c21 hf
                refine lv_iload_n hx hb dX12_lean_44 rfl (lv_at hl 2 rfl) ?_
                refine lv_istore_n (lv' := [(1, .int w5), (0, .ref (ad 0)), (2, .int w5)]) hx hb dX12_lean_45 rfl hl (by decide) rfl (fun ls hl => ?_)
                refine lv_iinc (v := (w5 + 1)) (lv' := [(2, .int (w5 + 1)), (1, .int w5), (0, .ref (ad 0))]) hx hb dX12_lean_46 hl (k := 2) rfl (congrArg (fun z => w5 + z) ki_1) (by decide) rfl (fun ls hl => ?_)
                refine lv_goto (tgt := 9) hx hb dX12_lean_49 (by decide) ?_
                exact ih6 w5 (w5 + 1) _ _ _ hP hS (lv_sub hl [2, 1, 0] rfl) hf
    exact L22 FU (-1) 0 _ _ _ hP hS (lv_sub hl [2, 1, 0] rfl) hf
  exact main _ _ _ hP hS hl

set_option maxHeartbeats 4000000 in
set_option maxRecDepth 100000 in
theorem ctX12_isHalvedBy (l : Launch) {a1 : Int32} {a2 : Int32} {a3 : Int32} {a4 : Int32} {σ σ' : FH} {v : Int32} (hf : fX12_isHalvedBy a1 a2 a3 a4 σ = some (v, σ')) : fx_Mi l yX12_isHalvedBy cX12_isHalvedBy 6 (some .boolean) (3) LM (fun ad ec => [.ref (ad 0), .int a1, .int a2, .int a3, .int a4]) σ v σ' := by
  unfold fX12_isHalvedBy at hf
  refine fx_mi' (own := RX12) rfl (by decide +kernel) ?_
  intro p e s m args below meth c D cy ad ec A hC hr hk hP hS
  have hx := hC.1
  have hb := hC.2.1
  have hl := lv_entry ([.ref (ad 0), .int a1, .int a2, .int a3, .int a4]) (n := 6) (Nat.le_of_ble_eq_true rfl)
  show W _ _ _ _ _ _ _ _ _ _ _ _ _ _ _ (entryFrame m ([.ref (ad 0), .int a1, .int a2, .int a3, .int a4] : List Value).toArray 6)
  rw [lg_entry_eq]
  generalize (lg_sl ([.ref (ad 0), .int a1, .int a2, .int a3, .int a4]) ++ List.replicate (6 - (lg_sl ([.ref (ad 0), .int a1, .int a2, .int a3, .int a4])).length) Slot.unset).toArray = ls at hl ⊢
  have hl : lv_has ls 6 [(0, .ref (ad 0)), (1, .int a1), (2, .int a2), (3, .int a3), (4, .int a4)] := hl
  have main : ∀ (H : Heap) (locs : List Loc) (ls : Array Slot), fx_P D cy LM ad σ H → va_S A s.heap H locs → lv_has ls 6 [(0, .ref (ad 0)), (1, .int a1), (2, .int a2), (3, .int a3), (4, .int a4)] → W p l e (fx_R (3)) s m args below meth c H locs 0 0 (fx_Qi D cy LM ad A below args s v σ') (F0 m 0 ls []) := by
    intro H locs ls hP hS hl
    refine lv_aload_n hx hb dX12_isHalvedBy_0 rfl (lv_at hl 0 rfl) ?_
    refine lv_iload_n hx hb dX12_isHalvedBy_1 rfl (lv_at hl 2 rfl) ?_
    obtain ⟨r2, hc1, hf⟩ := fxBP_e hf
    refine fx_ci hC hS (fx_runV (i := 0) (As := [.int a2]) (rest := []) hC hP hS (ctX12_isParty l hc1 D cy ad ec _) kM_0 (by decide) rfl kMV_X12_398 kC_X12_isParty hd_X12_isParty rfl ⟨(Nat.le_of_ble_eq_true rfl), (Nat.le_of_ble_eq_true rfl)⟩ ⟨Nat.le_refl 0, Nat.le_refl 0⟩ hl.1 (Nat.le_of_ble_eq_true rfl) rfl dX12_isHalvedBy_2) (fun H locs hP hS => ?_)
    refine lv_if_eq (tgt := 27) hx hb dX12_isHalvedBy_5 (by decide) (fun c4 => ?_) (fun c4 => ?_)
    · replace hf := fx_it c4 hf
      refine lv_iconst hx hb dX12_isHalvedBy_27 ki_0 ?_
      exact fx_zretf rfl hf hC hr hk hP hS dX12_isHalvedBy_28
    · replace hf := fx_ie c4 hf
      refine lv_aload_n hx hb dX12_isHalvedBy_8 rfl (lv_at hl 0 rfl) ?_
      refine lv_iload_n hx hb dX12_isHalvedBy_9 rfl (lv_at hl 3 rfl) ?_
      obtain ⟨r6, hc5, hf⟩ := fxBP_e hf
      refine fx_ci hC hS (fx_runV (i := 0) (As := [.int a3]) (rest := []) hC hP hS (ctX12_isParty l hc5 D cy ad ec _) kM_0 (by decide) rfl kMV_X12_398 kC_X12_isParty hd_X12_isParty rfl ⟨(Nat.le_of_ble_eq_true rfl), (Nat.le_of_ble_eq_true rfl)⟩ ⟨Nat.le_refl 0, Nat.le_refl 0⟩ hl.1 (Nat.le_of_ble_eq_true rfl) rfl dX12_isHalvedBy_10) (fun H locs hP hS => ?_)
      refine lv_if_eq (tgt := 27) hx hb dX12_isHalvedBy_13 (by decide) (fun c8 => ?_) (fun c8 => ?_)
      · replace hf := fx_it c8 hf
        refine lv_iconst hx hb dX12_isHalvedBy_27 ki_0 ?_
        exact fx_zretf rfl hf hC hr hk hP hS dX12_isHalvedBy_28
      · replace hf := fx_ie c8 hf
        refine lv_aload_n hx hb dX12_isHalvedBy_16 rfl (lv_at hl 0 rfl) ?_
        refine lv_iload_n hx hb dX12_isHalvedBy_17 rfl (lv_at hl 2 rfl) ?_
        refine lv_iload_n hx hb dX12_isHalvedBy_18 rfl (lv_at hl 3 rfl) ?_
        refine lv_iload hx hb dX12_isHalvedBy_19 (lv_at hl 4 rfl) ?_
        obtain ⟨r10, hc9, hf⟩ := fxBP_e hf
        refine fx_ci hC hS (fx_runV (i := 0) (As := [.int a2, .int a3, .int a4]) (rest := []) hC hP hS (ctX12_canLend l hc9 D cy ad ec _) kM_0 (by decide) rfl kMV_X12_414 kC_X12_canLend hd_X12_canLend rfl ⟨(Nat.le_of_ble_eq_true rfl), (Nat.le_of_ble_eq_true rfl)⟩ ⟨Nat.le_refl 0, Nat.le_refl 0⟩ hl.1 (Nat.le_of_ble_eq_true rfl) rfl dX12_isHalvedBy_21) (fun H locs hP hS => ?_)
        refine lv_if_ne (tgt := 29) hx hb dX12_isHalvedBy_24 (by decide) (fun c12 => ?_) (fun c12 => ?_)
        · replace hf := fx_ie c12 hf
          refine lv_aload_n hx hb dX12_isHalvedBy_29 rfl (lv_at hl 0 rfl) ?_
          refine lv_iload_n hx hb dX12_isHalvedBy_30 rfl (lv_at hl 2 rfl) ?_
          refine lv_iload_n hx hb dX12_isHalvedBy_31 rfl (lv_at hl 3 rfl) ?_
          refine lv_iload hx hb dX12_isHalvedBy_32 (lv_at hl 4 rfl) ?_
          obtain ⟨σ15, hc13, hf⟩ := fxBV_e hf
          refine fx_cv hC hS (fx_runV (i := 0) (As := [.int a2, .int a3, .int a4]) (rest := []) hC hP hS (ctX12_lends l hc13 D cy ad ec _) kM_0 (by decide) rfl kMV_X12_417 kC_X12_lends hd_X12_lends rfl ⟨(Nat.le_of_ble_eq_true rfl), (Nat.le_of_ble_eq_true rfl)⟩ ⟨Nat.le_refl 0, Nat.le_refl 0⟩ hl.1 (Nat.le_of_ble_eq_true rfl) rfl dX12_isHalvedBy_34) (fun H locs hP hS => ?_)
          refine lv_aload_n hx hb dX12_isHalvedBy_37 rfl (lv_at hl 0 rfl) ?_
          refine lv_iload_n hx hb dX12_isHalvedBy_38 rfl (lv_at hl 1 rfl) ?_
          obtain ⟨r17, hc16, hf⟩ := fxBP_e hf
          refine fx_ci hC hS (fx_runV (i := 0) (As := [.int a1]) (rest := []) hC hP hS (ctX12_carriedOf l hc16 D cy ad ec _) kM_0 (by decide) rfl kMV_X12_395 kC_X12_carriedOf hd_X12_carriedOf rfl ⟨(Nat.le_of_ble_eq_true rfl), (Nat.le_of_ble_eq_true rfl)⟩ ⟨Nat.le_refl 0, Nat.le_refl 0⟩ hl.1 (Nat.le_of_ble_eq_true rfl) rfl dX12_isHalvedBy_39) (fun H locs hP hS => ?_)
          refine lv_iconst hx hb dX12_isHalvedBy_42 ki_1 ?_
          obtain ⟨v19, ev19, hf⟩ := fxL_e hf
          have j_v19 : ∀ (z20 : Int32), z20 = ((if r17 = 1 then 1 else 0) : Int32) → ∀ (ls : Array Slot), lv_has ls 6 [(0, .ref (ad 0)), (2, .int a2), (3, .int a3), (4, .int a4)] → W p l e (fx_R (3)) s m args below meth c H locs 0 0 (fx_Qi D cy LM ad A below args s v σ') (F0 m 51 ls [.int z20]) := by
            intro z20 hz20 ls hl
            obtain rfl : v19 = z20 := ev19.trans hz20.symm
            refine lv_istore (lv' := [(5, .int v19), (0, .ref (ad 0)), (2, .int a2), (3, .int a3), (4, .int a4)]) hx hb dX12_isHalvedBy_51 hl (by decide) rfl (fun ls hl => ?_)
            refine lv_aload_n hx hb dX12_isHalvedBy_53 rfl (lv_at hl 1 rfl) ?_
            refine lv_iload_n hx hb dX12_isHalvedBy_54 rfl (lv_at hl 3 rfl) ?_
            refine lv_iload_n hx hb dX12_isHalvedBy_55 rfl (lv_at hl 2 rfl) ?_
            refine lv_iload hx hb dX12_isHalvedBy_56 (lv_at hl 4 rfl) ?_
            obtain ⟨σ24, hc22, hf⟩ := fxBV_e hf
            refine fx_cv hC hS (fx_runV (i := 0) (As := [.int a3, .int a2, .int a4]) (rest := []) hC hP hS (ctX12_lends l hc22 D cy ad ec _) kM_0 (by decide) rfl kMV_X12_417 kC_X12_lends hd_X12_lends rfl ⟨(Nat.le_of_ble_eq_true rfl), (Nat.le_of_ble_eq_true rfl)⟩ ⟨Nat.le_refl 0, Nat.le_refl 0⟩ hl.1 (Nat.le_of_ble_eq_true rfl) rfl dX12_isHalvedBy_58) (fun H locs hP hS => ?_)
            refine lv_iload hx hb dX12_isHalvedBy_61 (lv_at hl 0 rfl) ?_
            obtain ⟨h25, hf⟩ := fxG_e hf
            exact fx_zretf (fx_bon h25) hf hC hr hk hP hS dX12_isHalvedBy_63
          refine lv_icmp_ne (tgt := 50) hx hb dX12_isHalvedBy_43 (by decide) (fun c21 => ?_) (fun c21 => ?_)
          · refine lv_iconst hx hb dX12_isHalvedBy_50 ki_0 ?_
            exact j_v19 0 (if_neg c21).symm ls (lv_sub hl [0, 2, 3, 4] rfl)
          · refine lv_iconst hx hb dX12_isHalvedBy_46 ki_1 ?_
            refine lv_goto (tgt := 51) hx hb dX12_isHalvedBy_47 (by decide) ?_
            exact j_v19 1 (if_pos c21).symm ls (lv_sub hl [0, 2, 3, 4] rfl)
        · replace hf := fx_it c12 hf
          refine lv_iconst hx hb dX12_isHalvedBy_27 ki_0 ?_
          exact fx_zretf rfl hf hC hr hk hP hS dX12_isHalvedBy_28
  exact main _ _ _ hP hS hl

set_option maxHeartbeats 4000000 in
set_option maxRecDepth 100000 in
theorem ctX12_shift (l : Launch) {a1 : Int32} {a2 : Int32} {σ σ' : FH} {v : Int32} (hf : fX12_shift a1 a2 σ = some (v, σ')) : fx_Mi l yX12_shift cX12_shift 7 (some .int) (4) LM (fun ad ec => [.ref (ad 0), .int a1, .int a2]) σ v σ' := by
  unfold fX12_shift at hf
  refine fx_mi' (own := RX12) rfl (by decide +kernel) ?_
  intro p e s m args below meth c D cy ad ec A hC hr hk hP hS
  have hx := hC.1
  have hb := hC.2.1
  have hl := lv_entry ([.ref (ad 0), .int a1, .int a2]) (n := 7) (Nat.le_of_ble_eq_true rfl)
  show W _ _ _ _ _ _ _ _ _ _ _ _ _ _ _ (entryFrame m ([.ref (ad 0), .int a1, .int a2] : List Value).toArray 7)
  rw [lg_entry_eq]
  generalize (lg_sl ([.ref (ad 0), .int a1, .int a2]) ++ List.replicate (7 - (lg_sl ([.ref (ad 0), .int a1, .int a2])).length) Slot.unset).toArray = ls at hl ⊢
  have hl : lv_has ls 7 [(0, .ref (ad 0)), (1, .int a1), (2, .int a2)] := hl
  have main : ∀ (H : Heap) (locs : List Loc) (ls : Array Slot), fx_P D cy LM ad σ H → va_S A s.heap H locs → lv_has ls 7 [(0, .ref (ad 0)), (1, .int a1), (2, .int a2)] → W p l e (fx_R (4)) s m args below meth c H locs 0 0 (fx_Qi D cy LM ad A below args s v σ') (F0 m 0 ls []) := by
    intro H locs ls hP hS hl
    refine lv_aload_n hx hb dX12_shift_0 rfl (lv_at hl 0 rfl) ?_
    refine lv_iconst hx hb dX12_shift_1 ki_0 ?_
    obtain ⟨σ1, eσ1, hf⟩ := fxL_e hf
    refine pf_X12_133 hC hP hS kM_0 dX12_shift_2 (fun H locs hP hS => ?_)
    replace hP := fx_Pe eσ1 hP
    refine lv_aload_n hx hb dX12_shift_5 rfl (lv_at hl 0 rfl) ?_
    refine lv_iload_n hx hb dX12_shift_6 rfl (lv_at hl 1 rfl) ?_
    obtain ⟨r3, hc2, hf⟩ := fxBP_e hf
    refine fx_ci hC hS (fx_runV (i := 0) (As := [.int a1]) (rest := []) hC hP hS (ctX12_isWare l hc2 D cy ad ec _) kM_0 (by decide) rfl kMV_X12_392 kC_X12_isWare hd_X12_isWare rfl ⟨(Nat.le_of_ble_eq_true rfl), (Nat.le_of_ble_eq_true rfl)⟩ ⟨Nat.le_refl 0, Nat.le_refl 0⟩ hl.1 (Nat.le_of_ble_eq_true rfl) rfl dX12_shift_7) (fun H locs hP hS => ?_)
    refine lv_if_eq (tgt := 22) hx hb dX12_shift_10 (by decide) (fun c5 => ?_) (fun c5 => ?_)
    · replace hf := fx_it c5 hf
      refine lv_bipush hx hb dX12_shift_22 kb_m2 ?_
      exact fx_iretf hf hC hr hk hP hS dX12_shift_24
    · replace hf := fx_ie c5 hf
      refine lv_iload_n hx hb dX12_shift_13 rfl (lv_at hl 2 rfl) ?_
      refine lv_iconst hx hb dX12_shift_14 ki_0 ?_
      refine lv_iconst hx hb dX12_shift_15 ki_2 ?_
      obtain ⟨r7, hc6, hf⟩ := fxBP_e hf
      refine fx_ci hC hS (fx_runS (As := [.int a2, .int 0, .int 2]) (rest := []) hC hP hS (ctX12_within l hc6 D cy ad ec _) kMS_X12_253 kC_X12_within hd_X12_within.2 rfl ⟨(Nat.le_of_ble_eq_true rfl), (Nat.le_of_ble_eq_true rfl)⟩ ⟨Nat.le_refl 0, Nat.le_refl 0⟩ hl.1 (Nat.le_of_ble_eq_true rfl) rfl dX12_shift_16) (fun H locs hP hS => ?_)
      refine lv_if_ne (tgt := 25) hx hb dX12_shift_19 (by decide) (fun c9 => ?_) (fun c9 => ?_)
      · replace hf := fx_ie c9 hf
        refine lv_aload_n hx hb dX12_shift_25 rfl (lv_at hl 0 rfl) ?_
        refine lv_iload_n hx hb dX12_shift_26 rfl (lv_at hl 1 rfl) ?_
        obtain ⟨r11, hc10, hf⟩ := fxBP_e hf
        refine fx_ci hC hS (fx_runV (i := 0) (As := [.int a1]) (rest := []) hC hP hS (ctX12_carriedOf l hc10 D cy ad ec _) kM_0 (by decide) rfl kMV_X12_395 kC_X12_carriedOf hd_X12_carriedOf rfl ⟨(Nat.le_of_ble_eq_true rfl), (Nat.le_of_ble_eq_true rfl)⟩ ⟨Nat.le_refl 0, Nat.le_refl 0⟩ hl.1 (Nat.le_of_ble_eq_true rfl) rfl dX12_shift_27) (fun H locs hP hS => ?_)
        refine lv_iconst hx hb dX12_shift_30 ki_1 ?_
        refine lv_icmp_ne (tgt := 44) hx hb dX12_shift_31 (by decide) (fun c13 => ?_) (fun c13 => ?_)
        · replace hf := fx_ie c13 hf
          refine lv_iconst hx hb dX12_shift_44 ki_1 ?_
          refine lv_istore_n (lv' := [(3, .int 1), (0, .ref (ad 0)), (1, .int a1), (2, .int a2)]) hx hb dX12_shift_45 rfl hl (by decide) rfl (fun ls hl => ?_)
          obtain ⟨K14, hK14, hf⟩ := fxL_e hf
          have k_K14 : ∀ (σ15 : FH) (H : Heap) (locs : List Loc) (ls : Array Slot), fx_P D cy LM ad σ15 H → va_S A s.heap H locs → lv_has ls 7 [] → K14 σ15 = some (v, σ') → W p l e (fx_R (4)) s m args below meth c H locs 0 0 (fx_Qi D cy LM ad A below args s v σ') (F0 m 120 ls []) := by
            intro σ15 H locs ls hP hS hl hf
            replace hf := fxk1 hK14 hf
            refine lv_bipush hx hb dX12_shift_120 kb_m2 ?_
            exact fx_iretf hf hC hr hk hP hS dX12_shift_122
          have L39 : ∀ (n19 : Nat) (w16 : Int32) (σ17 : FH) (H : Heap) (locs : List Loc) (ls : Array Slot), fx_P D cy LM ad σ17 H → va_S A s.heap H locs → lv_has ls 7 [(0, .ref (ad 0)), (1, .int a1), (2, .int a2), (3, .int w16)] → fX12_shift_46 a1 a2 K14 n19 w16 σ17 = some (v, σ') → W p l e (fx_R (4)) s m args below meth c H locs 0 0 (fx_Qi D cy LM ad A below args s v σ') (F0 m 46 ls []) := by
            intro n19
            induction n19 with
            | zero =>
              intro w16 σ17 H locs ls hP hS hl hf
              rw [fX12_shift_46] at hf
              cases hf
            | succ n19 ih18 =>
              intro w16 σ17 H locs ls hP hS hl hf
              rw [fX12_shift_46] at hf
              refine lv_iload_n hx hb dX12_shift_46 rfl (lv_at hl 3 rfl) ?_
              refine lv_bipush hx hb dX12_shift_47 kb_21 ?_
              refine lv_icmp_ge (tgt := 120) hx hb dX12_shift_49 (by decide) (fun c20 => ?_) (fun c20 => ?_)
              · replace hf := fx_it c20 hf
                exact k_K14 σ17 _ _ _ hP hS (lv_sub hl [] rfl) hf
              · replace hf := fx_ie c20 hf
                refine lv_iconst hx hb dX12_shift_52 ki_0 ?_
                refine lv_istore (lv' := [(4, .int 0), (0, .ref (ad 0)), (1, .int a1), (2, .int a2), (3, .int w16)]) hx hb dX12_shift_53 hl (by decide) rfl (fun ls hl => ?_)
                obtain ⟨K21, hK21, hf⟩ := fxL_e hf
                have k_K21 : ∀ (σ22 : FH) (H : Heap) (locs : List Loc) (ls : Array Slot), fx_P D cy LM ad σ22 H → va_S A s.heap H locs → lv_has ls 7 [(0, .ref (ad 0)), (1, .int a1), (2, .int a2), (3, .int w16)] → K21 σ22 = some (v, σ') → W p l e (fx_R (4)) s m args below meth c H locs 0 0 (fx_Qi D cy LM ad A below args s v σ') (F0 m 114 ls []) := by
                  intro σ22 H locs ls hP hS hl hf
                  replace hf := fxk1 hK21 hf
                  refine lv_iinc (v := (w16 + 1)) (lv' := [(3, .int (w16 + 1)), (0, .ref (ad 0)), (1, .int a1), (2, .int a2)]) hx hb dX12_shift_114 hl (k := 3) rfl (congrArg (fun z => w16 + z) ki_1) (by decide) rfl (fun ls hl => ?_)
                  refine lv_goto (tgt := 46) hx hb dX12_shift_117 (by decide) ?_
                  exact ih18 (w16 + 1) σ22 _ _ _ hP hS (lv_sub hl [1, 2, 3, 0] rfl) hf
                have L38 : ∀ (n26 : Nat) (w23 : Int32) (σ24 : FH) (H : Heap) (locs : List Loc) (ls : Array Slot), fx_P D cy LM ad σ24 H → va_S A s.heap H locs → lv_has ls 7 [(0, .ref (ad 0)), (1, .int a1), (2, .int a2), (3, .int w16), (4, .int w23)] → fX12_shift_55 a1 a2 w16 K21 n26 w23 σ24 = some (v, σ') → W p l e (fx_R (4)) s m args below meth c H locs 0 0 (fx_Qi D cy LM ad A below args s v σ') (F0 m 55 ls []) := by
                  intro n26
                  induction n26 with
                  | zero =>
                    intro w23 σ24 H locs ls hP hS hl hf
                    rw [fX12_shift_55] at hf
                    cases hf
                  | succ n26 ih25 =>
                    intro w23 σ24 H locs ls hP hS hl hf
                    rw [fX12_shift_55] at hf
                    refine lv_iload hx hb dX12_shift_55 (lv_at hl 4 rfl) ?_
                    refine lv_bipush hx hb dX12_shift_57 kb_25 ?_
                    refine lv_icmp_ge (tgt := 114) hx hb dX12_shift_59 (by decide) (fun c27 => ?_) (fun c27 => ?_)
                    · replace hf := fx_it c27 hf
                      exact k_K21 σ24 _ _ _ hP hS (lv_sub hl [0, 1, 2, 3] rfl) hf
                    · replace hf := fx_ie c27 hf
                      refine lv_iload hx hb dX12_shift_62 (lv_at hl 4 rfl) ?_
                      refine lv_iconst hx hb dX12_shift_64 ki_5 ?_
                      refine lv_idiv hx hb dX12_shift_65 (by decide) ?_
                      obtain ⟨v28, ev28, hf⟩ := fxL_e hf
                      refine fx_ti ev28 ?_
                      refine lv_istore (lv' := [(5, .int v28), (0, .ref (ad 0)), (1, .int a1), (2, .int a2), (3, .int w16), (4, .int w23)]) hx hb dX12_shift_66 hl (by decide) rfl (fun ls hl => ?_)
                      refine lv_iload hx hb dX12_shift_68 (lv_at hl 5 rfl) ?_
                      refine lv_iconst hx hb dX12_shift_70 ki_5 ?_
                      refine lv_irem hx hb dX12_shift_71 (by decide) ?_
                      obtain ⟨v29, ev29, hf⟩ := fxL_e hf
                      refine fx_ti ev29 ?_
                      refine lv_istore (lv' := [(6, .int v29), (5, .int v28), (0, .ref (ad 0)), (1, .int a1), (2, .int a2), (3, .int w16), (4, .int w23)]) hx hb dX12_shift_72 hl (by decide) rfl (fun ls hl => ?_)
                      refine lv_aload_n hx hb dX12_shift_74 rfl (lv_at hl 2 rfl) ?_
                      refine lv_iload_n hx hb dX12_shift_75 rfl (lv_at hl 3 rfl) ?_
                      refine lv_iload hx hb dX12_shift_76 (lv_at hl 1 rfl) ?_
                      refine lv_iload hx hb dX12_shift_78 (lv_at hl 0 rfl) ?_
                      refine lv_iload_n hx hb dX12_shift_80 rfl (lv_at hl 5 rfl) ?_
                      obtain ⟨r31, σ32, hc30, hf⟩ := fxBI_e hf
                      refine fx_ci hC hS (fx_runV (i := 0) (As := [.int a1, .int v28, .int v29, .int w16]) (rest := []) hC hP hS (ctX12_isHalvedBy l hc30 D cy ad ec _) kM_0 (by decide) rfl kMV_X12_444 kC_X12_isHalvedBy hd_X12_isHalvedBy rfl ⟨(Nat.le_of_ble_eq_true rfl), (Nat.le_of_ble_eq_true rfl)⟩ ⟨Nat.le_refl 0, Nat.le_refl 0⟩ hl.1 (Nat.le_of_ble_eq_true rfl) rfl dX12_shift_81) (fun H locs hP hS => ?_)
                      refine lv_if_eq (tgt := 108) hx hb dX12_shift_84 (by decide) (fun c33 => ?_) (fun c33 => ?_)
                      · replace hf := fx_it c33 hf
                        refine lv_iinc (v := (w23 + 1)) (lv' := [(4, .int (w23 + 1)), (6, .int v29), (5, .int v28), (0, .ref (ad 0)), (1, .int a1), (2, .int a2), (3, .int w16)]) hx hb dX12_shift_108 hl (k := 6) rfl (congrArg (fun z => w23 + z) ki_1) (by decide) rfl (fun ls hl => ?_)
                        refine lv_goto (tgt := 55) hx hb dX12_shift_111 (by decide) ?_
                        exact ih25 (w23 + 1) σ32 _ _ _ hP hS (lv_sub hl [3, 4, 5, 6, 0] rfl) hf
                      · replace hf := fx_ie c33 hf
                        refine lv_iload_n hx hb dX12_shift_87 rfl (lv_at hl 4 rfl) ?_
                        obtain ⟨v34, ev34, hf⟩ := fxL_e hf
                        have j_v34 : ∀ (z35 : Int32), z35 = ((if a2 = 0 then w16 else (if a2 = 1 then v28 else v29)) : Int32) → ∀ (ls : Array Slot), lv_has ls 7 [] → W p l e (fx_R (4)) s m args below meth c H locs 0 0 (fx_Qi D cy LM ad A below args s v σ') (F0 m 107 ls [.int z35]) := by
                          intro z35 hz35 ls hl
                          obtain rfl : v34 = z35 := ev34.trans hz35.symm
                          exact fx_iretf hf hC hr hk hP hS dX12_shift_107
                        refine lv_if_ne (tgt := 95) hx hb dX12_shift_88 (by decide) (fun c36 => ?_) (fun c36 => ?_)
                        · refine lv_iload_n hx hb dX12_shift_95 rfl (lv_at hl 4 rfl) ?_
                          refine lv_iconst hx hb dX12_shift_96 ki_1 ?_
                          refine lv_icmp_ne (tgt := 105) hx hb dX12_shift_97 (by decide) (fun c37 => ?_) (fun c37 => ?_)
                          · refine lv_iload hx hb dX12_shift_105 (lv_at hl 0 rfl) ?_
                            exact j_v34 v29 ((if_neg c36).trans (if_neg c37)).symm ls (lv_sub hl [] rfl)
                          · refine lv_iload hx hb dX12_shift_100 (lv_at hl 1 rfl) ?_
                            refine lv_goto (tgt := 107) hx hb dX12_shift_102 (by decide) ?_
                            exact j_v34 v28 ((if_neg c36).trans (if_pos c37)).symm ls (lv_sub hl [] rfl)
                        · refine lv_iload_n hx hb dX12_shift_91 rfl (lv_at hl 5 rfl) ?_
                          refine lv_goto (tgt := 107) hx hb dX12_shift_92 (by decide) ?_
                          exact j_v34 w16 (if_pos c36).symm ls (lv_sub hl [] rfl)
                exact L38 FU 0 σ17 _ _ _ hP hS (lv_sub hl [1, 2, 3, 4, 0] rfl) hf
          exact L39 FU 1 σ1 _ _ _ hP hS (lv_sub hl [1, 2, 3, 0] rfl) hf
        · replace hf := fx_it c13 hf
          refine lv_iload_n hx hb dX12_shift_34 rfl (lv_at hl 2 rfl) ?_
          obtain ⟨v40, ev40, hf⟩ := fxL_e hf
          have j_v40 : ∀ (z41 : Int32), z41 = ((if a2 = 0 then 0 else (-1)) : Int32) → ∀ (ls : Array Slot), lv_has ls 7 [] → W p l e (fx_R (4)) s m args below meth c H locs 0 0 (fx_Qi D cy LM ad A below args s v σ') (F0 m 43 ls [.int z41]) := by
            intro z41 hz41 ls hl
            obtain rfl : v40 = z41 := ev40.trans hz41.symm
            exact fx_iretf hf hC hr hk hP hS dX12_shift_43
          refine lv_if_ne (tgt := 42) hx hb dX12_shift_35 (by decide) (fun c42 => ?_) (fun c42 => ?_)
          · refine lv_iconst hx hb dX12_shift_42 ki_m1 ?_
            exact j_v40 (-1) (if_neg c42).symm ls (lv_sub hl [] rfl)
          · refine lv_iconst hx hb dX12_shift_38 ki_0 ?_
            refine lv_goto (tgt := 43) hx hb dX12_shift_39 (by decide) ?_
            exact j_v40 0 (if_pos c42).symm ls (lv_sub hl [] rfl)
      · replace hf := fx_it c9 hf
        refine lv_bipush hx hb dX12_shift_22 kb_m2 ?_
        exact fx_iretf hf hC hr hk hP hS dX12_shift_24
  exact main _ _ _ hP hS hl

set_option maxHeartbeats 4000000 in
set_option maxRecDepth 100000 in
theorem ctX12_agreeOf (l : Launch) {a1 : Int32} {a2 : Int32} {σ : FH} {v : Int32} (hf : fX12_agreeOf a1 a2 σ = some v) : fx_Mi l yX12_agreeOf cX12_agreeOf 3 (some .int) (1) LM (fun ad ec => [.ref (ad 0), .int a1, .int a2]) σ v σ := by
  unfold fX12_agreeOf at hf
  refine fx_mi' (own := RX12) rfl (by decide +kernel) ?_
  intro p e s m args below meth c D cy ad ec A hC hr hk hP hS
  have hx := hC.1
  have hb := hC.2.1
  have hl := lv_entry ([.ref (ad 0), .int a1, .int a2]) (n := 3) (Nat.le_of_ble_eq_true rfl)
  show W _ _ _ _ _ _ _ _ _ _ _ _ _ _ _ (entryFrame m ([.ref (ad 0), .int a1, .int a2] : List Value).toArray 3)
  rw [lg_entry_eq]
  generalize (lg_sl ([.ref (ad 0), .int a1, .int a2]) ++ List.replicate (3 - (lg_sl ([.ref (ad 0), .int a1, .int a2])).length) Slot.unset).toArray = ls at hl ⊢
  have hl : lv_has ls 3 [(0, .ref (ad 0)), (1, .int a1), (2, .int a2)] := hl
  have main : ∀ (H : Heap) (locs : List Loc) (ls : Array Slot), fx_P D cy LM ad σ H → va_S A s.heap H locs → lv_has ls 3 [(0, .ref (ad 0)), (1, .int a1), (2, .int a2)] → W p l e (fx_R (1)) s m args below meth c H locs 0 0 (fx_Qi D cy LM ad A below args s v σ) (F0 m 0 ls []) := by
    intro H locs ls hP hS hl
    refine lv_aload_n hx hb dX12_agreeOf_0 rfl (lv_at hl 0 rfl) ?_
    refine gf_X12_13 (v := .ref (ad 2)) hC hP kM_0 rfl dX12_agreeOf_1 ?_
    refine lv_iconst hx hb dX12_agreeOf_4 ki_0 ?_
    obtain ⟨h1, hf⟩ := fxG_e hf
    refine fx_iald hC hP kM_2 (fx_inp h1) dX12_agreeOf_5 ?_
    refine lv_aload_n hx hb dX12_agreeOf_6 rfl (lv_at hl 0 rfl) ?_
    refine gf_X12_35 (v := .ref (ad 9)) hC hP kM_0 rfl dX12_agreeOf_7 ?_
    refine lv_iload_n hx hb dX12_agreeOf_10 rfl (lv_at hl 1 rfl) ?_
    obtain ⟨h2, hf⟩ := fxG_e hf
    refine fx_iald hC hP kM_9 (fx_inp h2) dX12_agreeOf_11 ?_
    refine lv_aload_n hx hb dX12_agreeOf_12 rfl (lv_at hl 0 rfl) ?_
    refine gf_X12_35 (v := .ref (ad 9)) hC hP kM_0 rfl dX12_agreeOf_13 ?_
    refine lv_iload_n hx hb dX12_agreeOf_16 rfl (lv_at hl 2 rfl) ?_
    obtain ⟨h3, hf⟩ := fxG_e hf
    refine fx_iald hC hP kM_9 (fx_inp h3) dX12_agreeOf_17 ?_
    refine lv_ixor hx hb dX12_agreeOf_18 ?_
    obtain ⟨r5, hc4, hf⟩ := fxBP_e hf
    refine fx_ci hC hS (fx_runS (As := [.int ((σ.1 9 (Int32.toNatClampNeg a1)) ^^^ (σ.1 9 (Int32.toNatClampNeg a2)))]) (rest := [.int (σ.1 2 (Int32.toNatClampNeg 0))]) hC hP hS (ctX12_bits l hc4 D cy ad ec _) kMS_X12_433 kC_X12_bits hd_X12_bits.2 rfl ⟨(Nat.le_of_ble_eq_true rfl), (Nat.le_of_ble_eq_true rfl)⟩ ⟨Nat.le_refl 0, Nat.le_refl 0⟩ hl.1 (Nat.le_of_ble_eq_true rfl) rfl dX12_agreeOf_19) (fun H locs hP hS => ?_)
    refine lv_isub hx hb dX12_agreeOf_22 ?_
    exact fx_iretp hf hC hr hk hP hS dX12_agreeOf_23
  exact main _ _ _ hP hS hl

set_option maxHeartbeats 4000000 in
set_option maxRecDepth 100000 in
theorem ctX12_rival (l : Launch) {a1 : Int32} {σ σ' : FH} {v : Int32} (hf : fX12_rival a1 σ = some (v, σ')) : fx_Mi l yX12_rival cX12_rival 4 (some .int) (2) LM (fun ad ec => [.ref (ad 0), .int a1]) σ v σ' := by
  unfold fX12_rival at hf
  refine fx_mi' (own := RX12) rfl (by decide +kernel) ?_
  intro p e s m args below meth c D cy ad ec A hC hr hk hP hS
  have hx := hC.1
  have hb := hC.2.1
  have hl := lv_entry ([.ref (ad 0), .int a1]) (n := 4) (Nat.le_of_ble_eq_true rfl)
  show W _ _ _ _ _ _ _ _ _ _ _ _ _ _ _ (entryFrame m ([.ref (ad 0), .int a1] : List Value).toArray 4)
  rw [lg_entry_eq]
  generalize (lg_sl ([.ref (ad 0), .int a1]) ++ List.replicate (4 - (lg_sl ([.ref (ad 0), .int a1])).length) Slot.unset).toArray = ls at hl ⊢
  have hl : lv_has ls 4 [(0, .ref (ad 0)), (1, .int a1)] := hl
  have main : ∀ (H : Heap) (locs : List Loc) (ls : Array Slot), fx_P D cy LM ad σ H → va_S A s.heap H locs → lv_has ls 4 [(0, .ref (ad 0)), (1, .int a1)] → W p l e (fx_R (2)) s m args below meth c H locs 0 0 (fx_Qi D cy LM ad A below args s v σ') (F0 m 0 ls []) := by
    intro H locs ls hP hS hl
    refine lv_aload_n hx hb dX12_rival_0 rfl (lv_at hl 0 rfl) ?_
    refine lv_iconst hx hb dX12_rival_1 ki_0 ?_
    obtain ⟨σ1, eσ1, hf⟩ := fxL_e hf
    refine pf_X12_133 hC hP hS kM_0 dX12_rival_2 (fun H locs hP hS => ?_)
    replace hP := fx_Pe eσ1 hP
    refine lv_aload_n hx hb dX12_rival_5 rfl (lv_at hl 0 rfl) ?_
    refine lv_iload_n hx hb dX12_rival_6 rfl (lv_at hl 1 rfl) ?_
    obtain ⟨r3, hc2, hf⟩ := fxBP_e hf
    refine fx_ci hC hS (fx_runV (i := 0) (As := [.int a1]) (rest := []) hC hP hS (ctX12_isParty l hc2 D cy ad ec _) kM_0 (by decide) rfl kMV_X12_398 kC_X12_isParty hd_X12_isParty rfl ⟨(Nat.le_of_ble_eq_true rfl), (Nat.le_of_ble_eq_true rfl)⟩ ⟨Nat.le_refl 0, Nat.le_refl 0⟩ hl.1 (Nat.le_of_ble_eq_true rfl) rfl dX12_rival_7) (fun H locs hP hS => ?_)
    refine lv_if_ne (tgt := 15) hx hb dX12_rival_10 (by decide) (fun c5 => ?_) (fun c5 => ?_)
    · replace hf := fx_ie c5 hf
      refine lv_iconst hx hb dX12_rival_15 ki_m1 ?_
      refine lv_istore_n (lv' := [(2, .int (-1)), (0, .ref (ad 0)), (1, .int a1)]) hx hb dX12_rival_16 rfl hl (by decide) rfl (fun ls hl => ?_)
      refine lv_iconst hx hb dX12_rival_17 ki_0 ?_
      refine lv_istore_n (lv' := [(3, .int 0), (2, .int (-1)), (0, .ref (ad 0)), (1, .int a1)]) hx hb dX12_rival_18 rfl hl (by decide) rfl (fun ls hl => ?_)
      obtain ⟨K6, hK6, hf⟩ := fxL_e hf
      have k_K6 : ∀ (x7 : Int32) (H : Heap) (locs : List Loc) (ls : Array Slot), fx_P D cy LM ad σ1 H → va_S A s.heap H locs → lv_has ls 4 [(2, .int x7)] → K6 x7 = some (v, σ') → W p l e (fx_R (2)) s m args below meth c H locs 0 0 (fx_Qi D cy LM ad A below args s v σ') (F0 m 61 ls []) := by
        intro x7 H locs ls hP hS hl hf
        replace hf := fxk1 hK6 hf
        refine lv_iload_n hx hb dX12_rival_61 rfl (lv_at hl 0 rfl) ?_
        exact fx_iretf hf hC hr hk hP hS dX12_rival_62
      have L23 : ∀ (n11 : Nat) (w8 : Int32) (w9 : Int32) (H : Heap) (locs : List Loc) (ls : Array Slot), fx_P D cy LM ad σ1 H → va_S A s.heap H locs → lv_has ls 4 [(0, .ref (ad 0)), (1, .int a1), (2, .int w8), (3, .int w9)] → fX12_rival_19 a1 σ1 K6 n11 w8 w9 = some (v, σ') → W p l e (fx_R (2)) s m args below meth c H locs 0 0 (fx_Qi D cy LM ad A below args s v σ') (F0 m 19 ls []) := by
        intro n11
        induction n11 with
        | zero =>
          intro w8 w9 H locs ls hP hS hl hf
          rw [fX12_rival_19] at hf
          cases hf
        | succ n11 ih10 =>
          intro w8 w9 H locs ls hP hS hl hf
          rw [fX12_rival_19] at hf
          refine lv_iload_n hx hb dX12_rival_19 rfl (lv_at hl 3 rfl) ?_
          refine lv_aload_n hx hb dX12_rival_20 rfl (lv_at hl 0 rfl) ?_
          refine gf_X12_13 (v := .ref (ad 2)) hC hP kM_0 rfl dX12_rival_21 ?_
          refine lv_iconst hx hb dX12_rival_24 ki_1 ?_
          obtain ⟨h12, hf⟩ := fxG_e hf
          refine fx_iald hC hP kM_2 (fx_inp h12) dX12_rival_25 ?_
          refine lv_icmp_ge (tgt := 61) hx hb dX12_rival_26 (by decide) (fun c13 => ?_) (fun c13 => ?_)
          · replace hf := fx_it c13 hf
            exact k_K6 w8 _ _ _ hP hS (lv_sub hl [2] rfl) hf
          · replace hf := fx_ie c13 hf
            refine lv_iload_n hx hb dX12_rival_29 rfl (lv_at hl 3 rfl) ?_
            refine lv_iload_n hx hb dX12_rival_30 rfl (lv_at hl 1 rfl) ?_
            refine lv_icmp_eq (tgt := 55) hx hb dX12_rival_31 (by decide) (fun c14 => ?_) (fun c14 => ?_)
            · replace hf := fx_it c14 hf
              refine lv_iinc (v := (w9 + 1)) (lv' := [(3, .int (w9 + 1)), (0, .ref (ad 0)), (1, .int a1), (2, .int w8)]) hx hb dX12_rival_55 hl (k := 3) rfl (congrArg (fun z => w9 + z) ki_1) (by decide) rfl (fun ls hl => ?_)
              refine lv_goto (tgt := 19) hx hb dX12_rival_58 (by decide) ?_
              exact ih10 w8 (w9 + 1) _ _ _ hP hS (lv_sub hl [1, 2, 3, 0] rfl) hf
            · replace hf := fx_ie c14 hf
              refine lv_iload_n hx hb dX12_rival_34 rfl (lv_at hl 2 rfl) ?_
              refine lv_if_lt (tgt := 53) hx hb dX12_rival_35 (by decide) (fun c15 => ?_) (fun c15 => ?_)
              · replace hf := fx_it c15 hf
                refine lv_iload_n hx hb dX12_rival_53 rfl (lv_at hl 3 rfl) ?_
                refine lv_istore_n (lv' := [(2, .int w9), (0, .ref (ad 0)), (1, .int a1), (3, .int w9)]) hx hb dX12_rival_54 rfl hl (by decide) rfl (fun ls hl => ?_)
                refine lv_iinc (v := (w9 + 1)) (lv' := [(3, .int (w9 + 1)), (2, .int w9), (0, .ref (ad 0)), (1, .int a1)]) hx hb dX12_rival_55 hl (k := 3) rfl (congrArg (fun z => w9 + z) ki_1) (by decide) rfl (fun ls hl => ?_)
                refine lv_goto (tgt := 19) hx hb dX12_rival_58 (by decide) ?_
                exact ih10 w9 (w9 + 1) _ _ _ hP hS (lv_sub hl [2, 3, 1, 0] rfl) hf
              · replace hf := fx_ie c15 hf
                refine lv_aload_n hx hb dX12_rival_38 rfl (lv_at hl 0 rfl) ?_
                refine lv_iload_n hx hb dX12_rival_39 rfl (lv_at hl 1 rfl) ?_
                refine lv_iload_n hx hb dX12_rival_40 rfl (lv_at hl 3 rfl) ?_
                obtain ⟨r17, hc16, hf⟩ := fxBP_e hf
                refine fx_ci hC hS (fx_runV (i := 0) (As := [.int a1, .int w9]) (rest := []) hC hP hS (ctX12_agreeOf l hc16 D cy ad ec _) kM_0 (by decide) rfl kMV_X12_448 kC_X12_agreeOf hd_X12_agreeOf rfl ⟨(Nat.le_of_ble_eq_true rfl), (Nat.le_of_ble_eq_true rfl)⟩ ⟨Nat.le_refl 0, Nat.le_refl 0⟩ hl.1 (Nat.le_of_ble_eq_true rfl) rfl dX12_rival_41) (fun H locs hP hS => ?_)
                refine lv_aload_n hx hb dX12_rival_44 rfl (lv_at hl 0 rfl) ?_
                refine lv_iload_n hx hb dX12_rival_45 rfl (lv_at hl 1 rfl) ?_
                refine lv_iload_n hx hb dX12_rival_46 rfl (lv_at hl 2 rfl) ?_
                obtain ⟨r20, hc19, hf⟩ := fxBP_e hf
                refine fx_ci hC hS (fx_runV (i := 0) (As := [.int a1, .int w8]) (rest := [.int r17]) hC hP hS (ctX12_agreeOf l hc19 D cy ad ec _) kM_0 (by decide) rfl kMV_X12_448 kC_X12_agreeOf hd_X12_agreeOf rfl ⟨(Nat.le_of_ble_eq_true rfl), (Nat.le_of_ble_eq_true rfl)⟩ ⟨Nat.le_refl 0, Nat.le_refl 0⟩ hl.1 (Nat.le_of_ble_eq_true rfl) rfl dX12_rival_47) (fun H locs hP hS => ?_)
                refine lv_icmp_ge (tgt := 55) hx hb dX12_rival_50 (by decide) (fun c22 => ?_) (fun c22 => ?_)
                · replace hf := fx_it c22 hf
                  refine lv_iinc (v := (w9 + 1)) (lv' := [(3, .int (w9 + 1)), (0, .ref (ad 0)), (1, .int a1), (2, .int w8)]) hx hb dX12_rival_55 hl (k := 3) rfl (congrArg (fun z => w9 + z) ki_1) (by decide) rfl (fun ls hl => ?_)
                  refine lv_goto (tgt := 19) hx hb dX12_rival_58 (by decide) ?_
                  exact ih10 w8 (w9 + 1) _ _ _ hP hS (lv_sub hl [1, 2, 3, 0] rfl) hf
                · replace hf := fx_ie c22 hf
                  refine lv_iload_n hx hb dX12_rival_53 rfl (lv_at hl 3 rfl) ?_
                  refine lv_istore_n (lv' := [(2, .int w9), (0, .ref (ad 0)), (1, .int a1), (3, .int w9)]) hx hb dX12_rival_54 rfl hl (by decide) rfl (fun ls hl => ?_)
                  refine lv_iinc (v := (w9 + 1)) (lv' := [(3, .int (w9 + 1)), (2, .int w9), (0, .ref (ad 0)), (1, .int a1)]) hx hb dX12_rival_55 hl (k := 3) rfl (congrArg (fun z => w9 + z) ki_1) (by decide) rfl (fun ls hl => ?_)
                  refine lv_goto (tgt := 19) hx hb dX12_rival_58 (by decide) ?_
                  exact ih10 w9 (w9 + 1) _ _ _ hP hS (lv_sub hl [2, 3, 1, 0] rfl) hf
      exact L23 FU (-1) 0 _ _ _ hP hS (lv_sub hl [2, 3, 1, 0] rfl) hf
    · replace hf := fx_it c5 hf
      refine lv_iconst hx hb dX12_rival_13 ki_m1 ?_
      exact fx_iretf hf hC hr hk hP hS dX12_rival_14
  exact main _ _ _ hP hS hl

set_option maxHeartbeats 4000000 in
set_option maxRecDepth 100000 in
theorem ctX12_friends (l : Launch) {σ σ' : FH} {v : Int32} (hf : fX12_friends σ = some (v, σ')) : fx_Mi l yX12_friends cX12_friends 4 (some .int) (0) LM (fun ad ec => [.ref (ad 0)]) σ v σ' := by
  unfold fX12_friends at hf
  refine fx_mi' (own := RX12) rfl (by decide +kernel) ?_
  intro p e s m args below meth c D cy ad ec A hC hr hk hP hS
  have hx := hC.1
  have hb := hC.2.1
  have hl := lv_entry ([.ref (ad 0)]) (n := 4) (Nat.le_of_ble_eq_true rfl)
  show W _ _ _ _ _ _ _ _ _ _ _ _ _ _ _ (entryFrame m ([.ref (ad 0)] : List Value).toArray 4)
  rw [lg_entry_eq]
  generalize (lg_sl ([.ref (ad 0)]) ++ List.replicate (4 - (lg_sl ([.ref (ad 0)])).length) Slot.unset).toArray = ls at hl ⊢
  have hl : lv_has ls 4 [(0, .ref (ad 0))] := hl
  have main : ∀ (H : Heap) (locs : List Loc) (ls : Array Slot), fx_P D cy LM ad σ H → va_S A s.heap H locs → lv_has ls 4 [(0, .ref (ad 0))] → W p l e (fx_R (0)) s m args below meth c H locs 0 0 (fx_Qi D cy LM ad A below args s v σ') (F0 m 0 ls []) := by
    intro H locs ls hP hS hl
    refine lv_aload_n hx hb dX12_friends_0 rfl (lv_at hl 0 rfl) ?_
    refine lv_iconst hx hb dX12_friends_1 ki_0 ?_
    obtain ⟨σ1, eσ1, hf⟩ := fxL_e hf
    refine pf_X12_133 hC hP hS kM_0 dX12_friends_2 (fun H locs hP hS => ?_)
    replace hP := fx_Pe eσ1 hP
    refine lv_iconst hx hb dX12_friends_5 ki_0 ?_
    refine lv_istore_n (lv' := [(1, .int 0), (0, .ref (ad 0))]) hx hb dX12_friends_6 rfl hl (by decide) rfl (fun ls hl => ?_)
    refine lv_iconst hx hb dX12_friends_7 ki_0 ?_
    refine lv_istore_n (lv' := [(2, .int 0), (1, .int 0), (0, .ref (ad 0))]) hx hb dX12_friends_8 rfl hl (by decide) rfl (fun ls hl => ?_)
    obtain ⟨K2, hK2, hf⟩ := fxL_e hf
    have k_K2 : ∀ (x3 : Int32) (H : Heap) (locs : List Loc) (ls : Array Slot), fx_P D cy LM ad σ1 H → va_S A s.heap H locs → lv_has ls 4 [(1, .int x3)] → K2 x3 = some (v, σ') → W p l e (fx_R (0)) s m args below meth c H locs 0 0 (fx_Qi D cy LM ad A below args s v σ') (F0 m 61 ls []) := by
      intro x3 H locs ls hP hS hl hf
      replace hf := fxk1 hK2 hf
      refine lv_iload_n hx hb dX12_friends_61 rfl (lv_at hl 0 rfl) ?_
      exact fx_iretf hf hC hr hk hP hS dX12_friends_62
    have L24 : ∀ (n7 : Nat) (w4 : Int32) (w5 : Int32) (H : Heap) (locs : List Loc) (ls : Array Slot), fx_P D cy LM ad σ1 H → va_S A s.heap H locs → lv_has ls 4 [(0, .ref (ad 0)), (1, .int w4), (2, .int w5)] → fX12_friends_9 σ1 K2 n7 w4 w5 = some (v, σ') → W p l e (fx_R (0)) s m args below meth c H locs 0 0 (fx_Qi D cy LM ad A below args s v σ') (F0 m 9 ls []) := by
      intro n7
      induction n7 with
      | zero =>
        intro w4 w5 H locs ls hP hS hl hf
        rw [fX12_friends_9] at hf
        cases hf
      | succ n7 ih6 =>
        intro w4 w5 H locs ls hP hS hl hf
        rw [fX12_friends_9] at hf
        refine lv_iload_n hx hb dX12_friends_9 rfl (lv_at hl 2 rfl) ?_
        refine lv_aload_n hx hb dX12_friends_10 rfl (lv_at hl 0 rfl) ?_
        refine gf_X12_13 (v := .ref (ad 2)) hC hP kM_0 rfl dX12_friends_11 ?_
        refine lv_iconst hx hb dX12_friends_14 ki_1 ?_
        obtain ⟨h8, hf⟩ := fxG_e hf
        refine fx_iald hC hP kM_2 (fx_inp h8) dX12_friends_15 ?_
        refine lv_icmp_ge (tgt := 61) hx hb dX12_friends_16 (by decide) (fun c9 => ?_) (fun c9 => ?_)
        · replace hf := fx_it c9 hf
          exact k_K2 w4 _ _ _ hP hS (lv_sub hl [1] rfl) hf
        · replace hf := fx_ie c9 hf
          refine lv_iconst hx hb dX12_friends_19 ki_0 ?_
          refine lv_istore_n (lv' := [(3, .int 0), (0, .ref (ad 0)), (1, .int w4), (2, .int w5)]) hx hb dX12_friends_20 rfl hl (by decide) rfl (fun ls hl => ?_)
          obtain ⟨K10, hK10, hf⟩ := fxL_e hf
          have k_K10 : ∀ (x11 : Int32) (H : Heap) (locs : List Loc) (ls : Array Slot), fx_P D cy LM ad σ1 H → va_S A s.heap H locs → lv_has ls 4 [(0, .ref (ad 0)), (1, .int x11), (2, .int w5)] → K10 x11 = some (v, σ') → W p l e (fx_R (0)) s m args below meth c H locs 0 0 (fx_Qi D cy LM ad A below args s v σ') (F0 m 55 ls []) := by
            intro x11 H locs ls hP hS hl hf
            replace hf := fxk1 hK10 hf
            refine lv_iinc (v := (w5 + 1)) (lv' := [(2, .int (w5 + 1)), (0, .ref (ad 0)), (1, .int x11)]) hx hb dX12_friends_55 hl (k := 2) rfl (congrArg (fun z => w5 + z) ki_1) (by decide) rfl (fun ls hl => ?_)
            refine lv_goto (tgt := 9) hx hb dX12_friends_58 (by decide) ?_
            exact ih6 x11 (w5 + 1) _ _ _ hP hS (lv_sub hl [1, 2, 0] rfl) hf
          have L23 : ∀ (n15 : Nat) (w12 : Int32) (w13 : Int32) (H : Heap) (locs : List Loc) (ls : Array Slot), fx_P D cy LM ad σ1 H → va_S A s.heap H locs → lv_has ls 4 [(0, .ref (ad 0)), (1, .int w12), (2, .int w5), (3, .int w13)] → fX12_friends_21 σ1 w5 K10 n15 w12 w13 = some (v, σ') → W p l e (fx_R (0)) s m args below meth c H locs 0 0 (fx_Qi D cy LM ad A below args s v σ') (F0 m 21 ls []) := by
            intro n15
            induction n15 with
            | zero =>
              intro w12 w13 H locs ls hP hS hl hf
              rw [fX12_friends_21] at hf
              cases hf
            | succ n15 ih14 =>
              intro w12 w13 H locs ls hP hS hl hf
              rw [fX12_friends_21] at hf
              refine lv_iload_n hx hb dX12_friends_21 rfl (lv_at hl 3 rfl) ?_
              refine lv_iload_n hx hb dX12_friends_22 rfl (lv_at hl 2 rfl) ?_
              refine lv_icmp_ge (tgt := 55) hx hb dX12_friends_23 (by decide) (fun c16 => ?_) (fun c16 => ?_)
              · replace hf := fx_it c16 hf
                exact k_K10 w12 _ _ _ hP hS (lv_sub hl [0, 1, 2] rfl) hf
              · replace hf := fx_ie c16 hf
                refine lv_iload_n hx hb dX12_friends_26 rfl (lv_at hl 1 rfl) ?_
                refine lv_aload_n hx hb dX12_friends_27 rfl (lv_at hl 0 rfl) ?_
                refine gf_X12_35 (v := .ref (ad 9)) hC hP kM_0 rfl dX12_friends_28 ?_
                refine lv_iload_n hx hb dX12_friends_31 rfl (lv_at hl 2 rfl) ?_
                obtain ⟨h17, hf⟩ := fxG_e hf
                refine fx_iald hC hP kM_9 (fx_inp h17) dX12_friends_32 ?_
                refine lv_aload_n hx hb dX12_friends_33 rfl (lv_at hl 0 rfl) ?_
                refine gf_X12_35 (v := .ref (ad 9)) hC hP kM_0 rfl dX12_friends_34 ?_
                refine lv_iload_n hx hb dX12_friends_37 rfl (lv_at hl 3 rfl) ?_
                obtain ⟨h18, hf⟩ := fxG_e hf
                refine fx_iald hC hP kM_9 (fx_inp h18) dX12_friends_38 ?_
                obtain ⟨v19, ev19, hf⟩ := fxL_e hf
                have j_v19 : ∀ (z20 : Int32), z20 = ((if (σ1.1 9 (Int32.toNatClampNeg w5)) = (σ1.1 9 (Int32.toNatClampNeg w13)) then 1 else 0) : Int32) → ∀ (ls : Array Slot), lv_has ls 4 [(0, .ref (ad 0)), (2, .int w5), (3, .int w13)] → W p l e (fx_R (0)) s m args below meth c H locs 0 0 (fx_Qi D cy LM ad A below args s v σ') (F0 m 47 ls [.int z20, .int w12]) := by
                  intro z20 hz20 ls hl
                  obtain rfl : v19 = z20 := ev19.trans hz20.symm
                  refine lv_iadd hx hb dX12_friends_47 ?_
                  obtain ⟨v22, ev22, hf⟩ := fxL_e hf
                  refine fx_ti ev22 ?_
                  refine lv_istore_n (lv' := [(1, .int v22), (0, .ref (ad 0)), (2, .int w5), (3, .int w13)]) hx hb dX12_friends_48 rfl hl (by decide) rfl (fun ls hl => ?_)
                  refine lv_iinc (v := (w13 + 1)) (lv' := [(3, .int (w13 + 1)), (1, .int v22), (0, .ref (ad 0)), (2, .int w5)]) hx hb dX12_friends_49 hl (k := 3) rfl (congrArg (fun z => w13 + z) ki_1) (by decide) rfl (fun ls hl => ?_)
                  refine lv_goto (tgt := 21) hx hb dX12_friends_52 (by decide) ?_
                  exact ih14 v22 (w13 + 1) _ _ _ hP hS (lv_sub hl [2, 1, 3, 0] rfl) hf
                refine lv_icmp_ne (tgt := 46) hx hb dX12_friends_39 (by decide) (fun c21 => ?_) (fun c21 => ?_)
                · refine lv_iconst hx hb dX12_friends_46 ki_0 ?_
                  exact j_v19 0 (if_neg c21).symm ls (lv_sub hl [0, 2, 3] rfl)
                · refine lv_iconst hx hb dX12_friends_42 ki_1 ?_
                  refine lv_goto (tgt := 47) hx hb dX12_friends_43 (by decide) ?_
                  exact j_v19 1 (if_pos c21).symm ls (lv_sub hl [0, 2, 3] rfl)
          exact L23 FU w4 0 _ _ _ hP hS (lv_sub hl [1, 2, 3, 0] rfl) hf
    exact L24 FU 0 0 _ _ _ hP hS (lv_sub hl [2, 1, 0] rfl) hf
  exact main _ _ _ hP hS hl

set_option maxHeartbeats 4000000 in
set_option maxRecDepth 100000 in
theorem ctX12_bloc (l : Launch) {a1 : Int32} {σ σ' : FH} {v : Int32} (hf : fX12_bloc a1 σ = some (v, σ')) : fx_Mi l yX12_bloc cX12_bloc 2 (some .int) (1) LM (fun ad ec => [.ref (ad 0), .int a1]) σ v σ' := by
  unfold fX12_bloc at hf
  refine fx_mi' (own := RX12) rfl (by decide +kernel) ?_
  intro p e s m args below meth c D cy ad ec A hC hr hk hP hS
  have hx := hC.1
  have hb := hC.2.1
  have hl := lv_entry ([.ref (ad 0), .int a1]) (n := 2) (Nat.le_of_ble_eq_true rfl)
  show W _ _ _ _ _ _ _ _ _ _ _ _ _ _ _ (entryFrame m ([.ref (ad 0), .int a1] : List Value).toArray 2)
  rw [lg_entry_eq]
  generalize (lg_sl ([.ref (ad 0), .int a1]) ++ List.replicate (2 - (lg_sl ([.ref (ad 0), .int a1])).length) Slot.unset).toArray = ls at hl ⊢
  have hl : lv_has ls 2 [(0, .ref (ad 0)), (1, .int a1)] := hl
  have main : ∀ (H : Heap) (locs : List Loc) (ls : Array Slot), fx_P D cy LM ad σ H → va_S A s.heap H locs → lv_has ls 2 [(0, .ref (ad 0)), (1, .int a1)] → W p l e (fx_R (1)) s m args below meth c H locs 0 0 (fx_Qi D cy LM ad A below args s v σ') (F0 m 0 ls []) := by
    intro H locs ls hP hS hl
    refine lv_aload_n hx hb dX12_bloc_0 rfl (lv_at hl 0 rfl) ?_
    refine lv_iconst hx hb dX12_bloc_1 ki_0 ?_
    obtain ⟨σ1, eσ1, hf⟩ := fxL_e hf
    refine pf_X12_133 hC hP hS kM_0 dX12_bloc_2 (fun H locs hP hS => ?_)
    replace hP := fx_Pe eσ1 hP
    refine lv_aload_n hx hb dX12_bloc_5 rfl (lv_at hl 0 rfl) ?_
    refine lv_iload_n hx hb dX12_bloc_6 rfl (lv_at hl 1 rfl) ?_
    obtain ⟨r3, hc2, hf⟩ := fxBP_e hf
    refine fx_ci hC hS (fx_runV (i := 0) (As := [.int a1]) (rest := []) hC hP hS (ctX12_isWare l hc2 D cy ad ec _) kM_0 (by decide) rfl kMV_X12_392 kC_X12_isWare hd_X12_isWare rfl ⟨(Nat.le_of_ble_eq_true rfl), (Nat.le_of_ble_eq_true rfl)⟩ ⟨Nat.le_refl 0, Nat.le_refl 0⟩ hl.1 (Nat.le_of_ble_eq_true rfl) rfl dX12_bloc_7) (fun H locs hP hS => ?_)
    refine lv_if_eq (tgt := 21) hx hb dX12_bloc_10 (by decide) (fun c5 => ?_) (fun c5 => ?_)
    · replace hf := fx_it c5 hf
      refine lv_iconst hx hb dX12_bloc_21 ki_m1 ?_
      exact fx_iretf hf hC hr hk hP hS dX12_bloc_22
    · replace hf := fx_ie c5 hf
      refine lv_aload_n hx hb dX12_bloc_13 rfl (lv_at hl 0 rfl) ?_
      refine lv_iload_n hx hb dX12_bloc_14 rfl (lv_at hl 1 rfl) ?_
      obtain ⟨r7, hc6, hf⟩ := fxBP_e hf
      refine fx_ci hC hS (fx_runV (i := 0) (As := [.int a1]) (rest := []) hC hP hS (ctX12_blocOf l hc6 D cy ad ec _) kM_0 (by decide) rfl kMV_X12_357 kC_X12_blocOf hd_X12_blocOf rfl ⟨(Nat.le_of_ble_eq_true rfl), (Nat.le_of_ble_eq_true rfl)⟩ ⟨Nat.le_refl 0, Nat.le_refl 0⟩ hl.1 (Nat.le_of_ble_eq_true rfl) rfl dX12_bloc_15) (fun H locs hP hS => ?_)
      refine lv_goto (tgt := 22) hx hb dX12_bloc_18 (by decide) ?_
      exact fx_iretf hf hC hr hk hP hS dX12_bloc_22
  exact main _ _ _ hP hS hl

set_option maxHeartbeats 4000000 in
set_option maxRecDepth 100000 in
theorem ctX12_orphans (l : Launch) {σ σ' : FH} {v : Int32} (hf : fX12_orphans σ = some (v, σ')) : fx_Mi l yX12_orphans cX12_orphans 3 (some .int) (2) LM (fun ad ec => [.ref (ad 0)]) σ v σ' := by
  unfold fX12_orphans at hf
  refine fx_mi' (own := RX12) rfl (by decide +kernel) ?_
  intro p e s m args below meth c D cy ad ec A hC hr hk hP hS
  have hx := hC.1
  have hb := hC.2.1
  have hl := lv_entry ([.ref (ad 0)]) (n := 3) (Nat.le_of_ble_eq_true rfl)
  show W _ _ _ _ _ _ _ _ _ _ _ _ _ _ _ (entryFrame m ([.ref (ad 0)] : List Value).toArray 3)
  rw [lg_entry_eq]
  generalize (lg_sl ([.ref (ad 0)]) ++ List.replicate (3 - (lg_sl ([.ref (ad 0)])).length) Slot.unset).toArray = ls at hl ⊢
  have hl : lv_has ls 3 [(0, .ref (ad 0))] := hl
  have main : ∀ (H : Heap) (locs : List Loc) (ls : Array Slot), fx_P D cy LM ad σ H → va_S A s.heap H locs → lv_has ls 3 [(0, .ref (ad 0))] → W p l e (fx_R (2)) s m args below meth c H locs 0 0 (fx_Qi D cy LM ad A below args s v σ') (F0 m 0 ls []) := by
    intro H locs ls hP hS hl
    refine lv_aload_n hx hb dX12_orphans_0 rfl (lv_at hl 0 rfl) ?_
    refine lv_iconst hx hb dX12_orphans_1 ki_0 ?_
    obtain ⟨σ1, eσ1, hf⟩ := fxL_e hf
    refine pf_X12_133 hC hP hS kM_0 dX12_orphans_2 (fun H locs hP hS => ?_)
    replace hP := fx_Pe eσ1 hP
    refine lv_iconst hx hb dX12_orphans_5 ki_0 ?_
    refine lv_istore_n (lv' := [(1, .int 0), (0, .ref (ad 0))]) hx hb dX12_orphans_6 rfl hl (by decide) rfl (fun ls hl => ?_)
    refine lv_iconst hx hb dX12_orphans_7 ki_0 ?_
    refine lv_istore_n (lv' := [(2, .int 0), (1, .int 0), (0, .ref (ad 0))]) hx hb dX12_orphans_8 rfl hl (by decide) rfl (fun ls hl => ?_)
    obtain ⟨K2, hK2, hf⟩ := fxL_e hf
    have k_K2 : ∀ (x3 : Int32) (H : Heap) (locs : List Loc) (ls : Array Slot), fx_P D cy LM ad σ1 H → va_S A s.heap H locs → lv_has ls 3 [(1, .int x3)] → K2 x3 = some (v, σ') → W p l e (fx_R (2)) s m args below meth c H locs 0 0 (fx_Qi D cy LM ad A below args s v σ') (F0 m 43 ls []) := by
      intro x3 H locs ls hP hS hl hf
      replace hf := fxk1 hK2 hf
      refine lv_iload_n hx hb dX12_orphans_43 rfl (lv_at hl 0 rfl) ?_
      exact fx_iretf hf hC hr hk hP hS dX12_orphans_44
    have L17 : ∀ (n7 : Nat) (w4 : Int32) (w5 : Int32) (H : Heap) (locs : List Loc) (ls : Array Slot), fx_P D cy LM ad σ1 H → va_S A s.heap H locs → lv_has ls 3 [(0, .ref (ad 0)), (1, .int w4), (2, .int w5)] → fX12_orphans_9 σ1 K2 n7 w4 w5 = some (v, σ') → W p l e (fx_R (2)) s m args below meth c H locs 0 0 (fx_Qi D cy LM ad A below args s v σ') (F0 m 9 ls []) := by
      intro n7
      induction n7 with
      | zero =>
        intro w4 w5 H locs ls hP hS hl hf
        rw [fX12_orphans_9] at hf
        cases hf
      | succ n7 ih6 =>
        intro w4 w5 H locs ls hP hS hl hf
        rw [fX12_orphans_9] at hf
        refine lv_iload_n hx hb dX12_orphans_9 rfl (lv_at hl 2 rfl) ?_
        refine lv_aload_n hx hb dX12_orphans_10 rfl (lv_at hl 0 rfl) ?_
        refine gf_X12_13 (v := .ref (ad 2)) hC hP kM_0 rfl dX12_orphans_11 ?_
        refine lv_iconst hx hb dX12_orphans_14 ki_0 ?_
        obtain ⟨h8, hf⟩ := fxG_e hf
        refine fx_iald hC hP kM_2 (fx_inp h8) dX12_orphans_15 ?_
        refine lv_icmp_ge (tgt := 43) hx hb dX12_orphans_16 (by decide) (fun c9 => ?_) (fun c9 => ?_)
        · replace hf := fx_it c9 hf
          exact k_K2 w4 _ _ _ hP hS (lv_sub hl [1] rfl) hf
        · replace hf := fx_ie c9 hf
          refine lv_iload_n hx hb dX12_orphans_19 rfl (lv_at hl 1 rfl) ?_
          refine lv_aload_n hx hb dX12_orphans_20 rfl (lv_at hl 0 rfl) ?_
          refine lv_iload_n hx hb dX12_orphans_21 rfl (lv_at hl 2 rfl) ?_
          obtain ⟨r11, hc10, hf⟩ := fxBP_e hf
          refine fx_ci hC hS (fx_runV (i := 0) (As := [.int w5]) (rest := [.int w4]) hC hP hS (ctX12_votesOf l hc10 D cy ad ec _) kM_0 (by decide) rfl kMV_X12_370 kC_X12_votesOf hd_X12_votesOf rfl ⟨(Nat.le_of_ble_eq_true rfl), (Nat.le_of_ble_eq_true rfl)⟩ ⟨Nat.le_refl 0, Nat.le_refl 0⟩ hl.1 (Nat.le_of_ble_eq_true rfl) rfl dX12_orphans_22) (fun H locs hP hS => ?_)
          obtain ⟨v13, ev13, hf⟩ := fxL_e hf
          have j_v13 : ∀ (z14 : Int32), z14 = ((if r11 = 0 then (1 <<< (w5 &&& 31)) else 0) : Int32) → ∀ (ls : Array Slot), lv_has ls 3 [(0, .ref (ad 0)), (2, .int w5)] → W p l e (fx_R (2)) s m args below meth c H locs 0 0 (fx_Qi D cy LM ad A below args s v σ') (F0 m 35 ls [.int z14, .int w4]) := by
            intro z14 hz14 ls hl
            obtain rfl : v13 = z14 := ev13.trans hz14.symm
            refine lv_ior hx hb dX12_orphans_35 ?_
            obtain ⟨v16, ev16, hf⟩ := fxL_e hf
            refine fx_ti ev16 ?_
            refine lv_istore_n (lv' := [(1, .int v16), (0, .ref (ad 0)), (2, .int w5)]) hx hb dX12_orphans_36 rfl hl (by decide) rfl (fun ls hl => ?_)
            refine lv_iinc (v := (w5 + 1)) (lv' := [(2, .int (w5 + 1)), (1, .int v16), (0, .ref (ad 0))]) hx hb dX12_orphans_37 hl (k := 2) rfl (congrArg (fun z => w5 + z) ki_1) (by decide) rfl (fun ls hl => ?_)
            refine lv_goto (tgt := 9) hx hb dX12_orphans_40 (by decide) ?_
            exact ih6 v16 (w5 + 1) _ _ _ hP hS (lv_sub hl [2, 1, 0] rfl) hf
          refine lv_if_ne (tgt := 34) hx hb dX12_orphans_25 (by decide) (fun c15 => ?_) (fun c15 => ?_)
          · refine lv_iconst hx hb dX12_orphans_34 ki_0 ?_
            exact j_v13 0 (if_neg c15).symm ls (lv_sub hl [0, 2] rfl)
          · refine lv_iconst hx hb dX12_orphans_28 ki_1 ?_
            refine lv_iload_n hx hb dX12_orphans_29 rfl (lv_at hl 2 rfl) ?_
            refine lv_ishl hx hb dX12_orphans_30 ?_
            refine lv_goto (tgt := 35) hx hb dX12_orphans_31 (by decide) ?_
            exact j_v13 (1 <<< (w5 &&& 31)) (if_pos c15).symm ls (lv_sub hl [0, 2] rfl)
    exact L17 FU 0 0 _ _ _ hP hS (lv_sub hl [2, 1, 0] rfl) hf
  exact main _ _ _ hP hS hl

set_option maxHeartbeats 4000000 in
set_option maxRecDepth 100000 in
theorem ctX12_laysHalves (l : Launch) {σ σ' : FH} (hf : fX12_laysHalves σ = some σ') : fx_Mv l yX12_laysHalves cX12_laysHalves 4 none (4) LM (fun ad ec => [.ref (ad 0)]) σ σ' := by
  unfold fX12_laysHalves at hf
  refine fx_mv' (own := RX12) rfl (by decide +kernel) ?_
  intro p e s m args below meth c D cy ad ec A hC hr hk hP hS
  have hx := hC.1
  have hb := hC.2.1
  have hl := lv_entry ([.ref (ad 0)]) (n := 4) (Nat.le_of_ble_eq_true rfl)
  show W _ _ _ _ _ _ _ _ _ _ _ _ _ _ _ (entryFrame m ([.ref (ad 0)] : List Value).toArray 4)
  rw [lg_entry_eq]
  generalize (lg_sl ([.ref (ad 0)]) ++ List.replicate (4 - (lg_sl ([.ref (ad 0)])).length) Slot.unset).toArray = ls at hl ⊢
  have hl : lv_has ls 4 [(0, .ref (ad 0))] := hl
  have main : ∀ (H : Heap) (locs : List Loc) (ls : Array Slot), fx_P D cy LM ad σ H → va_S A s.heap H locs → lv_has ls 4 [(0, .ref (ad 0))] → W p l e (fx_R (4)) s m args below meth c H locs 0 0 (fx_Qv D cy LM ad A below args s σ') (F0 m 0 ls []) := by
    intro H locs ls hP hS hl
    refine lv_iconst hx hb dX12_laysHalves_0 ki_2 ?_
    refine lv_istore_n (lv' := [(1, .int 2), (0, .ref (ad 0))]) hx hb dX12_laysHalves_1 rfl hl (by decide) rfl (fun ls hl => ?_)
    obtain ⟨K1, hK1, hf⟩ := fxL_e hf
    have k_K1 : ∀ (σ2 : FH) (H : Heap) (locs : List Loc) (ls : Array Slot), fx_P D cy LM ad σ2 H → va_S A s.heap H locs → lv_has ls 4 [] → K1 σ2 = some σ' → W p l e (fx_R (4)) s m args below meth c H locs 0 0 (fx_Qv D cy LM ad A below args s σ') (F0 m 79 ls []) := by
      intro σ2 H locs ls hP hS hl hf
      replace hf := fxk1 hK1 hf
      exact fx_vretf hf hC hr hk hP hS dX12_laysHalves_79
    have L27 : ∀ (n6 : Nat) (w3 : Int32) (σ4 : FH) (H : Heap) (locs : List Loc) (ls : Array Slot), fx_P D cy LM ad σ4 H → va_S A s.heap H locs → lv_has ls 4 [(0, .ref (ad 0)), (1, .int w3)] → fX12_laysHalves_2 K1 n6 w3 σ4 = some σ' → W p l e (fx_R (4)) s m args below meth c H locs 0 0 (fx_Qv D cy LM ad A below args s σ') (F0 m 2 ls []) := by
      intro n6
      induction n6 with
      | zero =>
        intro w3 σ4 H locs ls hP hS hl hf
        rw [fX12_laysHalves_2] at hf
        cases hf
      | succ n6 ih5 =>
        intro w3 σ4 H locs ls hP hS hl hf
        rw [fX12_laysHalves_2] at hf
        refine lv_iload_n hx hb dX12_laysHalves_2 rfl (lv_at hl 1 rfl) ?_
        refine lv_bipush hx hb dX12_laysHalves_3 kb_61 ?_
        refine lv_icmp_ge (tgt := 79) hx hb dX12_laysHalves_5 (by decide) (fun c7 => ?_) (fun c7 => ?_)
        · replace hf := fx_it c7 hf
          exact k_K1 σ4 _ _ _ hP hS (lv_sub hl [] rfl) hf
        · replace hf := fx_ie c7 hf
          refine lv_iconst hx hb dX12_laysHalves_8 ki_0 ?_
          refine lv_istore_n (lv' := [(2, .int 0), (0, .ref (ad 0)), (1, .int w3)]) hx hb dX12_laysHalves_9 rfl hl (by decide) rfl (fun ls hl => ?_)
          refine lv_iconst hx hb dX12_laysHalves_10 ki_0 ?_
          refine lv_istore_n (lv' := [(3, .int 0), (2, .int 0), (0, .ref (ad 0)), (1, .int w3)]) hx hb dX12_laysHalves_11 rfl hl (by decide) rfl (fun ls hl => ?_)
          obtain ⟨K8, hK8, hf⟩ := fxL_e hf
          have k_K8 : ∀ (σ9 : FH) (H : Heap) (locs : List Loc) (ls : Array Slot), fx_P D cy LM ad σ9 H → va_S A s.heap H locs → lv_has ls 4 [(0, .ref (ad 0)), (1, .int w3)] → K8 σ9 = some σ' → W p l e (fx_R (4)) s m args below meth c H locs 0 0 (fx_Qv D cy LM ad A below args s σ') (F0 m 73 ls []) := by
            intro σ9 H locs ls hP hS hl hf
            replace hf := fxk1 hK8 hf
            refine lv_iinc (v := (w3 + 1)) (lv' := [(1, .int (w3 + 1)), (0, .ref (ad 0))]) hx hb dX12_laysHalves_73 hl (k := 1) rfl (congrArg (fun z => w3 + z) ki_1) (by decide) rfl (fun ls hl => ?_)
            refine lv_goto (tgt := 2) hx hb dX12_laysHalves_76 (by decide) ?_
            exact ih5 (w3 + 1) σ9 _ _ _ hP hS (lv_sub hl [1, 0] rfl) hf
          have L26 : ∀ (n14 : Nat) (w10 : Int32) (w11 : Int32) (σ12 : FH) (H : Heap) (locs : List Loc) (ls : Array Slot), fx_P D cy LM ad σ12 H → va_S A s.heap H locs → lv_has ls 4 [(0, .ref (ad 0)), (1, .int w3), (2, .int w10), (3, .int w11)] → fX12_laysHalves_12 w3 K8 n14 w10 w11 σ12 = some σ' → W p l e (fx_R (4)) s m args below meth c H locs 0 0 (fx_Qv D cy LM ad A below args s σ') (F0 m 12 ls []) := by
            intro n14
            induction n14 with
            | zero =>
              intro w10 w11 σ12 H locs ls hP hS hl hf
              rw [fX12_laysHalves_12] at hf
              cases hf
            | succ n14 ih13 =>
              intro w10 w11 σ12 H locs ls hP hS hl hf
              rw [fX12_laysHalves_12] at hf
              refine lv_iload_n hx hb dX12_laysHalves_12 rfl (lv_at hl 3 rfl) ?_
              refine lv_bipush hx hb dX12_laysHalves_13 kb_30 ?_
              refine lv_icmp_gt (tgt := 73) hx hb dX12_laysHalves_15 (by decide) (fun c15 => ?_) (fun c15 => ?_)
              · replace hf := fx_it c15 hf
                exact k_K8 σ12 _ _ _ hP hS (lv_sub hl [0, 1] rfl) hf
              · replace hf := fx_ie c15 hf
                refine lv_aload_n hx hb dX12_laysHalves_18 rfl (lv_at hl 0 rfl) ?_
                refine gf_X12_126 (v := .ref (ad 39)) hC hP kM_0 rfl dX12_laysHalves_19 ?_
                refine lv_bipush hx hb dX12_laysHalves_22 kb_31 ?_
                refine lv_iload_n hx hb dX12_laysHalves_24 rfl (lv_at hl 1 rfl) ?_
                refine lv_imul hx hb dX12_laysHalves_25 ?_
                refine lv_iload_n hx hb dX12_laysHalves_26 rfl (lv_at hl 3 rfl) ?_
                refine lv_iadd hx hb dX12_laysHalves_27 ?_
                refine lv_iload_n hx hb dX12_laysHalves_28 rfl (lv_at hl 2 rfl) ?_
                refine lv_iload_n hx hb dX12_laysHalves_29 rfl (lv_at hl 1 rfl) ?_
                refine lv_iconst hx hb dX12_laysHalves_30 ki_2 ?_
                refine lv_idiv hx hb dX12_laysHalves_31 (by decide) ?_
                obtain ⟨v16, ev16, hf⟩ := fxL_e hf
                have j_v16 : ∀ (z17 : Int32), z17 = ((if w10 = (w3 / 2) then 1 else 0) : Int32) → ∀ (ls : Array Slot), lv_has ls 4 [(0, .ref (ad 0)), (1, .int w3), (2, .int w10), (3, .int w11)] → W p l e (fx_R (4)) s m args below meth c H locs 0 0 (fx_Qv D cy LM ad A below args s σ') (F0 m 40 ls [.int z17, .int ((31 * w3) + w11), .ref (ad 39)]) := by
                  intro z17 hz17 ls hl
                  obtain rfl : v16 = z17 := ev16.trans hz17.symm
                  obtain ⟨h19, hf⟩ := fxG_e hf
                  obtain ⟨σ20, eσ20, hf⟩ := fxL_e hf
                  refine fx_zast hC hP hS kM_39 (fx_inp h19) dX12_laysHalves_40 (fun H locs hP hS => ?_)
                  replace hP := fx_Pe eσ20 hP
                  refine lv_iload_n hx hb dX12_laysHalves_41 rfl (lv_at hl 1 rfl) ?_
                  refine lv_iconst hx hb dX12_laysHalves_42 ki_2 ?_
                  refine lv_idiv hx hb dX12_laysHalves_43 (by decide) ?_
                  refine lv_iload_n hx hb dX12_laysHalves_44 rfl (lv_at hl 2 rfl) ?_
                  refine lv_aload_n hx hb dX12_laysHalves_45 rfl (lv_at hl 0 rfl) ?_
                  refine lv_iload_n hx hb dX12_laysHalves_46 rfl (lv_at hl 2 rfl) ?_
                  refine lv_iload_n hx hb dX12_laysHalves_47 rfl (lv_at hl 1 rfl) ?_
                  refine lv_iconst hx hb dX12_laysHalves_48 ki_2 ?_
                  refine lv_idiv hx hb dX12_laysHalves_49 (by decide) ?_
                  refine lv_iconst hx hb dX12_laysHalves_50 ki_0 ?_
                  refine lv_aload_n hx hb dX12_laysHalves_51 rfl (lv_at hl 0 rfl) ?_
                  refine gf_X12_108 (v := .ref (ad 33)) hC hP kM_0 rfl dX12_laysHalves_52 ?_
                  refine lv_iconst hx hb dX12_laysHalves_55 ki_0 ?_
                  obtain ⟨h21, hf⟩ := fxG_e hf
                  refine fx_iald hC hP kM_33 (fx_inp h21) dX12_laysHalves_56 ?_
                  refine lv_iload_n hx hb dX12_laysHalves_57 rfl (lv_at hl 3 rfl) ?_
                  refine lv_iadd hx hb dX12_laysHalves_58 ?_
                  obtain ⟨r23, σ24, hc22, hf⟩ := fxBI_e hf
                  refine fx_ci hC hS (fx_runV (i := 0) (As := [.int w10, .int (w3 / 2), .int 0, .int ((σ20.1 33 (Int32.toNatClampNeg 0)) + w11)]) (rest := [.int w10, .int (w3 / 2)]) hC hP hS (ctX12_effort l hc22 D cy ad ec _) kM_0 (by decide) rfl kMV_X12_373 kC_X12_effort hd_X12_effort rfl ⟨(Nat.le_of_ble_eq_true rfl), (Nat.le_of_ble_eq_true rfl)⟩ ⟨Nat.le_refl 0, Nat.le_refl 0⟩ hl.1 (Nat.le_of_ble_eq_true rfl) rfl dX12_laysHalves_59) (fun H locs hP hS => ?_)
                  refine lv_iadd hx hb dX12_laysHalves_62 ?_
                  refine fx_min hC hl.1 kL_X12_284 kMt_min kMi kMc_min (Nat.le_of_ble_eq_true rfl) (Nat.le_of_ble_eq_true rfl) ⟨Nat.le_refl 0, Nat.le_refl 0⟩ dX12_laysHalves_63 ?_
                  obtain ⟨v25, ev25, hf⟩ := fxL_e hf
                  refine fx_ti ev25 ?_
                  refine lv_istore_n (lv' := [(2, .int v25), (0, .ref (ad 0)), (1, .int w3), (3, .int w11)]) hx hb dX12_laysHalves_66 rfl hl (by decide) rfl (fun ls hl => ?_)
                  refine lv_iinc (v := (w11 + 1)) (lv' := [(3, .int (w11 + 1)), (2, .int v25), (0, .ref (ad 0)), (1, .int w3)]) hx hb dX12_laysHalves_67 hl (k := 3) rfl (congrArg (fun z => w11 + z) ki_1) (by decide) rfl (fun ls hl => ?_)
                  refine lv_goto (tgt := 12) hx hb dX12_laysHalves_70 (by decide) ?_
                  exact ih13 v25 (w11 + 1) σ24 _ _ _ hP hS (lv_sub hl [2, 3, 1, 0] rfl) hf
                refine lv_icmp_ne (tgt := 39) hx hb dX12_laysHalves_32 (by decide) (fun c18 => ?_) (fun c18 => ?_)
                · refine lv_iconst hx hb dX12_laysHalves_39 ki_0 ?_
                  exact j_v16 0 (if_neg c18).symm ls (lv_sub hl [0, 1, 2, 3] rfl)
                · refine lv_iconst hx hb dX12_laysHalves_35 ki_1 ?_
                  refine lv_goto (tgt := 40) hx hb dX12_laysHalves_36 (by decide) ?_
                  exact j_v16 1 (if_pos c18).symm ls (lv_sub hl [0, 1, 2, 3] rfl)
          exact L26 FU 0 0 σ4 _ _ _ hP hS (lv_sub hl [2, 3, 1, 0] rfl) hf
    exact L27 FU 2 σ _ _ _ hP hS (lv_sub hl [1, 0] rfl) hf
  exact main _ _ _ hP hS hl

set_option maxHeartbeats 4000000 in
set_option maxRecDepth 100000 in
theorem ctX12_say (l : Launch) {a1 : Int32} {a2 : Int32} {σ σ' : FH} {v : Int32} (hf : fX12_say a1 a2 σ = some (v, σ')) : fx_Mi l yX12_say cX12_say 3 (some .boolean) (1) LM (fun ad ec => [.ref (ad 0), .int a1, .int a2]) σ v σ' := by
  unfold fX12_say at hf
  refine fx_mi' (own := RX12) rfl (by decide +kernel) ?_
  intro p e s m args below meth c D cy ad ec A hC hr hk hP hS
  have hx := hC.1
  have hb := hC.2.1
  have hl := lv_entry ([.ref (ad 0), .int a1, .int a2]) (n := 3) (Nat.le_of_ble_eq_true rfl)
  show W _ _ _ _ _ _ _ _ _ _ _ _ _ _ _ (entryFrame m ([.ref (ad 0), .int a1, .int a2] : List Value).toArray 3)
  rw [lg_entry_eq]
  generalize (lg_sl ([.ref (ad 0), .int a1, .int a2]) ++ List.replicate (3 - (lg_sl ([.ref (ad 0), .int a1, .int a2])).length) Slot.unset).toArray = ls at hl ⊢
  have hl : lv_has ls 3 [(0, .ref (ad 0)), (1, .int a1), (2, .int a2)] := hl
  have main : ∀ (H : Heap) (locs : List Loc) (ls : Array Slot), fx_P D cy LM ad σ H → va_S A s.heap H locs → lv_has ls 3 [(0, .ref (ad 0)), (1, .int a1), (2, .int a2)] → W p l e (fx_R (1)) s m args below meth c H locs 0 0 (fx_Qi D cy LM ad A below args s v σ') (F0 m 0 ls []) := by
    intro H locs ls hP hS hl
    refine lv_aload_n hx hb dX12_say_0 rfl (lv_at hl 0 rfl) ?_
    refine lv_iconst hx hb dX12_say_1 ki_0 ?_
    obtain ⟨σ1, eσ1, hf⟩ := fxL_e hf
    refine pf_X12_133 hC hP hS kM_0 dX12_say_2 (fun H locs hP hS => ?_)
    replace hP := fx_Pe eσ1 hP
    refine lv_iload_n hx hb dX12_say_5 rfl (lv_at hl 1 rfl) ?_
    refine lv_iconst hx hb dX12_say_6 ki_0 ?_
    refine lv_bipush hx hb dX12_say_7 kb_30 ?_
    obtain ⟨r3, hc2, hf⟩ := fxBP_e hf
    refine fx_ci hC hS (fx_runS (As := [.int a1, .int 0, .int 30]) (rest := []) hC hP hS (ctX12_within l hc2 D cy ad ec _) kMS_X12_253 kC_X12_within hd_X12_within.2 rfl ⟨(Nat.le_of_ble_eq_true rfl), (Nat.le_of_ble_eq_true rfl)⟩ ⟨Nat.le_refl 0, Nat.le_refl 0⟩ hl.1 (Nat.le_of_ble_eq_true rfl) rfl dX12_say_9) (fun H locs hP hS => ?_)
    refine lv_if_eq (tgt := 26) hx hb dX12_say_12 (by decide) (fun c5 => ?_) (fun c5 => ?_)
    · replace hf := fx_it c5 hf
      refine lv_iconst hx hb dX12_say_26 ki_0 ?_
      exact fx_zretf rfl hf hC hr hk hP hS dX12_say_27
    · replace hf := fx_ie c5 hf
      refine lv_aload_n hx hb dX12_say_15 rfl (lv_at hl 0 rfl) ?_
      refine gf_X12_99 (v := .ref (ad 30)) hC hP kM_0 rfl dX12_say_16 ?_
      refine lv_iconst hx hb dX12_say_19 ki_0 ?_
      obtain ⟨h6, hf⟩ := fxG_e hf
      refine fx_iald hC hP kM_30 (fx_inp h6) dX12_say_20 ?_
      refine lv_bipush hx hb dX12_say_21 kb_8 ?_
      refine lv_icmp_ne (tgt := 28) hx hb dX12_say_23 (by decide) (fun c7 => ?_) (fun c7 => ?_)
      · replace hf := fx_ie c7 hf
        refine lv_aload_n hx hb dX12_say_28 rfl (lv_at hl 0 rfl) ?_
        refine gf_X12_102 (v := .ref (ad 31)) hC hP kM_0 rfl dX12_say_29 ?_
        refine lv_aload_n hx hb dX12_say_32 rfl (lv_at hl 0 rfl) ?_
        refine gf_X12_99 (v := .ref (ad 30)) hC hP kM_0 rfl dX12_say_33 ?_
        refine lv_iconst hx hb dX12_say_36 ki_0 ?_
        obtain ⟨h8, hf⟩ := fxG_e hf
        refine fx_iald hC hP kM_30 (fx_inp h8) dX12_say_37 ?_
        refine lv_iload_n hx hb dX12_say_38 rfl (lv_at hl 1 rfl) ?_
        obtain ⟨h9, hf⟩ := fxG_e hf
        obtain ⟨σ10, eσ10, hf⟩ := fxL_e hf
        refine fx_iast hC hP hS kM_31 (fx_inp h9) dX12_say_39 (fun H locs hP hS => ?_)
        replace hP := fx_Pe eσ10 hP
        refine lv_aload_n hx hb dX12_say_40 rfl (lv_at hl 0 rfl) ?_
        refine gf_X12_105 (v := .ref (ad 32)) hC hP kM_0 rfl dX12_say_41 ?_
        refine lv_aload_n hx hb dX12_say_44 rfl (lv_at hl 0 rfl) ?_
        refine gf_X12_99 (v := .ref (ad 30)) hC hP kM_0 rfl dX12_say_45 ?_
        refine lv_iconst hx hb dX12_say_48 ki_0 ?_
        obtain ⟨h11, hf⟩ := fxG_e hf
        refine fx_iald hC hP kM_30 (fx_inp h11) dX12_say_49 ?_
        refine lv_iload_n hx hb dX12_say_50 rfl (lv_at hl 2 rfl) ?_
        obtain ⟨h12, hf⟩ := fxG_e hf
        obtain ⟨σ13, eσ13, hf⟩ := fxL_e hf
        refine fx_zast hC hP hS kM_32 (fx_inp h12) dX12_say_51 (fun H locs hP hS => ?_)
        replace hP := fx_Pe eσ13 hP
        refine lv_aload_n hx hb dX12_say_52 rfl (lv_at hl 0 rfl) ?_
        refine gf_X12_99 (v := .ref (ad 30)) hC hP kM_0 rfl dX12_say_53 ?_
        refine lv_iconst hx hb dX12_say_56 ki_0 ?_
        refine lv_dup2_11 hx hb dX12_say_57 rfl rfl ?_
        obtain ⟨h14, hf⟩ := fxG_e hf
        refine fx_iald hC hP kM_30 (fx_inp h14) dX12_say_58 ?_
        refine lv_iconst hx hb dX12_say_59 ki_1 ?_
        refine lv_iadd hx hb dX12_say_60 ?_
        obtain ⟨h15, hf⟩ := fxG_e hf
        obtain ⟨σ16, eσ16, hf⟩ := fxL_e hf
        refine fx_iast hC hP hS kM_30 (fx_inp h15) dX12_say_61 (fun H locs hP hS => ?_)
        replace hP := fx_Pe eσ16 hP
        refine lv_iconst hx hb dX12_say_62 ki_1 ?_
        exact fx_zretf rfl hf hC hr hk hP hS dX12_say_63
      · replace hf := fx_it c7 hf
        refine lv_iconst hx hb dX12_say_26 ki_0 ?_
        exact fx_zretf rfl hf hC hr hk hP hS dX12_say_27
  exact main _ _ _ hP hS hl

set_option maxHeartbeats 4000000 in
set_option maxRecDepth 100000 in
theorem ctX12_isAsSaid (l : Launch) {a1 : Int32} {σ : FH} {v : Int32} (hf : fX12_isAsSaid a1 σ = some v) : fx_Mi l yX12_isAsSaid cX12_isAsSaid 3 (some .boolean) (0) LM (fun ad ec => [.ref (ad 0), .int a1]) σ v σ := by
  unfold fX12_isAsSaid at hf
  refine fx_mi' (own := RX12) rfl (by decide +kernel) ?_
  intro p e s m args below meth c D cy ad ec A hC hr hk hP hS
  have hx := hC.1
  have hb := hC.2.1
  have hl := lv_entry ([.ref (ad 0), .int a1]) (n := 3) (Nat.le_of_ble_eq_true rfl)
  show W _ _ _ _ _ _ _ _ _ _ _ _ _ _ _ (entryFrame m ([.ref (ad 0), .int a1] : List Value).toArray 3)
  rw [lg_entry_eq]
  generalize (lg_sl ([.ref (ad 0), .int a1]) ++ List.replicate (3 - (lg_sl ([.ref (ad 0), .int a1])).length) Slot.unset).toArray = ls at hl ⊢
  have hl : lv_has ls 3 [(0, .ref (ad 0)), (1, .int a1)] := hl
  have main : ∀ (H : Heap) (locs : List Loc) (ls : Array Slot), fx_P D cy LM ad σ H → va_S A s.heap H locs → lv_has ls 3 [(0, .ref (ad 0)), (1, .int a1)] → W p l e (fx_R (0)) s m args below meth c H locs 0 0 (fx_Qi D cy LM ad A below args s v σ) (F0 m 0 ls []) := by
    intro H locs ls hP hS hl
    refine lv_iconst hx hb dX12_isAsSaid_0 ki_0 ?_
    refine lv_istore_n (lv' := [(2, .int 0), (0, .ref (ad 0)), (1, .int a1)]) hx hb dX12_isAsSaid_1 rfl hl (by decide) rfl (fun ls hl => ?_)
    obtain ⟨K1, hK1, hf⟩ := fxL_e hf
    have k_K1 : ∀  (H : Heap) (locs : List Loc) (ls : Array Slot), fx_P D cy LM ad σ H → va_S A s.heap H locs → lv_has ls 3 [] → K1 = some v → W p l e (fx_R (0)) s m args below meth c H locs 0 0 (fx_Qi D cy LM ad A below args s v σ) (F0 m 45 ls []) := by
      intro  H locs ls hP hS hl hf
      replace hf := hK1.symm.trans hf
      refine lv_iconst hx hb dX12_isAsSaid_45 ki_1 ?_
      exact fx_zretp rfl hf hC hr hk hP hS dX12_isAsSaid_46
    have L11 : ∀ (n4 : Nat) (w2 : Int32) (H : Heap) (locs : List Loc) (ls : Array Slot), fx_P D cy LM ad σ H → va_S A s.heap H locs → lv_has ls 3 [(0, .ref (ad 0)), (1, .int a1), (2, .int w2)] → fX12_isAsSaid_2 a1 σ K1 n4 w2 = some v → W p l e (fx_R (0)) s m args below meth c H locs 0 0 (fx_Qi D cy LM ad A below args s v σ) (F0 m 2 ls []) := by
      intro n4
      induction n4 with
      | zero =>
        intro w2 H locs ls hP hS hl hf
        rw [fX12_isAsSaid_2] at hf
        cases hf
      | succ n4 ih3 =>
        intro w2 H locs ls hP hS hl hf
        rw [fX12_isAsSaid_2] at hf
        refine lv_iload_n hx hb dX12_isAsSaid_2 rfl (lv_at hl 2 rfl) ?_
        refine lv_aload_n hx hb dX12_isAsSaid_3 rfl (lv_at hl 0 rfl) ?_
        refine gf_X12_99 (v := .ref (ad 30)) hC hP kM_0 rfl dX12_isAsSaid_4 ?_
        refine lv_iconst hx hb dX12_isAsSaid_7 ki_0 ?_
        obtain ⟨h5, hf⟩ := fxG_e hf
        refine fx_iald hC hP kM_30 (fx_inp h5) dX12_isAsSaid_8 ?_
        refine lv_icmp_ge (tgt := 45) hx hb dX12_isAsSaid_9 (by decide) (fun c6 => ?_) (fun c6 => ?_)
        · replace hf := fx_it c6 hf
          exact k_K1  _ _ _ hP hS (lv_sub hl [] rfl) hf
        · replace hf := fx_ie c6 hf
          refine lv_aload_n hx hb dX12_isAsSaid_12 rfl (lv_at hl 0 rfl) ?_
          refine gf_X12_126 (v := .ref (ad 39)) hC hP kM_0 rfl dX12_isAsSaid_13 ?_
          refine lv_bipush hx hb dX12_isAsSaid_16 kb_31 ?_
          refine lv_iload_n hx hb dX12_isAsSaid_18 rfl (lv_at hl 1 rfl) ?_
          refine lv_imul hx hb dX12_isAsSaid_19 ?_
          refine lv_aload_n hx hb dX12_isAsSaid_20 rfl (lv_at hl 0 rfl) ?_
          refine gf_X12_102 (v := .ref (ad 31)) hC hP kM_0 rfl dX12_isAsSaid_21 ?_
          refine lv_iload_n hx hb dX12_isAsSaid_24 rfl (lv_at hl 2 rfl) ?_
          obtain ⟨h7, hf⟩ := fxG_e hf
          refine fx_iald hC hP kM_31 (fx_inp h7) dX12_isAsSaid_25 ?_
          refine lv_iadd hx hb dX12_isAsSaid_26 ?_
          obtain ⟨h8, hf⟩ := fxG_e hf
          refine fx_zald hC hP kM_39 (fx_inp h8) dX12_isAsSaid_27 ?_
          refine lv_aload_n hx hb dX12_isAsSaid_28 rfl (lv_at hl 0 rfl) ?_
          refine gf_X12_105 (v := .ref (ad 32)) hC hP kM_0 rfl dX12_isAsSaid_29 ?_
          refine lv_iload_n hx hb dX12_isAsSaid_32 rfl (lv_at hl 2 rfl) ?_
          obtain ⟨h9, hf⟩ := fxG_e hf
          refine fx_zald hC hP kM_32 (fx_inp h9) dX12_isAsSaid_33 ?_
          refine lv_icmp_eq (tgt := 39) hx hb dX12_isAsSaid_34 (by decide) (fun c10 => ?_) (fun c10 => ?_)
          · replace hf := fx_it c10 hf
            refine lv_iinc (v := (w2 + 1)) (lv' := [(2, .int (w2 + 1)), (0, .ref (ad 0)), (1, .int a1)]) hx hb dX12_isAsSaid_39 hl (k := 2) rfl (congrArg (fun z => w2 + z) ki_1) (by decide) rfl (fun ls hl => ?_)
            refine lv_goto (tgt := 2) hx hb dX12_isAsSaid_42 (by decide) ?_
            exact ih3 (w2 + 1) _ _ _ hP hS (lv_sub hl [1, 2, 0] rfl) hf
          · replace hf := fx_ie c10 hf
            refine lv_iconst hx hb dX12_isAsSaid_37 ki_0 ?_
            exact fx_zretp rfl hf hC hr hk hP hS dX12_isAsSaid_38
    exact L11 FU 0 _ _ _ hP hS (lv_sub hl [1, 2, 0] rfl) hf
  exact main _ _ _ hP hS hl

set_option maxHeartbeats 4000000 in
set_option maxRecDepth 100000 in
theorem ctX12_wholes (l : Launch) {a1 : Int32} {σ σ' : FH} {v : Int32} (hf : fX12_wholes a1 σ = some (v, σ')) : fx_Mi l yX12_wholes cX12_wholes 6 (some .int) (5) LM (fun ad ec => [.ref (ad 0), .int a1]) σ v σ' := by
  unfold fX12_wholes at hf
  refine fx_mi' (own := RX12) rfl (by decide +kernel) ?_
  intro p e s m args below meth c D cy ad ec A hC hr hk hP hS
  have hx := hC.1
  have hb := hC.2.1
  have hl := lv_entry ([.ref (ad 0), .int a1]) (n := 6) (Nat.le_of_ble_eq_true rfl)
  show W _ _ _ _ _ _ _ _ _ _ _ _ _ _ _ (entryFrame m ([.ref (ad 0), .int a1] : List Value).toArray 6)
  rw [lg_entry_eq]
  generalize (lg_sl ([.ref (ad 0), .int a1]) ++ List.replicate (6 - (lg_sl ([.ref (ad 0), .int a1])).length) Slot.unset).toArray = ls at hl ⊢
  have hl : lv_has ls 6 [(0, .ref (ad 0)), (1, .int a1)] := hl
  have main : ∀ (H : Heap) (locs : List Loc) (ls : Array Slot), fx_P D cy LM ad σ H → va_S A s.heap H locs → lv_has ls 6 [(0, .ref (ad 0)), (1, .int a1)] → W p l e (fx_R (5)) s m args below meth c H locs 0 0 (fx_Qi D cy LM ad A below args s v σ') (F0 m 0 ls []) := by
    intro H locs ls hP hS hl
    refine lv_aload_n hx hb dX12_wholes_0 rfl (lv_at hl 0 rfl) ?_
    refine lv_iconst hx hb dX12_wholes_1 ki_0 ?_
    obtain ⟨σ1, eσ1, hf⟩ := fxL_e hf
    refine pf_X12_133 hC hP hS kM_0 dX12_wholes_2 (fun H locs hP hS => ?_)
    replace hP := fx_Pe eσ1 hP
    refine lv_iload_n hx hb dX12_wholes_5 rfl (lv_at hl 1 rfl) ?_
    refine lv_iconst hx hb dX12_wholes_6 ki_0 ?_
    refine lv_iconst hx hb dX12_wholes_7 ki_2 ?_
    obtain ⟨r3, hc2, hf⟩ := fxBP_e hf
    refine fx_ci hC hS (fx_runS (As := [.int a1, .int 0, .int 2]) (rest := []) hC hP hS (ctX12_within l hc2 D cy ad ec _) kMS_X12_253 kC_X12_within hd_X12_within.2 rfl ⟨(Nat.le_of_ble_eq_true rfl), (Nat.le_of_ble_eq_true rfl)⟩ ⟨Nat.le_refl 0, Nat.le_refl 0⟩ hl.1 (Nat.le_of_ble_eq_true rfl) rfl dX12_wholes_8) (fun H locs hP hS => ?_)
    refine lv_if_ne (tgt := 16) hx hb dX12_wholes_11 (by decide) (fun c5 => ?_) (fun c5 => ?_)
    · replace hf := fx_ie c5 hf
      refine lv_aload_n hx hb dX12_wholes_16 rfl (lv_at hl 0 rfl) ?_
      obtain ⟨σ8, hc6, hf⟩ := fxBV_e hf
      refine fx_cv hC hS (fx_runV (i := 0) (As := []) (rest := []) hC hP hS (ctX12_laysHalves l hc6 D cy ad ec _) kM_0 (by decide) rfl kMV_X12_451 kC_X12_laysHalves hd_X12_laysHalves rfl ⟨(Nat.le_of_ble_eq_true rfl), (Nat.le_of_ble_eq_true rfl)⟩ ⟨Nat.le_refl 0, Nat.le_refl 0⟩ hl.1 (Nat.le_of_ble_eq_true rfl) rfl dX12_wholes_17) (fun H locs hP hS => ?_)
      refine lv_iconst hx hb dX12_wholes_20 ki_0 ?_
      refine lv_istore_n (lv' := [(2, .int 0), (0, .ref (ad 0)), (1, .int a1)]) hx hb dX12_wholes_21 rfl hl (by decide) rfl (fun ls hl => ?_)
      refine lv_iconst hx hb dX12_wholes_22 ki_m1 ?_
      refine lv_istore_n (lv' := [(3, .int (-1)), (2, .int 0), (0, .ref (ad 0)), (1, .int a1)]) hx hb dX12_wholes_23 rfl hl (by decide) rfl (fun ls hl => ?_)
      refine lv_iconst hx hb dX12_wholes_24 ki_m1 ?_
      refine lv_istore (lv' := [(4, .int (-1)), (3, .int (-1)), (2, .int 0), (0, .ref (ad 0)), (1, .int a1)]) hx hb dX12_wholes_25 hl (by decide) rfl (fun ls hl => ?_)
      refine lv_iconst hx hb dX12_wholes_27 ki_2 ?_
      refine lv_istore (lv' := [(5, .int 2), (4, .int (-1)), (3, .int (-1)), (2, .int 0), (0, .ref (ad 0)), (1, .int a1)]) hx hb dX12_wholes_28 hl (by decide) rfl (fun ls hl => ?_)
      obtain ⟨K9, hK9, hf⟩ := fxL_e hf
      have k_K9 : ∀ (x10 : Int32) (x11 : Int32) (x12 : Int32) (H : Heap) (locs : List Loc) (ls : Array Slot), fx_P D cy LM ad σ8 H → va_S A s.heap H locs → lv_has ls 6 [(1, .int a1), (2, .int x10), (3, .int x11), (4, .int x12)] → K9 x10 x11 x12 = some (v, σ') → W p l e (fx_R (5)) s m args below meth c H locs 0 0 (fx_Qi D cy LM ad A below args s v σ') (F0 m 69 ls []) := by
        intro x10 x11 x12 H locs ls hP hS hl hf
        replace hf := fxk3 hK9 hf
        refine lv_iload_n hx hb dX12_wholes_69 rfl (lv_at hl 0 rfl) ?_
        obtain ⟨v13, ev13, hf⟩ := fxL_e hf
        have j_v13 : ∀ (z14 : Int32), z14 = ((if a1 = 0 then x10 else (if a1 = 1 then x11 else x12)) : Int32) → ∀ (ls : Array Slot), lv_has ls 6 [] → W p l e (fx_R (5)) s m args below meth c H locs 0 0 (fx_Qi D cy LM ad A below args s v σ') (F0 m 88 ls [.int z14]) := by
          intro z14 hz14 ls hl
          obtain rfl : v13 = z14 := ev13.trans hz14.symm
          exact fx_iretf hf hC hr hk hP hS dX12_wholes_88
        refine lv_if_ne (tgt := 77) hx hb dX12_wholes_70 (by decide) (fun c15 => ?_) (fun c15 => ?_)
        · refine lv_iload_n hx hb dX12_wholes_77 rfl (lv_at hl 0 rfl) ?_
          refine lv_iconst hx hb dX12_wholes_78 ki_1 ?_
          refine lv_icmp_ne (tgt := 86) hx hb dX12_wholes_79 (by decide) (fun c16 => ?_) (fun c16 => ?_)
          · refine lv_iload hx hb dX12_wholes_86 (lv_at hl 3 rfl) ?_
            exact j_v13 x12 ((if_neg c15).trans (if_neg c16)).symm ls (lv_sub hl [] rfl)
          · refine lv_iload_n hx hb dX12_wholes_82 rfl (lv_at hl 2 rfl) ?_
            refine lv_goto (tgt := 88) hx hb dX12_wholes_83 (by decide) ?_
            exact j_v13 x11 ((if_neg c15).trans (if_pos c16)).symm ls (lv_sub hl [] rfl)
        · refine lv_iload_n hx hb dX12_wholes_73 rfl (lv_at hl 1 rfl) ?_
          refine lv_goto (tgt := 88) hx hb dX12_wholes_74 (by decide) ?_
          exact j_v13 x10 (if_pos c15).symm ls (lv_sub hl [] rfl)
      have L31 : ∀ (n22 : Nat) (w17 : Int32) (w18 : Int32) (w19 : Int32) (w20 : Int32) (H : Heap) (locs : List Loc) (ls : Array Slot), fx_P D cy LM ad σ8 H → va_S A s.heap H locs → lv_has ls 6 [(0, .ref (ad 0)), (1, .int a1), (2, .int w17), (3, .int w18), (4, .int w19), (5, .int w20)] → fX12_wholes_30 σ8 K9 n22 w17 w18 w19 w20 = some (v, σ') → W p l e (fx_R (5)) s m args below meth c H locs 0 0 (fx_Qi D cy LM ad A below args s v σ') (F0 m 30 ls []) := by
        intro n22
        induction n22 with
        | zero =>
          intro w17 w18 w19 w20 H locs ls hP hS hl hf
          rw [fX12_wholes_30] at hf
          cases hf
        | succ n22 ih21 =>
          intro w17 w18 w19 w20 H locs ls hP hS hl hf
          rw [fX12_wholes_30] at hf
          refine lv_iload hx hb dX12_wholes_30 (lv_at hl 5 rfl) ?_
          refine lv_bipush hx hb dX12_wholes_32 kb_61 ?_
          refine lv_icmp_ge (tgt := 69) hx hb dX12_wholes_34 (by decide) (fun c23 => ?_) (fun c23 => ?_)
          · replace hf := fx_it c23 hf
            exact k_K9 w17 w18 w19 _ _ _ hP hS (lv_sub hl [1, 2, 3, 4] rfl) hf
          · replace hf := fx_ie c23 hf
            refine lv_aload_n hx hb dX12_wholes_37 rfl (lv_at hl 0 rfl) ?_
            refine lv_iload hx hb dX12_wholes_38 (lv_at hl 5 rfl) ?_
            obtain ⟨r25, hc24, hf⟩ := fxBP_e hf
            refine fx_ci hC hS (fx_runV (i := 0) (As := [.int w20]) (rest := []) hC hP hS (ctX12_isAsSaid l hc24 D cy ad ec _) kM_0 (by decide) rfl kMV_X12_454 kC_X12_isAsSaid hd_X12_isAsSaid rfl ⟨(Nat.le_of_ble_eq_true rfl), (Nat.le_of_ble_eq_true rfl)⟩ ⟨Nat.le_refl 0, Nat.le_refl 0⟩ hl.1 (Nat.le_of_ble_eq_true rfl) rfl dX12_wholes_40) (fun H locs hP hS => ?_)
            refine lv_if_ne (tgt := 49) hx hb dX12_wholes_43 (by decide) (fun c27 => ?_) (fun c27 => ?_)
            · replace hf := fx_ie c27 hf
              refine lv_iinc (v := (w17 + 1)) (lv' := [(2, .int (w17 + 1)), (0, .ref (ad 0)), (1, .int a1), (3, .int w18), (4, .int w19), (5, .int w20)]) hx hb dX12_wholes_49 hl (k := 2) rfl (congrArg (fun z => w17 + z) ki_1) (by decide) rfl (fun ls hl => ?_)
              refine lv_iload_n hx hb dX12_wholes_52 rfl (lv_at hl 3 rfl) ?_
              obtain ⟨v28, ev28, hf⟩ := fxL_e hf
              have j_v28 : ∀ (z29 : Int32), z29 = ((if 0 ≤ w18 then w18 else w20) : Int32) → ∀ (ls : Array Slot), lv_has ls 6 [(0, .ref (ad 0)), (1, .int a1), (2, .int (w17 + 1)), (3, .int z29), (5, .int w20)] → W p l e (fx_R (5)) s m args below meth c H locs 0 0 (fx_Qi D cy LM ad A below args s v σ') (F0 m 59 ls []) := by
                intro z29 hz29 ls hl
                obtain rfl : v28 = z29 := ev28.trans hz29.symm
                refine lv_iload hx hb dX12_wholes_59 (lv_at hl 4 rfl) ?_
                refine lv_istore (lv' := [(4, .int w20), (0, .ref (ad 0)), (1, .int a1), (2, .int (w17 + 1)), (3, .int v28), (5, .int w20)]) hx hb dX12_wholes_61 hl (by decide) rfl (fun ls hl => ?_)
                refine lv_iinc (v := (w20 + 1)) (lv' := [(5, .int (w20 + 1)), (4, .int w20), (0, .ref (ad 0)), (1, .int a1), (2, .int (w17 + 1)), (3, .int v28)]) hx hb dX12_wholes_63 hl (k := 5) rfl (congrArg (fun z => w20 + z) ki_1) (by decide) rfl (fun ls hl => ?_)
                refine lv_goto (tgt := 30) hx hb dX12_wholes_66 (by decide) ?_
                exact ih21 (w17 + 1) v28 w20 (w20 + 1) _ _ _ hP hS (lv_sub hl [2, 3, 4, 5, 1, 0] rfl) hf
              refine lv_if_ge (tgt := 59) hx hb dX12_wholes_53 (by decide) (fun c30 => ?_) (fun c30 => ?_)
              · exact j_v28 w18 (if_pos c30).symm ls (lv_sub hl [1, 2, 0, 3, 5] rfl)
              · refine lv_iload hx hb dX12_wholes_56 (lv_at hl 5 rfl) ?_
                refine lv_istore_n (lv' := [(3, .int w20), (2, .int (w17 + 1)), (0, .ref (ad 0)), (1, .int a1), (4, .int w19), (5, .int w20)]) hx hb dX12_wholes_58 rfl hl (by decide) rfl (fun ls hl => ?_)
                exact j_v28 w20 (if_neg c30).symm ls (lv_sub hl [2, 3, 1, 0, 5] rfl)
            · replace hf := fx_it c27 hf
              refine lv_goto (tgt := 63) hx hb dX12_wholes_46 (by decide) ?_
              refine lv_iinc (v := (w20 + 1)) (lv' := [(5, .int (w20 + 1)), (0, .ref (ad 0)), (1, .int a1), (2, .int w17), (3, .int w18), (4, .int w19)]) hx hb dX12_wholes_63 hl (k := 5) rfl (congrArg (fun z => w20 + z) ki_1) (by decide) rfl (fun ls hl => ?_)
              refine lv_goto (tgt := 30) hx hb dX12_wholes_66 (by decide) ?_
              exact ih21 w17 w18 w19 (w20 + 1) _ _ _ hP hS (lv_sub hl [1, 2, 3, 4, 5, 0] rfl) hf
      exact L31 FU 0 (-1) (-1) 2 _ _ _ hP hS (lv_sub hl [4, 5, 3, 2, 1, 0] rfl) hf
    · replace hf := fx_it c5 hf
      refine lv_iconst hx hb dX12_wholes_14 ki_m1 ?_
      exact fx_iretf hf hC hr hk hP hS dX12_wholes_15
  exact main _ _ _ hP hS hl

set_option maxHeartbeats 4000000 in
set_option maxRecDepth 100000 in
theorem ctX12_ask (l : Launch) {σ σ' : FH} {v : Int32} (hf : fX12_ask σ = some (v, σ')) : fx_Mi l yX12_ask cX12_ask 7 (some .int) (6) LM (fun ad ec => [.ref (ad 0)]) σ v σ' := by
  unfold fX12_ask at hf
  refine fx_mi' (own := RX12) rfl (by decide +kernel) ?_
  intro p e s m args below meth c D cy ad ec A hC hr hk hP hS
  have hx := hC.1
  have hb := hC.2.1
  have hl := lv_entry ([.ref (ad 0)]) (n := 7) (Nat.le_of_ble_eq_true rfl)
  show W _ _ _ _ _ _ _ _ _ _ _ _ _ _ _ (entryFrame m ([.ref (ad 0)] : List Value).toArray 7)
  rw [lg_entry_eq]
  generalize (lg_sl ([.ref (ad 0)]) ++ List.replicate (7 - (lg_sl ([.ref (ad 0)])).length) Slot.unset).toArray = ls at hl ⊢
  have hl : lv_has ls 7 [(0, .ref (ad 0))] := hl
  have main : ∀ (H : Heap) (locs : List Loc) (ls : Array Slot), fx_P D cy LM ad σ H → va_S A s.heap H locs → lv_has ls 7 [(0, .ref (ad 0))] → W p l e (fx_R (6)) s m args below meth c H locs 0 0 (fx_Qi D cy LM ad A below args s v σ') (F0 m 0 ls []) := by
    intro H locs ls hP hS hl
    refine lv_aload_n hx hb dX12_ask_0 rfl (lv_at hl 0 rfl) ?_
    refine lv_iconst hx hb dX12_ask_1 ki_0 ?_
    obtain ⟨σ1, eσ1, hf⟩ := fxL_e hf
    refine pf_X12_133 hC hP hS kM_0 dX12_ask_2 (fun H locs hP hS => ?_)
    replace hP := fx_Pe eσ1 hP
    refine lv_aload_n hx hb dX12_ask_5 rfl (lv_at hl 0 rfl) ?_
    refine lv_iconst hx hb dX12_ask_6 ki_0 ?_
    obtain ⟨r3, σ4, hc2, hf⟩ := fxBI_e hf
    refine fx_ci hC hS (fx_runV (i := 0) (As := [.int 0]) (rest := []) hC hP hS (ctX12_wholes l hc2 D cy ad ec _) kM_0 (by decide) rfl kMV_X12_457 kC_X12_wholes hd_X12_wholes rfl ⟨(Nat.le_of_ble_eq_true rfl), (Nat.le_of_ble_eq_true rfl)⟩ ⟨Nat.le_refl 0, Nat.le_refl 0⟩ hl.1 (Nat.le_of_ble_eq_true rfl) rfl dX12_ask_7) (fun H locs hP hS => ?_)
    refine lv_istore_n (lv' := [(1, .int r3), (0, .ref (ad 0))]) hx hb dX12_ask_10 rfl hl (by decide) rfl (fun ls hl => ?_)
    refine lv_iload_n hx hb dX12_ask_11 rfl (lv_at hl 0 rfl) ?_
    refine lv_istore_n (lv' := [(2, .int r3), (1, .int r3), (0, .ref (ad 0))]) hx hb dX12_ask_12 rfl hl (by decide) rfl (fun ls hl => ?_)
    refine lv_iconst hx hb dX12_ask_13 ki_m1 ?_
    refine lv_istore_n (lv' := [(3, .int (-1)), (2, .int r3), (1, .int r3), (0, .ref (ad 0))]) hx hb dX12_ask_14 rfl hl (by decide) rfl (fun ls hl => ?_)
    refine lv_iconst hx hb dX12_ask_15 ki_0 ?_
    refine lv_istore (lv' := [(4, .int 0), (3, .int (-1)), (2, .int r3), (1, .int r3), (0, .ref (ad 0))]) hx hb dX12_ask_16 hl (by decide) rfl (fun ls hl => ?_)
    obtain ⟨K5, hK5, hf⟩ := fxL_e hf
    have k_K5 : ∀ (x6 : Int32) (H : Heap) (locs : List Loc) (ls : Array Slot), fx_P D cy LM ad σ4 H → va_S A s.heap H locs → lv_has ls 7 [(3, .int x6)] → K5 x6 = some (v, σ') → W p l e (fx_R (6)) s m args below meth c H locs 0 0 (fx_Qi D cy LM ad A below args s v σ') (F0 m 111 ls []) := by
      intro x6 H locs ls hP hS hl hf
      replace hf := fxk1 hK5 hf
      refine lv_iload_n hx hb dX12_ask_111 rfl (lv_at hl 0 rfl) ?_
      exact fx_iretf hf hC hr hk hP hS dX12_ask_112
    have L32 : ∀ (n11 : Nat) (w7 : Int32) (w8 : Int32) (w9 : Int32) (H : Heap) (locs : List Loc) (ls : Array Slot), fx_P D cy LM ad σ4 H → va_S A s.heap H locs → lv_has ls 7 [(0, .ref (ad 0)), (1, .int r3), (2, .int w7), (3, .int w8), (4, .int w9)] → fX12_ask_18 r3 σ4 K5 n11 w7 w8 w9 = some (v, σ') → W p l e (fx_R (6)) s m args below meth c H locs 0 0 (fx_Qi D cy LM ad A below args s v σ') (F0 m 18 ls []) := by
      intro n11
      induction n11 with
      | zero =>
        intro w7 w8 w9 H locs ls hP hS hl hf
        rw [fX12_ask_18] at hf
        cases hf
      | succ n11 ih10 =>
        intro w7 w8 w9 H locs ls hP hS hl hf
        rw [fX12_ask_18] at hf
        refine lv_iload hx hb dX12_ask_18 (lv_at hl 4 rfl) ?_
        refine lv_bipush hx hb dX12_ask_20 kb_30 ?_
        refine lv_icmp_gt (tgt := 111) hx hb dX12_ask_22 (by decide) (fun c12 => ?_) (fun c12 => ?_)
        · replace hf := fx_it c12 hf
          exact k_K5 w8 _ _ _ hP hS (lv_sub hl [3] rfl) hf
        · replace hf := fx_ie c12 hf
          refine lv_iconst hx hb dX12_ask_25 ki_0 ?_
          refine lv_istore (lv' := [(5, .int 0), (0, .ref (ad 0)), (1, .int r3), (2, .int w7), (3, .int w8), (4, .int w9)]) hx hb dX12_ask_26 hl (by decide) rfl (fun ls hl => ?_)
          refine lv_iconst hx hb dX12_ask_28 ki_2 ?_
          refine lv_istore (lv' := [(6, .int 2), (5, .int 0), (0, .ref (ad 0)), (1, .int r3), (2, .int w7), (3, .int w8), (4, .int w9)]) hx hb dX12_ask_29 hl (by decide) rfl (fun ls hl => ?_)
          obtain ⟨K13, hK13, hf⟩ := fxL_e hf
          have k_K13 : ∀ (x14 : Int32) (H : Heap) (locs : List Loc) (ls : Array Slot), fx_P D cy LM ad σ4 H → va_S A s.heap H locs → lv_has ls 7 [(0, .ref (ad 0)), (1, .int r3), (2, .int w7), (3, .int w8), (4, .int w9), (5, .int x14)] → K13 x14 = some (v, σ') → W p l e (fx_R (6)) s m args below meth c H locs 0 0 (fx_Qi D cy LM ad A below args s v σ') (F0 m 79 ls []) := by
            intro x14 H locs ls hP hS hl hf
            replace hf := fxk1 hK13 hf
            refine lv_iload hx hb dX12_ask_79 (lv_at hl 5 rfl) ?_
            refine lv_iload_n hx hb dX12_ask_81 rfl (lv_at hl 1 rfl) ?_
            refine lv_iload hx hb dX12_ask_82 (lv_at hl 5 rfl) ?_
            refine lv_isub hx hb dX12_ask_84 ?_
            refine fx_max hC hl.1 kL_X12_360 kMt_max kMi kMc_max (Nat.le_of_ble_eq_true rfl) (Nat.le_of_ble_eq_true rfl) ⟨Nat.le_refl 0, Nat.le_refl 0⟩ dX12_ask_85 ?_
            obtain ⟨v15, ev15, hf⟩ := fxL_e hf
            refine fx_ti ev15 ?_
            refine lv_istore (lv' := [(5, .int v15), (0, .ref (ad 0)), (1, .int r3), (2, .int w7), (3, .int w8), (4, .int w9)]) hx hb dX12_ask_88 hl (by decide) rfl (fun ls hl => ?_)
            refine lv_iload hx hb dX12_ask_90 (lv_at hl 0 rfl) ?_
            refine lv_iload_n hx hb dX12_ask_92 rfl (lv_at hl 3 rfl) ?_
            refine lv_icmp_lt (tgt := 99) hx hb dX12_ask_93 (by decide) (fun c16 => ?_) (fun c16 => ?_)
            · replace hf := fx_it c16 hf
              refine lv_iload hx hb dX12_ask_99 (lv_at hl 0 rfl) ?_
              refine lv_istore_n (lv' := [(2, .int v15), (5, .int v15), (0, .ref (ad 0)), (1, .int r3), (3, .int w8), (4, .int w9)]) hx hb dX12_ask_101 rfl hl (by decide) rfl (fun ls hl => ?_)
              refine lv_iload hx hb dX12_ask_102 (lv_at hl 5 rfl) ?_
              refine lv_istore_n (lv' := [(3, .int w9), (2, .int v15), (5, .int v15), (0, .ref (ad 0)), (1, .int r3), (4, .int w9)]) hx hb dX12_ask_104 rfl hl (by decide) rfl (fun ls hl => ?_)
              refine lv_iinc (v := (w9 + 1)) (lv' := [(4, .int (w9 + 1)), (3, .int w9), (2, .int v15), (5, .int v15), (0, .ref (ad 0)), (1, .int r3)]) hx hb dX12_ask_105 hl (k := 5) rfl (congrArg (fun z => w9 + z) ki_1) (by decide) rfl (fun ls hl => ?_)
              refine lv_goto (tgt := 18) hx hb dX12_ask_108 (by decide) ?_
              exact ih10 v15 w9 (w9 + 1) _ _ _ hP hS (lv_sub hl [4, 5, 2, 1, 0] rfl) hf
            · replace hf := fx_ie c16 hf
              refine lv_goto (tgt := 105) hx hb dX12_ask_96 (by decide) ?_
              refine lv_iinc (v := (w9 + 1)) (lv' := [(4, .int (w9 + 1)), (5, .int v15), (0, .ref (ad 0)), (1, .int r3), (2, .int w7), (3, .int w8)]) hx hb dX12_ask_105 hl (k := 5) rfl (congrArg (fun z => w9 + z) ki_1) (by decide) rfl (fun ls hl => ?_)
              refine lv_goto (tgt := 18) hx hb dX12_ask_108 (by decide) ?_
              exact ih10 w7 w8 (w9 + 1) _ _ _ hP hS (lv_sub hl [2, 3, 4, 5, 0] rfl) hf
          have L31 : ∀ (n20 : Nat) (w17 : Int32) (w18 : Int32) (H : Heap) (locs : List Loc) (ls : Array Slot), fx_P D cy LM ad σ4 H → va_S A s.heap H locs → lv_has ls 7 [(0, .ref (ad 0)), (1, .int r3), (2, .int w7), (3, .int w8), (4, .int w9), (5, .int w17), (6, .int w18)] → fX12_ask_31 σ4 w9 K13 n20 w17 w18 = some (v, σ') → W p l e (fx_R (6)) s m args below meth c H locs 0 0 (fx_Qi D cy LM ad A below args s v σ') (F0 m 31 ls []) := by
            intro n20
            induction n20 with
            | zero =>
              intro w17 w18 H locs ls hP hS hl hf
              rw [fX12_ask_31] at hf
              cases hf
            | succ n20 ih19 =>
              intro w17 w18 H locs ls hP hS hl hf
              rw [fX12_ask_31] at hf
              refine lv_iload hx hb dX12_ask_31 (lv_at hl 6 rfl) ?_
              refine lv_bipush hx hb dX12_ask_33 kb_61 ?_
              refine lv_icmp_ge (tgt := 79) hx hb dX12_ask_35 (by decide) (fun c21 => ?_) (fun c21 => ?_)
              · replace hf := fx_it c21 hf
                exact k_K13 w17 _ _ _ hP hS (lv_sub hl [0, 1, 2, 3, 4, 5] rfl) hf
              · replace hf := fx_ie c21 hf
                refine lv_iload hx hb dX12_ask_38 (lv_at hl 5 rfl) ?_
                refine lv_aload_n hx hb dX12_ask_40 rfl (lv_at hl 0 rfl) ?_
                refine lv_iload hx hb dX12_ask_41 (lv_at hl 6 rfl) ?_
                obtain ⟨r23, hc22, hf⟩ := fxBP_e hf
                refine fx_ci hC hS (fx_runV (i := 0) (As := [.int w18]) (rest := [.int w17]) hC hP hS (ctX12_isAsSaid l hc22 D cy ad ec _) kM_0 (by decide) rfl kMV_X12_454 kC_X12_isAsSaid hd_X12_isAsSaid rfl ⟨(Nat.le_of_ble_eq_true rfl), (Nat.le_of_ble_eq_true rfl)⟩ ⟨Nat.le_refl 0, Nat.le_refl 0⟩ hl.1 (Nat.le_of_ble_eq_true rfl) rfl dX12_ask_43) (fun H locs hP hS => ?_)
                refine lv_if_eq (tgt := 69) hx hb dX12_ask_46 (by decide) (fun c25 => ?_) (fun c25 => ?_)
                · replace hf := fx_it c25 hf
                  refine lv_iconst hx hb dX12_ask_69 ki_0 ?_
                  refine lv_iadd hx hb dX12_ask_70 ?_
                  obtain ⟨v26, ev26, hf⟩ := fxL_e hf
                  refine fx_ti ev26 ?_
                  refine lv_istore (lv' := [(5, .int v26), (0, .ref (ad 0)), (1, .int r3), (2, .int w7), (3, .int w8), (4, .int w9), (6, .int w18)]) hx hb dX12_ask_71 hl (by decide) rfl (fun ls hl => ?_)
                  refine lv_iinc (v := (w18 + 1)) (lv' := [(6, .int (w18 + 1)), (5, .int v26), (0, .ref (ad 0)), (1, .int r3), (2, .int w7), (3, .int w8), (4, .int w9)]) hx hb dX12_ask_73 hl (k := 6) rfl (congrArg (fun z => w18 + z) ki_1) (by decide) rfl (fun ls hl => ?_)
                  refine lv_goto (tgt := 31) hx hb dX12_ask_76 (by decide) ?_
                  exact ih19 v26 (w18 + 1) _ _ _ hP hS (lv_sub hl [2, 3, 4, 5, 6, 1, 0] rfl) hf
                · replace hf := fx_ie c25 hf
                  refine lv_aload_n hx hb dX12_ask_49 rfl (lv_at hl 0 rfl) ?_
                  refine gf_X12_126 (v := .ref (ad 39)) hC hP kM_0 rfl dX12_ask_50 ?_
                  refine lv_bipush hx hb dX12_ask_53 kb_31 ?_
                  refine lv_iload hx hb dX12_ask_55 (lv_at hl 6 rfl) ?_
                  refine lv_imul hx hb dX12_ask_57 ?_
                  refine lv_iload hx hb dX12_ask_58 (lv_at hl 4 rfl) ?_
                  refine lv_iadd hx hb dX12_ask_60 ?_
                  obtain ⟨h27, hf⟩ := fxG_e hf
                  refine fx_zald hC hP kM_39 (fx_inp h27) dX12_ask_61 ?_
                  refine lv_if_eq (tgt := 69) hx hb dX12_ask_62 (by decide) (fun c28 => ?_) (fun c28 => ?_)
                  · replace hf := fx_it c28 hf
                    refine lv_iconst hx hb dX12_ask_69 ki_0 ?_
                    refine lv_iadd hx hb dX12_ask_70 ?_
                    obtain ⟨v29, ev29, hf⟩ := fxL_e hf
                    refine fx_ti ev29 ?_
                    refine lv_istore (lv' := [(5, .int v29), (0, .ref (ad 0)), (1, .int r3), (2, .int w7), (3, .int w8), (4, .int w9), (6, .int w18)]) hx hb dX12_ask_71 hl (by decide) rfl (fun ls hl => ?_)
                    refine lv_iinc (v := (w18 + 1)) (lv' := [(6, .int (w18 + 1)), (5, .int v29), (0, .ref (ad 0)), (1, .int r3), (2, .int w7), (3, .int w8), (4, .int w9)]) hx hb dX12_ask_73 hl (k := 6) rfl (congrArg (fun z => w18 + z) ki_1) (by decide) rfl (fun ls hl => ?_)
                    refine lv_goto (tgt := 31) hx hb dX12_ask_76 (by decide) ?_
                    exact ih19 v29 (w18 + 1) _ _ _ hP hS (lv_sub hl [2, 3, 4, 5, 6, 1, 0] rfl) hf
                  · replace hf := fx_ie c28 hf
                    refine lv_iconst hx hb dX12_ask_65 ki_1 ?_
                    refine lv_goto (tgt := 70) hx hb dX12_ask_66 (by decide) ?_
                    refine lv_iadd hx hb dX12_ask_70 ?_
                    obtain ⟨v30, ev30, hf⟩ := fxL_e hf
                    refine fx_ti ev30 ?_
                    refine lv_istore (lv' := [(5, .int v30), (0, .ref (ad 0)), (1, .int r3), (2, .int w7), (3, .int w8), (4, .int w9), (6, .int w18)]) hx hb dX12_ask_71 hl (by decide) rfl (fun ls hl => ?_)
                    refine lv_iinc (v := (w18 + 1)) (lv' := [(6, .int (w18 + 1)), (5, .int v30), (0, .ref (ad 0)), (1, .int r3), (2, .int w7), (3, .int w8), (4, .int w9)]) hx hb dX12_ask_73 hl (k := 6) rfl (congrArg (fun z => w18 + z) ki_1) (by decide) rfl (fun ls hl => ?_)
                    refine lv_goto (tgt := 31) hx hb dX12_ask_76 (by decide) ?_
                    exact ih19 v30 (w18 + 1) _ _ _ hP hS (lv_sub hl [2, 3, 4, 5, 6, 1, 0] rfl) hf
          exact L31 FU 0 2 _ _ _ hP hS (lv_sub hl [2, 3, 4, 5, 6, 1, 0] rfl) hf
    exact L32 FU r3 (-1) 0 _ _ _ hP hS (lv_sub hl [4, 3, 2, 1, 0] rfl) hf
  exact main _ _ _ hP hS hl

set_option maxHeartbeats 4000000 in
set_option maxRecDepth 100000 in
theorem ctX12_chance (l : Launch) {a1 : Int32} {a2 : Int32} {a3 : Int32} {σ σ' : FH} {v : Int32} (hf : fX12_chance a1 a2 a3 σ = some (v, σ')) : fx_Mi l yX12_chance cX12_chance 14 (some .int) (6) LM (fun ad ec => [.ref (ad 0), .int a1, .int a2, .int a3]) σ v σ' := by
  unfold fX12_chance at hf
  refine fx_mi' (own := RX12) rfl (by decide +kernel) ?_
  intro p e s m args below meth c D cy ad ec A hC hr hk hP hS
  have hx := hC.1
  have hb := hC.2.1
  have hl := lv_entry ([.ref (ad 0), .int a1, .int a2, .int a3]) (n := 14) (Nat.le_of_ble_eq_true rfl)
  show W _ _ _ _ _ _ _ _ _ _ _ _ _ _ _ (entryFrame m ([.ref (ad 0), .int a1, .int a2, .int a3] : List Value).toArray 14)
  rw [lg_entry_eq]
  generalize (lg_sl ([.ref (ad 0), .int a1, .int a2, .int a3]) ++ List.replicate (14 - (lg_sl ([.ref (ad 0), .int a1, .int a2, .int a3])).length) Slot.unset).toArray = ls at hl ⊢
  have hl : lv_has ls 14 [(0, .ref (ad 0)), (1, .int a1), (2, .int a2), (3, .int a3)] := hl
  have main : ∀ (H : Heap) (locs : List Loc) (ls : Array Slot), fx_P D cy LM ad σ H → va_S A s.heap H locs → lv_has ls 14 [(0, .ref (ad 0)), (1, .int a1), (2, .int a2), (3, .int a3)] → W p l e (fx_R (6)) s m args below meth c H locs 0 0 (fx_Qi D cy LM ad A below args s v σ') (F0 m 0 ls []) := by
    intro H locs ls hP hS hl
    refine lv_aload_n hx hb dX12_chance_0 rfl (lv_at hl 0 rfl) ?_
    refine lv_iconst hx hb dX12_chance_1 ki_0 ?_
    obtain ⟨σ1, eσ1, hf⟩ := fxL_e hf
    refine pf_X12_133 hC hP hS kM_0 dX12_chance_2 (fun H locs hP hS => ?_)
    replace hP := fx_Pe eσ1 hP
    refine lv_aload_n hx hb dX12_chance_5 rfl (lv_at hl 0 rfl) ?_
    refine lv_iload_n hx hb dX12_chance_6 rfl (lv_at hl 1 rfl) ?_
    obtain ⟨r3, hc2, hf⟩ := fxBP_e hf
    refine fx_ci hC hS (fx_runV (i := 0) (As := [.int a1]) (rest := []) hC hP hS (ctX12_isWare l hc2 D cy ad ec _) kM_0 (by decide) rfl kMV_X12_392 kC_X12_isWare hd_X12_isWare rfl ⟨(Nat.le_of_ble_eq_true rfl), (Nat.le_of_ble_eq_true rfl)⟩ ⟨Nat.le_refl 0, Nat.le_refl 0⟩ hl.1 (Nat.le_of_ble_eq_true rfl) rfl dX12_chance_7) (fun H locs hP hS => ?_)
    refine lv_if_eq (tgt := 33) hx hb dX12_chance_10 (by decide) (fun c5 => ?_) (fun c5 => ?_)
    · replace hf := fx_it c5 hf
      refine lv_iconst hx hb dX12_chance_33 ki_m1 ?_
      exact fx_iretf hf hC hr hk hP hS dX12_chance_34
    · replace hf := fx_ie c5 hf
      refine lv_iload_n hx hb dX12_chance_13 rfl (lv_at hl 2 rfl) ?_
      refine lv_iconst hx hb dX12_chance_14 ki_1 ?_
      refine lv_bipush hx hb dX12_chance_15 kb_6 ?_
      obtain ⟨r7, hc6, hf⟩ := fxBP_e hf
      refine fx_ci hC hS (fx_runS (As := [.int a2, .int 1, .int 6]) (rest := []) hC hP hS (ctX12_within l hc6 D cy ad ec _) kMS_X12_253 kC_X12_within hd_X12_within.2 rfl ⟨(Nat.le_of_ble_eq_true rfl), (Nat.le_of_ble_eq_true rfl)⟩ ⟨Nat.le_refl 0, Nat.le_refl 0⟩ hl.1 (Nat.le_of_ble_eq_true rfl) rfl dX12_chance_17) (fun H locs hP hS => ?_)
      refine lv_if_eq (tgt := 33) hx hb dX12_chance_20 (by decide) (fun c9 => ?_) (fun c9 => ?_)
      · replace hf := fx_it c9 hf
        refine lv_iconst hx hb dX12_chance_33 ki_m1 ?_
        exact fx_iretf hf hC hr hk hP hS dX12_chance_34
      · replace hf := fx_ie c9 hf
        refine lv_iload_n hx hb dX12_chance_23 rfl (lv_at hl 3 rfl) ?_
        refine lv_iconst hx hb dX12_chance_24 ki_0 ?_
        refine lv_bipush hx hb dX12_chance_25 kb_10 ?_
        obtain ⟨r11, hc10, hf⟩ := fxBP_e hf
        refine fx_ci hC hS (fx_runS (As := [.int a3, .int 0, .int 10]) (rest := []) hC hP hS (ctX12_within l hc10 D cy ad ec _) kMS_X12_253 kC_X12_within hd_X12_within.2 rfl ⟨(Nat.le_of_ble_eq_true rfl), (Nat.le_of_ble_eq_true rfl)⟩ ⟨Nat.le_refl 0, Nat.le_refl 0⟩ hl.1 (Nat.le_of_ble_eq_true rfl) rfl dX12_chance_27) (fun H locs hP hS => ?_)
        refine lv_if_ne (tgt := 35) hx hb dX12_chance_30 (by decide) (fun c13 => ?_) (fun c13 => ?_)
        · replace hf := fx_ie c13 hf
          refine lv_lconst (v := 0) hx hb dX12_chance_35 rfl ?_
          refine lv_lstore (lv' := [(4, .long 0), (0, .ref (ad 0)), (1, .int a1), (2, .int a2), (3, .int a3)]) hx hb dX12_chance_36 hl (by decide) rfl (fun ls hl => ?_)
          refine lv_lconst (v := 1) hx hb dX12_chance_38 rfl ?_
          refine lv_lstore (lv' := [(6, .long 1), (4, .long 0), (0, .ref (ad 0)), (1, .int a1), (2, .int a2), (3, .int a3)]) hx hb dX12_chance_39 hl (by decide) rfl (fun ls hl => ?_)
          refine lv_iconst hx hb dX12_chance_41 ki_0 ?_
          refine lv_istore (lv' := [(8, .int 0), (6, .long 1), (4, .long 0), (0, .ref (ad 0)), (1, .int a1), (2, .int a2), (3, .int a3)]) hx hb dX12_chance_42 hl (by decide) rfl (fun ls hl => ?_)
          obtain ⟨K14, hK14, hf⟩ := fxL_e hf
          have k_K14 : ∀ (x15 : Int64) (H : Heap) (locs : List Loc) (ls : Array Slot), fx_P D cy LM ad σ1 H → va_S A s.heap H locs → lv_has ls 14 [(0, .ref (ad 0)), (1, .int a1), (2, .int a2), (3, .int a3), (4, .long 0), (6, .long x15)] → K14 x15 = some (v, σ') → W p l e (fx_R (6)) s m args below meth c H locs 0 0 (fx_Qi D cy LM ad A below args s v σ') (F0 m 64 ls []) := by
            intro x15 H locs ls hP hS hl hf
            replace hf := fxk1 hK14 hf
            refine lv_aload_n hx hb dX12_chance_64 rfl (lv_at hl 0 rfl) ?_
            refine gf_X12_108 (v := .ref (ad 33)) hC hP kM_0 rfl dX12_chance_65 ?_
            refine lv_iconst hx hb dX12_chance_68 ki_0 ?_
            refine lv_aload_n hx hb dX12_chance_69 rfl (lv_at hl 0 rfl) ?_
            refine gf_X12_114 (v := .ref (ad 35)) hC hP kM_0 rfl dX12_chance_70 ?_
            refine lv_iconst hx hb dX12_chance_73 ki_0 ?_
            obtain ⟨σ18, hc16, hf⟩ := fxBV_e hf
            refine fx_cv hC hS (fx_runS (As := [.ref (ad 33), .int 0, .ref (ad 35), .int 0]) (rest := []) hC hP hS (ctX12_copies l hc16 D cy ad ec _) kMS_X12_401 kC_X12_copies hd_X12_copies.2 rfl ⟨(Nat.le_of_ble_eq_true rfl), (Nat.le_of_ble_eq_true rfl)⟩ ⟨Nat.le_refl 0, Nat.le_refl 0⟩ hl.1 (Nat.le_of_ble_eq_true rfl) rfl dX12_chance_74) (fun H locs hP hS => ?_)
            refine lv_iconst hx hb dX12_chance_77 ki_0 ?_
            refine lv_istore (lv' := [(8, .int 0), (0, .ref (ad 0)), (1, .int a1), (2, .int a2), (3, .int a3), (4, .long 0), (6, .long x15)]) hx hb dX12_chance_78 hl (by decide) rfl (fun ls hl => ?_)
            obtain ⟨K19, hK19, hf⟩ := fxL_e hf
            have k_K19 : ∀ (x20 : Int64) (σ21 : FH) (H : Heap) (locs : List Loc) (ls : Array Slot), fx_P D cy LM ad σ21 H → va_S A s.heap H locs → lv_has ls 14 [(4, .long x20), (6, .long x15)] → K19 x20 σ21 = some (v, σ') → W p l e (fx_R (6)) s m args below meth c H locs 0 0 (fx_Qi D cy LM ad A below args s v σ') (F0 m 224 ls []) := by
              intro x20 σ21 H locs ls hP hS hl hf
              replace hf := fxk2 hK19 hf
              refine lv_lload hx hb dX12_chance_224 (lv_at hl 0 rfl) ?_
              refine lv_ldc2 (own := RX12) (v := 1000000) hx hb hC.2.2.2.1 (hC.2.2.2.2.1 _ kK_X12_442) dX12_chance_226 ?_
              refine lv_lmul hx hb dX12_chance_229 ?_
              refine lv_lload hx hb dX12_chance_230 (lv_at hl 1 rfl) ?_
              obtain ⟨h22, hf⟩ := fxG_e hf
              refine lv_ldiv hx hb dX12_chance_232 h22 ?_
              refine lv_l2i (v := (Int64.toInt32 ((x20 * 1000000) / x15))) hx hb dX12_chance_233 rfl ?_
              exact fx_iretf hf hC hr hk hP hS dX12_chance_234
            have L67 : ∀ (n27 : Nat) (w23 : Int64) (w24 : Int32) (σ25 : FH) (H : Heap) (locs : List Loc) (ls : Array Slot), fx_P D cy LM ad σ25 H → va_S A s.heap H locs → lv_has ls 14 [(0, .ref (ad 0)), (1, .int a1), (2, .int a2), (3, .int a3), (4, .long w23), (6, .long x15), (8, .int w24)] → fX12_chance_80 a1 a2 a3 K19 n27 w23 w24 σ25 = some (v, σ') → W p l e (fx_R (6)) s m args below meth c H locs 0 0 (fx_Qi D cy LM ad A below args s v σ') (F0 m 80 ls []) := by
              intro n27
              induction n27 with
              | zero =>
                intro w23 w24 σ25 H locs ls hP hS hl hf
                rw [fX12_chance_80] at hf
                cases hf
              | succ n27 ih26 =>
                intro w23 w24 σ25 H locs ls hP hS hl hf
                rw [fX12_chance_80] at hf
                refine lv_iload hx hb dX12_chance_80 (lv_at hl 6 rfl) ?_
                refine lv_iconst hx hb dX12_chance_82 ki_1 ?_
                refine lv_iload_n hx hb dX12_chance_83 rfl (lv_at hl 2 rfl) ?_
                refine lv_ishl hx hb dX12_chance_84 ?_
                refine lv_icmp_ge (tgt := 224) hx hb dX12_chance_85 (by decide) (fun c28 => ?_) (fun c28 => ?_)
                · replace hf := fx_it c28 hf
                  exact k_K19 w23 σ25 _ _ _ hP hS (lv_sub hl [4, 5] rfl) hf
                · replace hf := fx_ie c28 hf
                  refine lv_lconst (v := 1) hx hb dX12_chance_88 rfl ?_
                  refine lv_lstore (lv' := [(9, .long 1), (0, .ref (ad 0)), (1, .int a1), (2, .int a2), (3, .int a3), (4, .long w23), (6, .long x15), (8, .int w24)]) hx hb dX12_chance_89 hl (by decide) rfl (fun ls hl => ?_)
                  refine lv_iconst hx hb dX12_chance_91 ki_0 ?_
                  refine lv_istore (lv' := [(11, .int 0), (9, .long 1), (0, .ref (ad 0)), (1, .int a1), (2, .int a2), (3, .int a3), (4, .long w23), (6, .long x15), (8, .int w24)]) hx hb dX12_chance_92 hl (by decide) rfl (fun ls hl => ?_)
                  refine lv_iconst hx hb dX12_chance_94 ki_0 ?_
                  refine lv_istore (lv' := [(12, .int 0), (11, .int 0), (9, .long 1), (0, .ref (ad 0)), (1, .int a1), (2, .int a2), (3, .int a3), (4, .long w23), (6, .long x15), (8, .int w24)]) hx hb dX12_chance_95 hl (by decide) rfl (fun ls hl => ?_)
                  obtain ⟨K29, hK29, hf⟩ := fxL_e hf
                  have k_K29 : ∀ (x30 : Int64) (x31 : Int32) (σ32 : FH) (H : Heap) (locs : List Loc) (ls : Array Slot), fx_P D cy LM ad σ32 H → va_S A s.heap H locs → lv_has ls 14 [(0, .ref (ad 0)), (1, .int a1), (2, .int a2), (3, .int a3), (4, .long w23), (6, .long x15), (8, .int w24), (9, .long x30), (11, .int x31)] → K29 x30 x31 σ32 = some (v, σ') → W p l e (fx_R (6)) s m args below meth c H locs 0 0 (fx_Qi D cy LM ad A below args s v σ') (F0 m 188 ls []) := by
                    intro x30 x31 σ32 H locs ls hP hS hl hf
                    replace hf := fxk3 hK29 hf
                    refine lv_iload hx hb dX12_chance_188 (lv_at hl 8 rfl) ?_
                    refine lv_iload_n hx hb dX12_chance_190 rfl (lv_at hl 1 rfl) ?_
                    refine lv_ishr hx hb dX12_chance_191 ?_
                    refine lv_iconst hx hb dX12_chance_192 ki_1 ?_
                    refine lv_iand hx hb dX12_chance_193 ?_
                    refine lv_iconst hx hb dX12_chance_194 ki_1 ?_
                    obtain ⟨v33, ev33, hf⟩ := fxL_e hf
                    have j_v33 : ∀ (z34 : Int64), z34 = ((if ((x31 >>> (a1 &&& 31)) &&& 1) = 1 then (w23 + x30) else w23) : Int64) → ∀ (ls : Array Slot), lv_has ls 14 [(0, .ref (ad 0)), (1, .int a1), (2, .int a2), (3, .int a3), (4, .long z34), (6, .long x15), (8, .int w24)] → W p l e (fx_R (6)) s m args below meth c H locs 0 0 (fx_Qi D cy LM ad A below args s v σ') (F0 m 205 ls []) := by
                      intro z34 hz34 ls hl
                      obtain rfl : v33 = z34 := ev33.trans hz34.symm
                      refine lv_aload_n hx hb dX12_chance_205 rfl (lv_at hl 0 rfl) ?_
                      refine gf_X12_114 (v := .ref (ad 35)) hC hP kM_0 rfl dX12_chance_206 ?_
                      refine lv_iconst hx hb dX12_chance_209 ki_0 ?_
                      refine lv_aload_n hx hb dX12_chance_210 rfl (lv_at hl 0 rfl) ?_
                      refine gf_X12_108 (v := .ref (ad 33)) hC hP kM_0 rfl dX12_chance_211 ?_
                      refine lv_iconst hx hb dX12_chance_214 ki_0 ?_
                      obtain ⟨σ38, hc36, hf⟩ := fxBV_e hf
                      refine fx_cv hC hS (fx_runS (As := [.ref (ad 35), .int 0, .ref (ad 33), .int 0]) (rest := []) hC hP hS (ctX12_copies l hc36 D cy ad ec _) kMS_X12_401 kC_X12_copies hd_X12_copies.2 rfl ⟨(Nat.le_of_ble_eq_true rfl), (Nat.le_of_ble_eq_true rfl)⟩ ⟨Nat.le_refl 0, Nat.le_refl 0⟩ hl.1 (Nat.le_of_ble_eq_true rfl) rfl dX12_chance_215) (fun H locs hP hS => ?_)
                      refine lv_iinc (v := (w24 + 1)) (lv' := [(8, .int (w24 + 1)), (0, .ref (ad 0)), (1, .int a1), (2, .int a2), (3, .int a3), (4, .long v33), (6, .long x15)]) hx hb dX12_chance_218 hl (k := 6) rfl (congrArg (fun z => w24 + z) ki_1) (by decide) rfl (fun ls hl => ?_)
                      refine lv_goto (tgt := 80) hx hb dX12_chance_221 (by decide) ?_
                      exact ih26 v33 (w24 + 1) σ38 _ _ _ hP hS (lv_sub hl [1, 2, 3, 4, 5, 6, 0] rfl) hf
                    refine lv_icmp_ne (tgt := 205) hx hb dX12_chance_195 (by decide) (fun c35 => ?_) (fun c35 => ?_)
                    · exact j_v33 w23 (if_neg c35).symm ls (lv_sub hl [0, 1, 2, 3, 4, 5, 6] rfl)
                    · refine lv_lload hx hb dX12_chance_198 (lv_at hl 4 rfl) ?_
                      refine lv_lload hx hb dX12_chance_200 (lv_at hl 7 rfl) ?_
                      refine lv_ladd hx hb dX12_chance_202 ?_
                      refine lv_lstore (lv' := [(4, .long (w23 + x30)), (0, .ref (ad 0)), (1, .int a1), (2, .int a2), (3, .int a3), (6, .long x15), (8, .int w24), (9, .long x30), (11, .int x31)]) hx hb dX12_chance_203 hl (by decide) rfl (fun ls hl => ?_)
                      exact j_v33 (w23 + x30) (if_pos c35).symm ls (lv_sub hl [1, 2, 3, 4, 0, 5, 6] rfl)
                  have L66 : ∀ (n44 : Nat) (w39 : Int64) (w40 : Int32) (w41 : Int32) (σ42 : FH) (H : Heap) (locs : List Loc) (ls : Array Slot), fx_P D cy LM ad σ42 H → va_S A s.heap H locs → lv_has ls 14 [(0, .ref (ad 0)), (1, .int a1), (2, .int a2), (3, .int a3), (4, .long w23), (6, .long x15), (8, .int w24), (9, .long w39), (11, .int w40), (12, .int w41)] → fX12_chance_97 a2 a3 w24 K29 n44 w39 w40 w41 σ42 = some (v, σ') → W p l e (fx_R (6)) s m args below meth c H locs 0 0 (fx_Qi D cy LM ad A below args s v σ') (F0 m 97 ls []) := by
                    intro n44
                    induction n44 with
                    | zero =>
                      intro w39 w40 w41 σ42 H locs ls hP hS hl hf
                      rw [fX12_chance_97] at hf
                      cases hf
                    | succ n44 ih43 =>
                      intro w39 w40 w41 σ42 H locs ls hP hS hl hf
                      rw [fX12_chance_97] at hf
                      refine lv_iload hx hb dX12_chance_97 (lv_at hl 9 rfl) ?_
                      refine lv_iload_n hx hb dX12_chance_99 rfl (lv_at hl 2 rfl) ?_
                      refine lv_icmp_ge (tgt := 188) hx hb dX12_chance_100 (by decide) (fun c45 => ?_) (fun c45 => ?_)
                      · replace hf := fx_it c45 hf
                        exact k_K29 w39 w40 σ42 _ _ _ hP hS (lv_sub hl [0, 1, 2, 3, 4, 5, 6, 7, 8] rfl) hf
                      · replace hf := fx_ie c45 hf
                        refine lv_iload hx hb dX12_chance_103 (lv_at hl 6 rfl) ?_
                        refine lv_iload hx hb dX12_chance_105 (lv_at hl 9 rfl) ?_
                        refine lv_ishr hx hb dX12_chance_107 ?_
                        refine lv_iconst hx hb dX12_chance_108 ki_1 ?_
                        refine lv_iand hx hb dX12_chance_109 ?_
                        refine lv_iconst hx hb dX12_chance_110 ki_1 ?_
                        obtain ⟨v46, ev46, hf⟩ := fxL_e hf
                        have j_v46 : ∀ (z47 : Int32), z47 = ((if ((w24 >>> (w41 &&& 31)) &&& 1) = 1 then 1 else 0) : Int32) → ∀ (ls : Array Slot), lv_has ls 14 [(0, .ref (ad 0)), (1, .int a1), (2, .int a2), (3, .int a3), (4, .long w23), (6, .long x15), (8, .int w24), (9, .long w39), (11, .int w40), (12, .int w41)] → W p l e (fx_R (6)) s m args below meth c H locs 0 0 (fx_Qi D cy LM ad A below args s v σ') (F0 m 119 ls [.int z47]) := by
                          intro z47 hz47 ls hl
                          obtain rfl : v46 = z47 := ev46.trans hz47.symm
                          refine lv_istore (lv' := [(13, .int v46), (0, .ref (ad 0)), (1, .int a1), (2, .int a2), (3, .int a3), (4, .long w23), (6, .long x15), (8, .int w24), (9, .long w39), (11, .int w40), (12, .int w41)]) hx hb dX12_chance_119 hl (by decide) rfl (fun ls hl => ?_)
                          refine lv_lload hx hb dX12_chance_121 (lv_at hl 8 rfl) ?_
                          refine lv_iload hx hb dX12_chance_123 (lv_at hl 0 rfl) ?_
                          obtain ⟨v49, ev49, hf⟩ := fxL_e hf
                          have j_v49 : ∀ (z50 : Int64), z50 = ((if v46 = 0 then (Int32.toInt64 (10 - a3)) else (Int32.toInt64 a3)) : Int64) → ∀ (ls : Array Slot), lv_has ls 14 [(0, .ref (ad 0)), (1, .int a1), (2, .int a2), (3, .int a3), (4, .long w23), (6, .long x15), (8, .int w24), (11, .int w40), (12, .int w41), (13, .int v46)] → W p l e (fx_R (6)) s m args below meth c H locs 0 0 (fx_Qi D cy LM ad A below args s v σ') (F0 m 138 ls [.long z50, .long w39]) := by
                            intro z50 hz50 ls hl
                            obtain rfl : v49 = z50 := ev49.trans hz50.symm
                            refine lv_lmul hx hb dX12_chance_138 ?_
                            obtain ⟨v52, ev52, hf⟩ := fxL_e hf
                            refine fx_tl ev52 ?_
                            refine lv_lstore (lv' := [(9, .long v52), (0, .ref (ad 0)), (1, .int a1), (2, .int a2), (3, .int a3), (4, .long w23), (6, .long x15), (8, .int w24), (11, .int w40), (12, .int w41), (13, .int v46)]) hx hb dX12_chance_139 hl (by decide) rfl (fun ls hl => ?_)
                            refine lv_iload hx hb dX12_chance_141 (lv_at hl 10 rfl) ?_
                            obtain ⟨J53, hJ53, hf⟩ := fxL_e hf
                            have j_J53 : ∀ (σ54 : FH) (H : Heap) (locs : List Loc) (ls : Array Slot), fx_P D cy LM ad σ54 H → va_S A s.heap H locs → lv_has ls 14 [(0, .ref (ad 0)), (1, .int a1), (2, .int a2), (3, .int a3), (4, .long w23), (6, .long x15), (8, .int w24), (9, .long v52), (11, .int w40), (12, .int w41), (13, .int v46)] → J53 σ54 = some (v, σ') → W p l e (fx_R (6)) s m args below meth c H locs 0 0 (fx_Qi D cy LM ad A below args s v σ') (F0 m 164 ls []) := by
                              intro σ54 H locs ls hP hS hl hf
                              replace hf := fxk1 hJ53 hf
                              refine lv_iload hx hb dX12_chance_164 (lv_at hl 8 rfl) ?_
                              refine lv_iload hx hb dX12_chance_166 (lv_at hl 10 rfl) ?_
                              obtain ⟨v55, ev55, hf⟩ := fxL_e hf
                              have j_v55 : ∀ (z56 : Int32), z56 = ((if v46 = 0 then (σ54.1 0 52) else 0) : Int32) → ∀ (ls : Array Slot), lv_has ls 14 [(0, .ref (ad 0)), (1, .int a1), (2, .int a2), (3, .int a3), (4, .long w23), (6, .long x15), (8, .int w24), (9, .long v52), (12, .int w41)] → W p l e (fx_R (6)) s m args below meth c H locs 0 0 (fx_Qi D cy LM ad A below args s v σ') (F0 m 179 ls [.int z56, .int w40]) := by
                                intro z56 hz56 ls hl
                                obtain rfl : v55 = z56 := ev55.trans hz56.symm
                                refine lv_ior hx hb dX12_chance_179 ?_
                                obtain ⟨v58, ev58, hf⟩ := fxL_e hf
                                refine fx_ti ev58 ?_
                                refine lv_istore (lv' := [(11, .int v58), (0, .ref (ad 0)), (1, .int a1), (2, .int a2), (3, .int a3), (4, .long w23), (6, .long x15), (8, .int w24), (9, .long v52), (12, .int w41)]) hx hb dX12_chance_180 hl (by decide) rfl (fun ls hl => ?_)
                                refine lv_iinc (v := (w41 + 1)) (lv' := [(12, .int (w41 + 1)), (11, .int v58), (0, .ref (ad 0)), (1, .int a1), (2, .int a2), (3, .int a3), (4, .long w23), (6, .long x15), (8, .int w24), (9, .long v52)]) hx hb dX12_chance_182 hl (k := 9) rfl (congrArg (fun z => w41 + z) ki_1) (by decide) rfl (fun ls hl => ?_)
                                refine lv_goto (tgt := 97) hx hb dX12_chance_185 (by decide) ?_
                                exact ih43 v52 v58 (w41 + 1) σ54 _ _ _ hP hS (lv_sub hl [2, 3, 4, 5, 6, 7, 8, 9, 1, 0] rfl) hf
                              refine lv_if_eq (tgt := 175) hx hb dX12_chance_168 (by decide) (fun c57 => ?_) (fun c57 => ?_)
                              · refine lv_aload_n hx hb dX12_chance_175 rfl (lv_at hl 0 rfl) ?_
                                refine gf_X12_380 (v := .int (σ54.1 0 52)) hC hP kM_0 rfl dX12_chance_176 ?_
                                exact j_v55 (σ54.1 0 52) (if_pos c57).symm ls (lv_sub hl [0, 1, 2, 3, 4, 5, 6, 7, 9] rfl)
                              · refine lv_iconst hx hb dX12_chance_171 ki_0 ?_
                                refine lv_goto (tgt := 179) hx hb dX12_chance_172 (by decide) ?_
                                exact j_v55 0 (if_neg c57).symm ls (lv_sub hl [0, 1, 2, 3, 4, 5, 6, 7, 9] rfl)
                            refine lv_if_eq (tgt := 159) hx hb dX12_chance_143 (by decide) (fun c59 => ?_) (fun c59 => ?_)
                            · replace hf := fx_it c59 hf
                              refine lv_aload_n hx hb dX12_chance_159 rfl (lv_at hl 1 rfl) ?_
                              obtain ⟨r61, σ62, hc60, hf⟩ := fxBI_e hf
                              refine fx_ci hC hS (fx_runV (i := 0) (As := []) (rest := []) hC hP hS (ctX12_passes l hc60 D cy ad ec _) kM_0 (by decide) rfl kMV_X12_421 kC_X12_passes hd_X12_passes rfl ⟨(Nat.le_of_ble_eq_true rfl), (Nat.le_of_ble_eq_true rfl)⟩ ⟨Nat.le_refl 0, Nat.le_refl 0⟩ hl.1 (Nat.le_of_ble_eq_true rfl) rfl dX12_chance_160) (fun H locs hP hS => ?_)
                              refine lv_pop hx hb dX12_chance_163 rfl ?_
                              exact j_J53 σ62 _ _ _ hP hS (lv_sub hl [1, 2, 3, 4, 5, 6, 7, 0, 8, 9, 10] rfl) hf
                            · replace hf := fx_ie c59 hf
                              refine lv_aload_n hx hb dX12_chance_146 rfl (lv_at hl 1 rfl) ?_
                              refine gf_X12_108 (v := .ref (ad 33)) hC hP kM_0 rfl dX12_chance_147 ?_
                              refine lv_iconst hx hb dX12_chance_150 ki_0 ?_
                              refine lv_dup2_11 hx hb dX12_chance_151 rfl rfl ?_
                              obtain ⟨h63, hf⟩ := fxG_e hf
                              refine fx_iald hC hP kM_33 (fx_inp h63) dX12_chance_152 ?_
                              refine lv_iconst hx hb dX12_chance_153 ki_1 ?_
                              refine lv_iadd hx hb dX12_chance_154 ?_
                              obtain ⟨h64, hf⟩ := fxG_e hf
                              obtain ⟨σ65, eσ65, hf⟩ := fxL_e hf
                              refine fx_iast hC hP hS kM_33 (fx_inp h64) dX12_chance_155 (fun H locs hP hS => ?_)
                              replace hP := fx_Pe eσ65 hP
                              refine lv_goto (tgt := 164) hx hb dX12_chance_156 (by decide) ?_
                              exact j_J53 σ65 _ _ _ hP hS (lv_sub hl [1, 2, 3, 4, 5, 6, 7, 0, 8, 9, 10] rfl) hf
                          refine lv_if_eq (tgt := 133) hx hb dX12_chance_125 (by decide) (fun c51 => ?_) (fun c51 => ?_)
                          · refine lv_bipush hx hb dX12_chance_133 kb_10 ?_
                            refine lv_iload_n hx hb dX12_chance_135 rfl (lv_at hl 4 rfl) ?_
                            refine lv_isub hx hb dX12_chance_136 ?_
                            refine lv_i2l (v := (Int32.toInt64 (10 - a3))) hx hb dX12_chance_137 rfl ?_
                            exact j_v49 (Int32.toInt64 (10 - a3)) (if_pos c51).symm ls (lv_sub hl [1, 2, 3, 4, 5, 6, 7, 9, 10, 0] rfl)
                          · refine lv_iload_n hx hb dX12_chance_128 rfl (lv_at hl 4 rfl) ?_
                            refine lv_i2l (v := (Int32.toInt64 a3)) hx hb dX12_chance_129 rfl ?_
                            refine lv_goto (tgt := 138) hx hb dX12_chance_130 (by decide) ?_
                            exact j_v49 (Int32.toInt64 a3) (if_neg c51).symm ls (lv_sub hl [1, 2, 3, 4, 5, 6, 7, 9, 10, 0] rfl)
                        refine lv_icmp_ne (tgt := 118) hx hb dX12_chance_111 (by decide) (fun c48 => ?_) (fun c48 => ?_)
                        · refine lv_iconst hx hb dX12_chance_118 ki_0 ?_
                          exact j_v46 0 (if_neg c48).symm ls (lv_sub hl [0, 1, 2, 3, 4, 5, 6, 7, 8, 9] rfl)
                        · refine lv_iconst hx hb dX12_chance_114 ki_1 ?_
                          refine lv_goto (tgt := 119) hx hb dX12_chance_115 (by decide) ?_
                          exact j_v46 1 (if_pos c48).symm ls (lv_sub hl [0, 1, 2, 3, 4, 5, 6, 7, 8, 9] rfl)
                  exact L66 FU 1 0 0 σ25 _ _ _ hP hS (lv_sub hl [3, 4, 5, 6, 7, 8, 9, 2, 1, 0] rfl) hf
            exact L67 FU 0 0 σ18 _ _ _ hP hS (lv_sub hl [1, 2, 3, 4, 5, 6, 0] rfl) hf
          have L74 : ∀ (n71 : Nat) (w68 : Int64) (w69 : Int32) (H : Heap) (locs : List Loc) (ls : Array Slot), fx_P D cy LM ad σ1 H → va_S A s.heap H locs → lv_has ls 14 [(0, .ref (ad 0)), (1, .int a1), (2, .int a2), (3, .int a3), (4, .long 0), (6, .long w68), (8, .int w69)] → fX12_chance_44 a2 K14 n71 w68 w69 = some (v, σ') → W p l e (fx_R (6)) s m args below meth c H locs 0 0 (fx_Qi D cy LM ad A below args s v σ') (F0 m 44 ls []) := by
            intro n71
            induction n71 with
            | zero =>
              intro w68 w69 H locs ls hP hS hl hf
              rw [fX12_chance_44] at hf
              cases hf
            | succ n71 ih70 =>
              intro w68 w69 H locs ls hP hS hl hf
              rw [fX12_chance_44] at hf
              refine lv_iload hx hb dX12_chance_44 (lv_at hl 6 rfl) ?_
              refine lv_iload_n hx hb dX12_chance_46 rfl (lv_at hl 2 rfl) ?_
              refine lv_icmp_ge (tgt := 64) hx hb dX12_chance_47 (by decide) (fun c72 => ?_) (fun c72 => ?_)
              · replace hf := fx_it c72 hf
                exact k_K14 w68 _ _ _ hP hS (lv_sub hl [0, 1, 2, 3, 4, 5] rfl) hf
              · replace hf := fx_ie c72 hf
                refine lv_lload hx hb dX12_chance_50 (lv_at hl 5 rfl) ?_
                refine lv_ldc2 (own := RX12) (v := 10) hx hb hC.2.2.2.1 (hC.2.2.2.2.1 _ kK_X12_460) dX12_chance_52 ?_
                refine lv_lmul hx hb dX12_chance_55 ?_
                obtain ⟨v73, ev73, hf⟩ := fxL_e hf
                refine fx_tl ev73 ?_
                refine lv_lstore (lv' := [(6, .long v73), (0, .ref (ad 0)), (1, .int a1), (2, .int a2), (3, .int a3), (4, .long 0), (8, .int w69)]) hx hb dX12_chance_56 hl (by decide) rfl (fun ls hl => ?_)
                refine lv_iinc (v := (w69 + 1)) (lv' := [(8, .int (w69 + 1)), (6, .long v73), (0, .ref (ad 0)), (1, .int a1), (2, .int a2), (3, .int a3), (4, .long 0)]) hx hb dX12_chance_58 hl (k := 6) rfl (congrArg (fun z => w69 + z) ki_1) (by decide) rfl (fun ls hl => ?_)
                refine lv_goto (tgt := 44) hx hb dX12_chance_61 (by decide) ?_
                exact ih70 v73 (w69 + 1) _ _ _ hP hS (lv_sub hl [2, 3, 4, 5, 6, 1, 0] rfl) hf
          exact L74 FU 1 0 _ _ _ hP hS (lv_sub hl [3, 4, 5, 6, 2, 1, 0] rfl) hf
        · replace hf := fx_it c13 hf
          refine lv_iconst hx hb dX12_chance_33 ki_m1 ?_
          exact fx_iretf hf hC hr hk hP hS dX12_chance_34
  exact main _ _ _ hP hS hl

set_option maxHeartbeats 4000000 in
set_option maxRecDepth 100000 in
theorem ctX12_getsBy (l : Launch) {a0 : Int32} {a1 : Int32} {a2 : Int32} {a3 : Int32} {a4 : Int32} {σ : FH} {v : Int32} (hf : fX12_getsBy a0 a1 a2 a3 a4 σ = some v) : fx_Mi l yX12_getsBy cX12_getsBy 5 (some .int) (0) LM (fun ad ec => [.int a0, .int a1, .int a2, .int a3, .int a4]) σ v σ := by
  unfold fX12_getsBy at hf
  refine fx_mi' (own := RX12) rfl (by decide +kernel) ?_
  intro p e s m args below meth c D cy ad ec A hC hr hk hP hS
  have hx := hC.1
  have hb := hC.2.1
  have hl := lv_entry ([.int a0, .int a1, .int a2, .int a3, .int a4]) (n := 5) (Nat.le_of_ble_eq_true rfl)
  show W _ _ _ _ _ _ _ _ _ _ _ _ _ _ _ (entryFrame m ([.int a0, .int a1, .int a2, .int a3, .int a4] : List Value).toArray 5)
  rw [lg_entry_eq]
  generalize (lg_sl ([.int a0, .int a1, .int a2, .int a3, .int a4]) ++ List.replicate (5 - (lg_sl ([.int a0, .int a1, .int a2, .int a3, .int a4])).length) Slot.unset).toArray = ls at hl ⊢
  have hl : lv_has ls 5 [(0, .int a0), (1, .int a1), (2, .int a2), (3, .int a3), (4, .int a4)] := hl
  have main : ∀ (H : Heap) (locs : List Loc) (ls : Array Slot), fx_P D cy LM ad σ H → va_S A s.heap H locs → lv_has ls 5 [(0, .int a0), (1, .int a1), (2, .int a2), (3, .int a3), (4, .int a4)] → W p l e (fx_R (0)) s m args below meth c H locs 0 0 (fx_Qi D cy LM ad A below args s v σ) (F0 m 0 ls []) := by
    intro H locs ls hP hS hl
    refine lv_iload_n hx hb dX12_getsBy_0 rfl (lv_at hl 3 rfl) ?_
    refine lv_iconst hx hb dX12_getsBy_1 ki_1 ?_
    obtain ⟨v1, ev1, hf⟩ := fxL_e hf
    have j_v1 : ∀ (z2 : Int32), z2 = ((if a3 = 1 then (if a4 = 1 then (-a0) else a1) else (if a4 = 1 then a2 else 0)) : Int32) → ∀ (ls : Array Slot), lv_has ls 5 [] → W p l e (fx_R (0)) s m args below meth c H locs 0 0 (fx_Qi D cy LM ad A below args s v σ) (F0 m 31 ls [.int z2]) := by
      intro z2 hz2 ls hl
      obtain rfl : v1 = z2 := ev1.trans hz2.symm
      exact fx_iretp hf hC hr hk hP hS dX12_getsBy_31
    refine lv_icmp_ne (tgt := 20) hx hb dX12_getsBy_2 (by decide) (fun c3 => ?_) (fun c3 => ?_)
    · refine lv_iload hx hb dX12_getsBy_20 (lv_at hl 4 rfl) ?_
      refine lv_iconst hx hb dX12_getsBy_22 ki_1 ?_
      refine lv_icmp_ne (tgt := 30) hx hb dX12_getsBy_23 (by decide) (fun c4 => ?_) (fun c4 => ?_)
      · refine lv_iconst hx hb dX12_getsBy_30 ki_0 ?_
        exact j_v1 0 ((if_neg c3).trans (if_neg c4)).symm ls (lv_sub hl [] rfl)
      · refine lv_iload_n hx hb dX12_getsBy_26 rfl (lv_at hl 2 rfl) ?_
        refine lv_goto (tgt := 31) hx hb dX12_getsBy_27 (by decide) ?_
        exact j_v1 a2 ((if_neg c3).trans (if_pos c4)).symm ls (lv_sub hl [] rfl)
    · refine lv_iload hx hb dX12_getsBy_5 (lv_at hl 4 rfl) ?_
      refine lv_iconst hx hb dX12_getsBy_7 ki_1 ?_
      refine lv_icmp_ne (tgt := 16) hx hb dX12_getsBy_8 (by decide) (fun c5 => ?_) (fun c5 => ?_)
      · refine lv_iload_n hx hb dX12_getsBy_16 rfl (lv_at hl 1 rfl) ?_
        refine lv_goto (tgt := 31) hx hb dX12_getsBy_17 (by decide) ?_
        exact j_v1 a1 ((if_pos c3).trans (if_neg c5)).symm ls (lv_sub hl [] rfl)
      · refine lv_iload_n hx hb dX12_getsBy_11 rfl (lv_at hl 0 rfl) ?_
        refine lv_ineg hx hb dX12_getsBy_12 ?_
        refine lv_goto (tgt := 31) hx hb dX12_getsBy_13 (by decide) ?_
        exact j_v1 (-a0) ((if_pos c3).trans (if_pos c5)).symm ls (lv_sub hl [] rfl)
  exact main _ _ _ hP hS hl

set_option maxHeartbeats 4000000 in
set_option maxRecDepth 100000 in
theorem ctX12_rests (l : Launch) {a1 : Int32} {a2 : Int32} {a3 : Int32} {a4 : Int32} {σ σ' : FH} {v : Int32} (hf : fX12_rests a1 a2 a3 a4 σ = some (v, σ')) : fx_Mi l yX12_rests cX12_rests 9 (some .int) (1) LM (fun ad ec => [.ref (ad 0), .int a1, .int a2, .int a3, .int a4]) σ v σ' := by
  unfold fX12_rests at hf
  refine fx_mi' (own := RX12) rfl (by decide +kernel) ?_
  intro p e s m args below meth c D cy ad ec A hC hr hk hP hS
  have hx := hC.1
  have hb := hC.2.1
  have hl := lv_entry ([.ref (ad 0), .int a1, .int a2, .int a3, .int a4]) (n := 9) (Nat.le_of_ble_eq_true rfl)
  show W _ _ _ _ _ _ _ _ _ _ _ _ _ _ _ (entryFrame m ([.ref (ad 0), .int a1, .int a2, .int a3, .int a4] : List Value).toArray 9)
  rw [lg_entry_eq]
  generalize (lg_sl ([.ref (ad 0), .int a1, .int a2, .int a3, .int a4]) ++ List.replicate (9 - (lg_sl ([.ref (ad 0), .int a1, .int a2, .int a3, .int a4])).length) Slot.unset).toArray = ls at hl ⊢
  have hl : lv_has ls 9 [(0, .ref (ad 0)), (1, .int a1), (2, .int a2), (3, .int a3), (4, .int a4)] := hl
  have main : ∀ (H : Heap) (locs : List Loc) (ls : Array Slot), fx_P D cy LM ad σ H → va_S A s.heap H locs → lv_has ls 9 [(0, .ref (ad 0)), (1, .int a1), (2, .int a2), (3, .int a3), (4, .int a4)] → W p l e (fx_R (1)) s m args below meth c H locs 0 0 (fx_Qi D cy LM ad A below args s v σ') (F0 m 0 ls []) := by
    intro H locs ls hP hS hl
    refine lv_aload_n hx hb dX12_rests_0 rfl (lv_at hl 0 rfl) ?_
    refine lv_iload_n hx hb dX12_rests_1 rfl (lv_at hl 1 rfl) ?_
    refine lv_iconst hx hb dX12_rests_2 ki_0 ?_
    refine lv_bipush hx hb dX12_rests_3 kb_9 ?_
    obtain ⟨r2, hc1, hf⟩ := fxBP_e hf
    refine fx_ci hC hS (fx_runS (As := [.int a1, .int 0, .int 9]) (rest := [.ref (ad 0)]) hC hP hS (ctX12_within l hc1 D cy ad ec _) kMS_X12_253 kC_X12_within hd_X12_within.2 rfl ⟨(Nat.le_of_ble_eq_true rfl), (Nat.le_of_ble_eq_true rfl)⟩ ⟨Nat.le_refl 0, Nat.le_refl 0⟩ hl.1 (Nat.le_of_ble_eq_true rfl) rfl dX12_rests_5) (fun H locs hP hS => ?_)
    obtain ⟨J4, hJ4, hf⟩ := fxL_e hf
    have j_J4 : ∀ (y5 : Int32) (H : Heap) (locs : List Loc) (ls : Array Slot), fx_P D cy LM ad σ H → va_S A s.heap H locs → lv_has ls 9 [(0, .ref (ad 0)), (1, .int a1), (2, .int a2), (3, .int a3), (4, .int a4)] → J4 y5 = some (v, σ') → W p l e (fx_R (1)) s m args below meth c H locs 0 0 (fx_Qi D cy LM ad A below args s v σ') (F0 m 42 ls [.int y5, .ref (ad 0)]) := by
      intro y5 H locs ls hP hS hl hf
      replace hf := fxk1 hJ4 hf
      obtain ⟨σ6, eσ6, hf⟩ := fxL_e hf
      refine pf_X12_133 hC hP hS kM_0 dX12_rests_42 (fun H locs hP hS => ?_)
      replace hP := fx_Pe eσ6 hP
      refine lv_aload_n hx hb dX12_rests_45 rfl (lv_at hl 0 rfl) ?_
      refine gf_X12_133 (v := .int (σ6.1 0 0)) hC hP kM_0 rfl dX12_rests_46 ?_
      refine lv_iconst hx hb dX12_rests_49 ki_1 ?_
      refine lv_icmp_ne (tgt := 55) hx hb dX12_rests_50 (by decide) (fun c7 => ?_) (fun c7 => ?_)
      · replace hf := fx_ie c7 hf
        refine lv_iconst hx hb dX12_rests_55 ki_0 ?_
        refine lv_istore (lv' := [(5, .int 0), (0, .ref (ad 0)), (1, .int a1), (2, .int a2), (3, .int a3), (4, .int a4)]) hx hb dX12_rests_56 hl (by decide) rfl (fun ls hl => ?_)
        refine lv_iconst hx hb dX12_rests_58 ki_0 ?_
        refine lv_istore (lv' := [(6, .int 0), (5, .int 0), (0, .ref (ad 0)), (1, .int a1), (2, .int a2), (3, .int a3), (4, .int a4)]) hx hb dX12_rests_59 hl (by decide) rfl (fun ls hl => ?_)
        obtain ⟨K8, hK8, hf⟩ := fxL_e hf
        have k_K8 : ∀ (x9 : Int32) (H : Heap) (locs : List Loc) (ls : Array Slot), fx_P D cy LM ad σ6 H → va_S A s.heap H locs → lv_has ls 9 [(0, .ref (ad 0)), (4, .int a4), (5, .int x9)] → K8 x9 = some (v, σ') → W p l e (fx_R (1)) s m args below meth c H locs 0 0 (fx_Qi D cy LM ad A below args s v σ') (F0 m 151 ls []) := by
          intro x9 H locs ls hP hS hl hf
          replace hf := fxk1 hK8 hf
          refine lv_aload_n hx hb dX12_rests_151 rfl (lv_at hl 0 rfl) ?_
          refine lv_iload hx hb dX12_rests_152 (lv_at hl 1 rfl) ?_
          refine lv_iconst hx hb dX12_rests_154 ki_m1 ?_
          obtain ⟨v10, ev10, hf⟩ := fxL_e hf
          have j_v10 : ∀ (z11 : Int32), z11 = ((if a4 = (-1) then 0 else 1) : Int32) → ∀ (ls : Array Slot), lv_has ls 9 [(4, .int a4), (5, .int x9)] → W p l e (fx_R (1)) s m args below meth c H locs 0 0 (fx_Qi D cy LM ad A below args s v σ') (F0 m 163 ls [.int z11, .ref (ad 0)]) := by
            intro z11 hz11 ls hl
            obtain rfl : v10 = z11 := ev10.trans hz11.symm
            obtain ⟨σ13, eσ13, hf⟩ := fxL_e hf
            refine pf_X12_133 hC hP hS kM_0 dX12_rests_163 (fun H locs hP hS => ?_)
            replace hP := fx_Pe eσ13 hP
            refine lv_iload hx hb dX12_rests_166 (lv_at hl 0 rfl) ?_
            refine lv_iconst hx hb dX12_rests_168 ki_m1 ?_
            obtain ⟨v14, ev14, hf⟩ := fxL_e hf
            have j_v14 : ∀ (z15 : Int32), z15 = ((if a4 = (-1) then x9 else 0) : Int32) → ∀ (ls : Array Slot), lv_has ls 9 [] → W p l e (fx_R (1)) s m args below meth c H locs 0 0 (fx_Qi D cy LM ad A below args s v σ') (F0 m 178 ls [.int z15]) := by
              intro z15 hz15 ls hl
              obtain rfl : v14 = z15 := ev14.trans hz15.symm
              exact fx_iretf hf hC hr hk hP hS dX12_rests_178
            refine lv_icmp_ne (tgt := 177) hx hb dX12_rests_169 (by decide) (fun c16 => ?_) (fun c16 => ?_)
            · refine lv_iconst hx hb dX12_rests_177 ki_0 ?_
              exact j_v14 0 (if_neg c16).symm ls (lv_sub hl [] rfl)
            · refine lv_iload hx hb dX12_rests_172 (lv_at hl 1 rfl) ?_
              refine lv_goto (tgt := 178) hx hb dX12_rests_174 (by decide) ?_
              exact j_v14 x9 (if_pos c16).symm ls (lv_sub hl [] rfl)
          refine lv_icmp_ne (tgt := 162) hx hb dX12_rests_155 (by decide) (fun c12 => ?_) (fun c12 => ?_)
          · refine lv_iconst hx hb dX12_rests_162 ki_1 ?_
            exact j_v10 1 (if_neg c12).symm ls (lv_sub hl [1, 2] rfl)
          · refine lv_iconst hx hb dX12_rests_158 ki_0 ?_
            refine lv_goto (tgt := 163) hx hb dX12_rests_159 (by decide) ?_
            exact j_v10 0 (if_pos c12).symm ls (lv_sub hl [1, 2] rfl)
        have L39 : ∀ (n20 : Nat) (w17 : Int32) (w18 : Int32) (H : Heap) (locs : List Loc) (ls : Array Slot), fx_P D cy LM ad σ6 H → va_S A s.heap H locs → lv_has ls 9 [(0, .ref (ad 0)), (1, .int a1), (2, .int a2), (3, .int a3), (4, .int a4), (5, .int w17), (6, .int w18)] → fX12_rests_61 a1 a2 a3 a4 σ6 K8 n20 w17 w18 = some (v, σ') → W p l e (fx_R (1)) s m args below meth c H locs 0 0 (fx_Qi D cy LM ad A below args s v σ') (F0 m 61 ls []) := by
          intro n20
          induction n20 with
          | zero =>
            intro w17 w18 H locs ls hP hS hl hf
            rw [fX12_rests_61] at hf
            cases hf
          | succ n20 ih19 =>
            intro w17 w18 H locs ls hP hS hl hf
            rw [fX12_rests_61] at hf
            refine lv_iload hx hb dX12_rests_61 (lv_at hl 6 rfl) ?_
            refine lv_iconst hx hb dX12_rests_63 ki_4 ?_
            refine lv_icmp_ge (tgt := 151) hx hb dX12_rests_64 (by decide) (fun c21 => ?_) (fun c21 => ?_)
            · replace hf := fx_it c21 hf
              exact k_K8 w17 _ _ _ hP hS (lv_sub hl [0, 4, 5] rfl) hf
            · replace hf := fx_ie c21 hf
              refine lv_iload hx hb dX12_rests_67 (lv_at hl 6 rfl) ?_
              refine lv_iconst hx hb dX12_rests_69 ki_2 ?_
              refine lv_idiv hx hb dX12_rests_70 (by decide) ?_
              obtain ⟨v22, ev22, hf⟩ := fxL_e hf
              refine fx_ti ev22 ?_
              refine lv_istore (lv' := [(7, .int v22), (0, .ref (ad 0)), (1, .int a1), (2, .int a2), (3, .int a3), (4, .int a4), (5, .int w17), (6, .int w18)]) hx hb dX12_rests_71 hl (by decide) rfl (fun ls hl => ?_)
              refine lv_iload hx hb dX12_rests_73 (lv_at hl 7 rfl) ?_
              refine lv_iconst hx hb dX12_rests_75 ki_2 ?_
              refine lv_irem hx hb dX12_rests_76 (by decide) ?_
              obtain ⟨v23, ev23, hf⟩ := fxL_e hf
              refine fx_ti ev23 ?_
              refine lv_istore (lv' := [(8, .int v23), (7, .int v22), (0, .ref (ad 0)), (1, .int a1), (2, .int a2), (3, .int a3), (4, .int a4), (5, .int w17), (6, .int w18)]) hx hb dX12_rests_77 hl (by decide) rfl (fun ls hl => ?_)
              refine lv_iload_n hx hb dX12_rests_79 rfl (lv_at hl 3 rfl) ?_
              refine lv_iload_n hx hb dX12_rests_80 rfl (lv_at hl 4 rfl) ?_
              refine lv_iload_n hx hb dX12_rests_81 rfl (lv_at hl 5 rfl) ?_
              refine lv_iconst hx hb dX12_rests_82 ki_1 ?_
              refine lv_iload hx hb dX12_rests_83 (lv_at hl 1 rfl) ?_
              refine lv_isub hx hb dX12_rests_85 ?_
              refine lv_iload hx hb dX12_rests_86 (lv_at hl 0 rfl) ?_
              obtain ⟨r25, hc24, hf⟩ := fxBP_e hf
              refine fx_ci hC hS (fx_runS (As := [.int a1, .int a2, .int a3, .int (1 - v22), .int v23]) (rest := []) hC hP hS (ctX12_getsBy l hc24 D cy ad ec _) kMS_X12_462 kC_X12_getsBy hd_X12_getsBy.2 rfl ⟨(Nat.le_of_ble_eq_true rfl), (Nat.le_of_ble_eq_true rfl)⟩ ⟨Nat.le_refl 0, Nat.le_refl 0⟩ hl.1 (Nat.le_of_ble_eq_true rfl) rfl dX12_rests_88) (fun H locs hP hS => ?_)
              refine lv_iload_n hx hb dX12_rests_91 rfl (lv_at hl 3 rfl) ?_
              refine lv_iload_n hx hb dX12_rests_92 rfl (lv_at hl 4 rfl) ?_
              refine lv_iload_n hx hb dX12_rests_93 rfl (lv_at hl 5 rfl) ?_
              refine lv_iload hx hb dX12_rests_94 (lv_at hl 1 rfl) ?_
              refine lv_iload hx hb dX12_rests_96 (lv_at hl 0 rfl) ?_
              obtain ⟨r28, hc27, hf⟩ := fxBP_e hf
              refine fx_ci hC hS (fx_runS (As := [.int a1, .int a2, .int a3, .int v22, .int v23]) (rest := [.int r25]) hC hP hS (ctX12_getsBy l hc27 D cy ad ec _) kMS_X12_462 kC_X12_getsBy hd_X12_getsBy.2 rfl ⟨(Nat.le_of_ble_eq_true rfl), (Nat.le_of_ble_eq_true rfl)⟩ ⟨Nat.le_refl 0, Nat.le_refl 0⟩ hl.1 (Nat.le_of_ble_eq_true rfl) rfl dX12_rests_98) (fun H locs hP hS => ?_)
              refine lv_icmp_gt (tgt := 145) hx hb dX12_rests_101 (by decide) (fun c30 => ?_) (fun c30 => ?_)
              · replace hf := fx_it c30 hf
                refine lv_iinc (v := (w18 + 1)) (lv' := [(6, .int (w18 + 1)), (8, .int v23), (7, .int v22), (0, .ref (ad 0)), (1, .int a1), (2, .int a2), (3, .int a3), (4, .int a4), (5, .int w17)]) hx hb dX12_rests_145 hl (k := 8) rfl (congrArg (fun z => w18 + z) ki_1) (by decide) rfl (fun ls hl => ?_)
                refine lv_goto (tgt := 61) hx hb dX12_rests_148 (by decide) ?_
                exact ih19 w17 (w18 + 1) _ _ _ hP hS (lv_sub hl [3, 4, 5, 6, 7, 8, 0] rfl) hf
              · replace hf := fx_ie c30 hf
                refine lv_iload_n hx hb dX12_rests_104 rfl (lv_at hl 3 rfl) ?_
                refine lv_iload_n hx hb dX12_rests_105 rfl (lv_at hl 4 rfl) ?_
                refine lv_iload_n hx hb dX12_rests_106 rfl (lv_at hl 5 rfl) ?_
                refine lv_iconst hx hb dX12_rests_107 ki_1 ?_
                refine lv_iload hx hb dX12_rests_108 (lv_at hl 0 rfl) ?_
                refine lv_isub hx hb dX12_rests_110 ?_
                refine lv_iload hx hb dX12_rests_111 (lv_at hl 1 rfl) ?_
                obtain ⟨r32, hc31, hf⟩ := fxBP_e hf
                refine fx_ci hC hS (fx_runS (As := [.int a1, .int a2, .int a3, .int (1 - v23), .int v22]) (rest := []) hC hP hS (ctX12_getsBy l hc31 D cy ad ec _) kMS_X12_462 kC_X12_getsBy hd_X12_getsBy.2 rfl ⟨(Nat.le_of_ble_eq_true rfl), (Nat.le_of_ble_eq_true rfl)⟩ ⟨Nat.le_refl 0, Nat.le_refl 0⟩ hl.1 (Nat.le_of_ble_eq_true rfl) rfl dX12_rests_113) (fun H locs hP hS => ?_)
                refine lv_iload_n hx hb dX12_rests_116 rfl (lv_at hl 3 rfl) ?_
                refine lv_iload_n hx hb dX12_rests_117 rfl (lv_at hl 4 rfl) ?_
                refine lv_iload_n hx hb dX12_rests_118 rfl (lv_at hl 5 rfl) ?_
                refine lv_iload hx hb dX12_rests_119 (lv_at hl 0 rfl) ?_
                refine lv_iload hx hb dX12_rests_121 (lv_at hl 1 rfl) ?_
                obtain ⟨r35, hc34, hf⟩ := fxBP_e hf
                refine fx_ci hC hS (fx_runS (As := [.int a1, .int a2, .int a3, .int v23, .int v22]) (rest := [.int r32]) hC hP hS (ctX12_getsBy l hc34 D cy ad ec _) kMS_X12_462 kC_X12_getsBy hd_X12_getsBy.2 rfl ⟨(Nat.le_of_ble_eq_true rfl), (Nat.le_of_ble_eq_true rfl)⟩ ⟨Nat.le_refl 0, Nat.le_refl 0⟩ hl.1 (Nat.le_of_ble_eq_true rfl) rfl dX12_rests_123) (fun H locs hP hS => ?_)
                refine lv_icmp_le (tgt := 132) hx hb dX12_rests_126 (by decide) (fun c37 => ?_) (fun c37 => ?_)
                · replace hf := fx_it c37 hf
                  refine lv_iload hx hb dX12_rests_132 (lv_at hl 7 rfl) ?_
                  refine lv_iload hx hb dX12_rests_134 (lv_at hl 6 rfl) ?_
                  refine lv_icmp_ne (tgt := 142) hx hb dX12_rests_136 (by decide) (fun c38 => ?_) (fun c38 => ?_)
                  · replace hf := fx_ie c38 hf
                    refine lv_iinc (v := (w17 + 1)) (lv' := [(5, .int (w17 + 1)), (8, .int v23), (7, .int v22), (0, .ref (ad 0)), (1, .int a1), (2, .int a2), (3, .int a3), (4, .int a4), (6, .int w18)]) hx hb dX12_rests_142 hl (k := 7) rfl (congrArg (fun z => w17 + z) ki_1) (by decide) rfl (fun ls hl => ?_)
                    refine lv_iinc (v := (w18 + 1)) (lv' := [(6, .int (w18 + 1)), (5, .int (w17 + 1)), (8, .int v23), (7, .int v22), (0, .ref (ad 0)), (1, .int a1), (2, .int a2), (3, .int a3), (4, .int a4)]) hx hb dX12_rests_145 hl (k := 8) rfl (congrArg (fun z => w18 + z) ki_1) (by decide) rfl (fun ls hl => ?_)
                    refine lv_goto (tgt := 61) hx hb dX12_rests_148 (by decide) ?_
                    exact ih19 (w17 + 1) (w18 + 1) _ _ _ hP hS (lv_sub hl [4, 5, 6, 7, 8, 1, 0] rfl) hf
                  · replace hf := fx_it c38 hf
                    refine lv_iload hx hb dX12_rests_139 (lv_at hl 8 rfl) ?_
                    exact fx_iretf hf hC hr hk hP hS dX12_rests_141
                · replace hf := fx_ie c37 hf
                  refine lv_goto (tgt := 145) hx hb dX12_rests_129 (by decide) ?_
                  refine lv_iinc (v := (w18 + 1)) (lv' := [(6, .int (w18 + 1)), (8, .int v23), (7, .int v22), (0, .ref (ad 0)), (1, .int a1), (2, .int a2), (3, .int a3), (4, .int a4), (5, .int w17)]) hx hb dX12_rests_145 hl (k := 8) rfl (congrArg (fun z => w18 + z) ki_1) (by decide) rfl (fun ls hl => ?_)
                  refine lv_goto (tgt := 61) hx hb dX12_rests_148 (by decide) ?_
                  exact ih19 w17 (w18 + 1) _ _ _ hP hS (lv_sub hl [3, 4, 5, 6, 7, 8, 0] rfl) hf
        exact L39 FU 0 0 _ _ _ hP hS (lv_sub hl [2, 3, 4, 5, 6, 1, 0] rfl) hf
      · replace hf := fx_it c7 hf
        refine lv_iconst hx hb dX12_rests_53 ki_0 ?_
        exact fx_iretf hf hC hr hk hP hS dX12_rests_54
    obtain ⟨J40, hJ40, hf⟩ := fxL_e hf
    have j_J40 : ∀  (H : Heap) (locs : List Loc) (ls : Array Slot), fx_P D cy LM ad σ H → va_S A s.heap H locs → lv_has ls 9 [(0, .ref (ad 0)), (1, .int a1), (2, .int a2), (3, .int a3), (4, .int a4)] → J40 = some (v, σ') → W p l e (fx_R (1)) s m args below meth c H locs 0 0 (fx_Qi D cy LM ad A below args s v σ') (F0 m 41 ls [.ref (ad 0)]) := by
      intro  H locs ls hP hS hl hf
      replace hf := hJ40.symm.trans hf
      refine lv_iconst hx hb dX12_rests_41 ki_1 ?_
      exact j_J4 1 _ _ _ hP hS (lv_sub hl [0, 1, 2, 3, 4] rfl) hf
    refine lv_if_eq (tgt := 41) hx hb dX12_rests_8 (by decide) (fun c41 => ?_) (fun c41 => ?_)
    · replace hf := fx_it c41 hf
      exact j_J40  _ _ _ hP hS (lv_sub hl [0, 1, 2, 3, 4] rfl) hf
    · replace hf := fx_ie c41 hf
      refine lv_iload_n hx hb dX12_rests_11 rfl (lv_at hl 2 rfl) ?_
      refine lv_iconst hx hb dX12_rests_12 ki_0 ?_
      refine lv_bipush hx hb dX12_rests_13 kb_9 ?_
      obtain ⟨r43, hc42, hf⟩ := fxBP_e hf
      refine fx_ci hC hS (fx_runS (As := [.int a2, .int 0, .int 9]) (rest := [.ref (ad 0)]) hC hP hS (ctX12_within l hc42 D cy ad ec _) kMS_X12_253 kC_X12_within hd_X12_within.2 rfl ⟨(Nat.le_of_ble_eq_true rfl), (Nat.le_of_ble_eq_true rfl)⟩ ⟨Nat.le_refl 0, Nat.le_refl 0⟩ hl.1 (Nat.le_of_ble_eq_true rfl) rfl dX12_rests_15) (fun H locs hP hS => ?_)
      refine lv_if_eq (tgt := 41) hx hb dX12_rests_18 (by decide) (fun c45 => ?_) (fun c45 => ?_)
      · replace hf := fx_it c45 hf
        exact j_J40  _ _ _ hP hS (lv_sub hl [0, 1, 2, 3, 4] rfl) hf
      · replace hf := fx_ie c45 hf
        refine lv_iload_n hx hb dX12_rests_21 rfl (lv_at hl 3 rfl) ?_
        refine lv_iconst hx hb dX12_rests_22 ki_0 ?_
        refine lv_bipush hx hb dX12_rests_23 kb_9 ?_
        obtain ⟨r47, hc46, hf⟩ := fxBP_e hf
        refine fx_ci hC hS (fx_runS (As := [.int a3, .int 0, .int 9]) (rest := [.ref (ad 0)]) hC hP hS (ctX12_within l hc46 D cy ad ec _) kMS_X12_253 kC_X12_within hd_X12_within.2 rfl ⟨(Nat.le_of_ble_eq_true rfl), (Nat.le_of_ble_eq_true rfl)⟩ ⟨Nat.le_refl 0, Nat.le_refl 0⟩ hl.1 (Nat.le_of_ble_eq_true rfl) rfl dX12_rests_25) (fun H locs hP hS => ?_)
        refine lv_if_eq (tgt := 41) hx hb dX12_rests_28 (by decide) (fun c49 => ?_) (fun c49 => ?_)
        · replace hf := fx_it c49 hf
          exact j_J40  _ _ _ hP hS (lv_sub hl [0, 1, 2, 3, 4] rfl) hf
        · replace hf := fx_ie c49 hf
          refine lv_iload hx hb dX12_rests_31 (lv_at hl 4 rfl) ?_
          refine lv_iconst hx hb dX12_rests_33 ki_m1 ?_
          refine lv_icmp_lt (tgt := 41) hx hb dX12_rests_34 (by decide) (fun c50 => ?_) (fun c50 => ?_)
          · replace hf := fx_it c50 hf
            exact j_J40  _ _ _ hP hS (lv_sub hl [0, 1, 2, 3, 4] rfl) hf
          · replace hf := fx_ie c50 hf
            refine lv_iconst hx hb dX12_rests_37 ki_0 ?_
            refine lv_goto (tgt := 42) hx hb dX12_rests_38 (by decide) ?_
            exact j_J4 0 _ _ _ hP hS (lv_sub hl [0, 1, 2, 3, 4] rfl) hf
  exact main _ _ _ hP hS hl

set_option maxHeartbeats 4000000 in
set_option maxRecDepth 100000 in
theorem ctX12_draws (l : Launch) {a1 : Int32} {σ σ' : FH} {v : Int32} (hf : fX12_draws a1 σ = some (v, σ')) : fx_Mi l yX12_draws cX12_draws 2 (some .int) (0) LM (fun ad ec => [.ref (ad 0), .int a1]) σ v σ' := by
  unfold fX12_draws at hf
  refine fx_mi' (own := RX12) rfl (by decide +kernel) ?_
  intro p e s m args below meth c D cy ad ec A hC hr hk hP hS
  have hx := hC.1
  have hb := hC.2.1
  have hl := lv_entry ([.ref (ad 0), .int a1]) (n := 2) (Nat.le_of_ble_eq_true rfl)
  show W _ _ _ _ _ _ _ _ _ _ _ _ _ _ _ (entryFrame m ([.ref (ad 0), .int a1] : List Value).toArray 2)
  rw [lg_entry_eq]
  generalize (lg_sl ([.ref (ad 0), .int a1]) ++ List.replicate (2 - (lg_sl ([.ref (ad 0), .int a1])).length) Slot.unset).toArray = ls at hl ⊢
  have hl : lv_has ls 2 [(0, .ref (ad 0)), (1, .int a1)] := hl
  have main : ∀ (H : Heap) (locs : List Loc) (ls : Array Slot), fx_P D cy LM ad σ H → va_S A s.heap H locs → lv_has ls 2 [(0, .ref (ad 0)), (1, .int a1)] → W p l e (fx_R (0)) s m args below meth c H locs 0 0 (fx_Qi D cy LM ad A below args s v σ') (F0 m 0 ls []) := by
    intro H locs ls hP hS hl
    refine lv_aload_n hx hb dX12_draws_0 rfl (lv_at hl 0 rfl) ?_
    refine lv_aload_n hx hb dX12_draws_1 rfl (lv_at hl 0 rfl) ?_
    refine gf_X12_466 (v := .long (σ.2.1 0 54)) hC hP kM_0 rfl dX12_draws_2 ?_
    refine lv_ldc2 (own := RX12) (v := 1103515245) hx hb hC.2.2.2.1 (hC.2.2.2.2.1 _ kK_X12_469) dX12_draws_5 ?_
    refine lv_lmul hx hb dX12_draws_8 ?_
    refine lv_ldc2 (own := RX12) (v := 12345) hx hb hC.2.2.2.1 (hC.2.2.2.2.1 _ kK_X12_471) dX12_draws_9 ?_
    refine lv_ladd hx hb dX12_draws_12 ?_
    refine lv_ldc2 (own := RX12) (v := 2147483648) hx hb hC.2.2.2.1 (hC.2.2.2.2.1 _ kK_X12_473) dX12_draws_13 ?_
    refine lv_lrem hx hb dX12_draws_16 (by decide) ?_
    obtain ⟨σ1, eσ1, hf⟩ := fxL_e hf
    refine pf_X12_466 hC hP hS kM_0 dX12_draws_17 (fun H locs hP hS => ?_)
    replace hP := fx_Pe eσ1 hP
    refine lv_aload_n hx hb dX12_draws_20 rfl (lv_at hl 0 rfl) ?_
    refine gf_X12_466 (v := .long (σ1.2.1 0 54)) hC hP kM_0 rfl dX12_draws_21 ?_
    refine lv_ldc2 (own := RX12) (v := 65536) hx hb hC.2.2.2.1 (hC.2.2.2.2.1 _ kK_X12_475) dX12_draws_24 ?_
    refine lv_ldiv hx hb dX12_draws_27 (by decide) ?_
    refine lv_iload_n hx hb dX12_draws_28 rfl (lv_at hl 1 rfl) ?_
    refine lv_i2l (v := (Int32.toInt64 a1)) hx hb dX12_draws_29 rfl ?_
    obtain ⟨h2, hf⟩ := fxG_e hf
    refine lv_lrem hx hb dX12_draws_30 h2 ?_
    refine lv_l2i (v := (Int64.toInt32 (((σ1.2.1 0 54) / 65536) - ((σ1.2.1 0 54) / 65536) / (Int32.toInt64 a1) * (Int32.toInt64 a1)))) hx hb dX12_draws_31 rfl ?_
    exact fx_iretf hf hC hr hk hP hS dX12_draws_32
  exact main _ _ _ hP hS hl

set_option maxHeartbeats 4000000 in
set_option maxRecDepth 100000 in
theorem ctX12_livesWeek (l : Launch) {σ σ' : FH} (hf : fX12_livesWeek σ = some σ') : fx_Mv l yX12_livesWeek cX12_livesWeek 4 none (6) LM (fun ad ec => [.ref (ad 0)]) σ σ' := by
  unfold fX12_livesWeek at hf
  refine fx_mv' (own := RX12) rfl (by decide +kernel) ?_
  intro p e s m args below meth c D cy ad ec A hC hr hk hP hS
  have hx := hC.1
  have hb := hC.2.1
  have hl := lv_entry ([.ref (ad 0)]) (n := 4) (Nat.le_of_ble_eq_true rfl)
  show W _ _ _ _ _ _ _ _ _ _ _ _ _ _ _ (entryFrame m ([.ref (ad 0)] : List Value).toArray 4)
  rw [lg_entry_eq]
  generalize (lg_sl ([.ref (ad 0)]) ++ List.replicate (4 - (lg_sl ([.ref (ad 0)])).length) Slot.unset).toArray = ls at hl ⊢
  have hl : lv_has ls 4 [(0, .ref (ad 0))] := hl
  have main : ∀ (H : Heap) (locs : List Loc) (ls : Array Slot), fx_P D cy LM ad σ H → va_S A s.heap H locs → lv_has ls 4 [(0, .ref (ad 0))] → W p l e (fx_R (6)) s m args below meth c H locs 0 0 (fx_Qv D cy LM ad A below args s σ') (F0 m 0 ls []) := by
    intro H locs ls hP hS hl
    refine lv_aload_n hx hb dX12_livesWeek_0 rfl (lv_at hl 0 rfl) ?_
    refine gf_X12_13 (v := .ref (ad 2)) hC hP kM_0 rfl dX12_livesWeek_1 ?_
    refine lv_iconst hx hb dX12_livesWeek_4 ki_0 ?_
    obtain ⟨h1, hf⟩ := fxG_e hf
    refine fx_iald hC hP kM_2 (fx_inp h1) dX12_livesWeek_5 ?_
    obtain ⟨J2, hJ2, hf⟩ := fxL_e hf
    have j_J2 : ∀ (σ3 : FH) (H : Heap) (locs : List Loc) (ls : Array Slot), fx_P D cy LM ad σ3 H → va_S A s.heap H locs → lv_has ls 4 [(0, .ref (ad 0))] → J2 σ3 = some σ' → W p l e (fx_R (6)) s m args below meth c H locs 0 0 (fx_Qv D cy LM ad A below args s σ') (F0 m 120 ls []) := by
      intro σ3 H locs ls hP hS hl hf
      replace hf := fxk1 hJ2 hf
      refine lv_aload_n hx hb dX12_livesWeek_120 rfl (lv_at hl 0 rfl) ?_
      obtain ⟨r5, σ6, hc4, hf⟩ := fxBI_e hf
      refine fx_ci hC hS (fx_runV (i := 0) (As := []) (rest := []) hC hP hS (ctX12_passes l hc4 D cy ad ec _) kM_0 (by decide) rfl kMV_X12_421 kC_X12_passes hd_X12_passes rfl ⟨(Nat.le_of_ble_eq_true rfl), (Nat.le_of_ble_eq_true rfl)⟩ ⟨Nat.le_refl 0, Nat.le_refl 0⟩ hl.1 (Nat.le_of_ble_eq_true rfl) rfl dX12_livesWeek_121) (fun H locs hP hS => ?_)
      refine lv_pop hx hb dX12_livesWeek_124 rfl ?_
      exact fx_vretf hf hC hr hk hP hS dX12_livesWeek_125
    refine lv_if_le (tgt := 120) hx hb dX12_livesWeek_6 (by decide) (fun c7 => ?_) (fun c7 => ?_)
    · replace hf := fx_it c7 hf
      exact j_J2 σ _ _ _ hP hS (lv_sub hl [0] rfl) hf
    · replace hf := fx_ie c7 hf
      refine lv_aload_n hx hb dX12_livesWeek_9 rfl (lv_at hl 0 rfl) ?_
      refine lv_aload_n hx hb dX12_livesWeek_10 rfl (lv_at hl 0 rfl) ?_
      refine gf_X12_13 (v := .ref (ad 2)) hC hP kM_0 rfl dX12_livesWeek_11 ?_
      refine lv_iconst hx hb dX12_livesWeek_14 ki_0 ?_
      obtain ⟨h8, hf⟩ := fxG_e hf
      refine fx_iald hC hP kM_2 (fx_inp h8) dX12_livesWeek_15 ?_
      obtain ⟨r10, σ11, hc9, hf⟩ := fxBI_e hf
      refine fx_ci hC hS (fx_runV (i := 0) (As := [.int (σ.1 2 (Int32.toNatClampNeg 0))]) (rest := []) hC hP hS (ctX12_draws l hc9 D cy ad ec _) kM_0 (by decide) rfl kMV_X12_477 kC_X12_draws hd_X12_draws rfl ⟨(Nat.le_of_ble_eq_true rfl), (Nat.le_of_ble_eq_true rfl)⟩ ⟨Nat.le_refl 0, Nat.le_refl 0⟩ hl.1 (Nat.le_of_ble_eq_true rfl) rfl dX12_livesWeek_16) (fun H locs hP hS => ?_)
      refine lv_istore_n (lv' := [(1, .int r10), (0, .ref (ad 0))]) hx hb dX12_livesWeek_19 rfl hl (by decide) rfl (fun ls hl => ?_)
      refine lv_aload_n hx hb dX12_livesWeek_20 rfl (lv_at hl 1 rfl) ?_
      refine lv_iconst hx hb dX12_livesWeek_21 ki_5 ?_
      obtain ⟨r13, σ14, hc12, hf⟩ := fxBI_e hf
      refine fx_ci hC hS (fx_runV (i := 0) (As := [.int 5]) (rest := []) hC hP hS (ctX12_draws l hc12 D cy ad ec _) kM_0 (by decide) rfl kMV_X12_477 kC_X12_draws hd_X12_draws rfl ⟨(Nat.le_of_ble_eq_true rfl), (Nat.le_of_ble_eq_true rfl)⟩ ⟨Nat.le_refl 0, Nat.le_refl 0⟩ hl.1 (Nat.le_of_ble_eq_true rfl) rfl dX12_livesWeek_22) (fun H locs hP hS => ?_)
      refine lv_istore_n (lv' := [(2, .int r13), (1, .int r10), (0, .ref (ad 0))]) hx hb dX12_livesWeek_25 rfl hl (by decide) rfl (fun ls hl => ?_)
      refine lv_iload_n hx hb dX12_livesWeek_26 rfl (lv_at hl 0 rfl) ?_
      refine lv_iconst hx hb dX12_livesWeek_27 ki_2 ?_
      obtain ⟨J15, hJ15, hf⟩ := fxL_e hf
      have j_J15 : ∀ (y16 : Int32) (σ17 : FH) (H : Heap) (locs : List Loc) (ls : Array Slot), fx_P D cy LM ad σ17 H → va_S A s.heap H locs → lv_has ls 4 [(0, .ref (ad 0)), (1, .int r10), (2, .int r13)] → J15 y16 σ17 = some σ' → W p l e (fx_R (6)) s m args below meth c H locs 0 0 (fx_Qv D cy LM ad A below args s σ') (F0 m 61 ls [.int y16]) := by
        intro y16 σ17 H locs ls hP hS hl hf
        replace hf := fxk2 hJ15 hf
        refine lv_istore_n (lv' := [(3, .int y16), (0, .ref (ad 0)), (1, .int r10), (2, .int r13)]) hx hb dX12_livesWeek_61 rfl hl (by decide) rfl (fun ls hl => ?_)
        refine lv_iload_n hx hb dX12_livesWeek_62 rfl (lv_at hl 3 rfl) ?_
        obtain ⟨J18, hJ18, hf⟩ := fxL_e hf
        have j_J18 : ∀ (σ19 : FH) (H : Heap) (locs : List Loc) (ls : Array Slot), fx_P D cy LM ad σ19 H → va_S A s.heap H locs → lv_has ls 4 [(0, .ref (ad 0)), (1, .int r10), (2, .int r13), (3, .int y16)] → J18 σ19 = some σ' → W p l e (fx_R (6)) s m args below meth c H locs 0 0 (fx_Qv D cy LM ad A below args s σ') (F0 m 88 ls []) := by
          intro σ19 H locs ls hP hS hl hf
          replace hf := fxk1 hJ18 hf
          refine lv_iload_n hx hb dX12_livesWeek_88 rfl (lv_at hl 2 rfl) ?_
          refine lv_iconst hx hb dX12_livesWeek_89 ki_1 ?_
          obtain ⟨J20, hJ20, hf⟩ := fxL_e hf
          have j_J20 : ∀ (σ21 : FH) (H : Heap) (locs : List Loc) (ls : Array Slot), fx_P D cy LM ad σ21 H → va_S A s.heap H locs → lv_has ls 4 [(0, .ref (ad 0)), (1, .int r10), (2, .int r13), (3, .int y16)] → J20 σ21 = some σ' → W p l e (fx_R (6)) s m args below meth c H locs 0 0 (fx_Qv D cy LM ad A below args s σ') (F0 m 100 ls []) := by
            intro σ21 H locs ls hP hS hl hf
            replace hf := fxk1 hJ20 hf
            refine lv_iload_n hx hb dX12_livesWeek_100 rfl (lv_at hl 2 rfl) ?_
            refine lv_iconst hx hb dX12_livesWeek_101 ki_2 ?_
            refine lv_icmp_ne (tgt := 120) hx hb dX12_livesWeek_102 (by decide) (fun c22 => ?_) (fun c22 => ?_)
            · replace hf := fx_ie c22 hf
              exact j_J2 σ21 _ _ _ hP hS (lv_sub hl [0] rfl) hf
            · replace hf := fx_it c22 hf
              refine lv_aload_n hx hb dX12_livesWeek_105 rfl (lv_at hl 0 rfl) ?_
              refine lv_iload_n hx hb dX12_livesWeek_106 rfl (lv_at hl 1 rfl) ?_
              refine lv_iload_n hx hb dX12_livesWeek_107 rfl (lv_at hl 3 rfl) ?_
              obtain ⟨r24, hc23, hf⟩ := fxBP_e hf
              refine fx_ci hC hS (fx_runV (i := 0) (As := [.int r10, .int y16]) (rest := []) hC hP hS (ctX12_canJoin l hc23 D cy ad ec _) kM_0 (by decide) rfl kMV_X12_408 kC_X12_canJoin hd_X12_canJoin rfl ⟨(Nat.le_of_ble_eq_true rfl), (Nat.le_of_ble_eq_true rfl)⟩ ⟨Nat.le_refl 0, Nat.le_refl 0⟩ hl.1 (Nat.le_of_ble_eq_true rfl) rfl dX12_livesWeek_108) (fun H locs hP hS => ?_)
              refine lv_if_eq (tgt := 120) hx hb dX12_livesWeek_111 (by decide) (fun c26 => ?_) (fun c26 => ?_)
              · replace hf := fx_it c26 hf
                exact j_J2 σ21 _ _ _ hP hS (lv_sub hl [0] rfl) hf
              · replace hf := fx_ie c26 hf
                refine lv_aload_n hx hb dX12_livesWeek_114 rfl (lv_at hl 0 rfl) ?_
                refine lv_iload_n hx hb dX12_livesWeek_115 rfl (lv_at hl 1 rfl) ?_
                refine lv_iload_n hx hb dX12_livesWeek_116 rfl (lv_at hl 3 rfl) ?_
                obtain ⟨σ29, hc27, hf⟩ := fxBV_e hf
                refine fx_cv hC hS (fx_runV (i := 0) (As := [.int r10, .int y16]) (rest := []) hC hP hS (ctX12_joins l hc27 D cy ad ec _) kM_0 (by decide) rfl kMV_X12_411 kC_X12_joins hd_X12_joins rfl ⟨(Nat.le_of_ble_eq_true rfl), (Nat.le_of_ble_eq_true rfl)⟩ ⟨Nat.le_refl 0, Nat.le_refl 0⟩ hl.1 (Nat.le_of_ble_eq_true rfl) rfl dX12_livesWeek_117) (fun H locs hP hS => ?_)
                exact j_J2 σ29 _ _ _ hP hS (lv_sub hl [0] rfl) hf
          refine lv_icmp_ne (tgt := 100) hx hb dX12_livesWeek_90 (by decide) (fun c30 => ?_) (fun c30 => ?_)
          · replace hf := fx_ie c30 hf
            exact j_J20 σ19 _ _ _ hP hS (lv_sub hl [0, 1, 2, 3] rfl) hf
          · replace hf := fx_it c30 hf
            refine lv_aload_n hx hb dX12_livesWeek_93 rfl (lv_at hl 0 rfl) ?_
            refine lv_iload_n hx hb dX12_livesWeek_94 rfl (lv_at hl 1 rfl) ?_
            refine lv_iload_n hx hb dX12_livesWeek_95 rfl (lv_at hl 3 rfl) ?_
            obtain ⟨r32, σ33, hc31, hf⟩ := fxBI_e hf
            refine fx_ci hC hS (fx_runV (i := 0) (As := [.int r10, .int y16]) (rest := []) hC hP hS (ctX12_works l hc31 D cy ad ec _) kM_0 (by decide) rfl kMV_X12_377 kC_X12_works hd_X12_works rfl ⟨(Nat.le_of_ble_eq_true rfl), (Nat.le_of_ble_eq_true rfl)⟩ ⟨Nat.le_refl 0, Nat.le_refl 0⟩ hl.1 (Nat.le_of_ble_eq_true rfl) rfl dX12_livesWeek_96) (fun H locs hP hS => ?_)
            refine lv_pop hx hb dX12_livesWeek_99 rfl ?_
            exact j_J20 σ33 _ _ _ hP hS (lv_sub hl [0, 1, 2, 3] rfl) hf
        refine lv_if_ne (tgt := 88) hx hb dX12_livesWeek_63 (by decide) (fun c34 => ?_) (fun c34 => ?_)
        · replace hf := fx_ie c34 hf
          exact j_J18 σ17 _ _ _ hP hS (lv_sub hl [1, 2, 3, 0] rfl) hf
        · replace hf := fx_it c34 hf
          refine lv_aload_n hx hb dX12_livesWeek_66 rfl (lv_at hl 1 rfl) ?_
          refine gf_X12_108 (v := .ref (ad 33)) hC hP kM_0 rfl dX12_livesWeek_67 ?_
          refine lv_iconst hx hb dX12_livesWeek_70 ki_3 ?_
          refine lv_iload_n hx hb dX12_livesWeek_71 rfl (lv_at hl 2 rfl) ?_
          refine lv_iadd hx hb dX12_livesWeek_72 ?_
          refine lv_iconst hx hb dX12_livesWeek_73 ki_0 ?_
          refine lv_aload_n hx hb dX12_livesWeek_74 rfl (lv_at hl 1 rfl) ?_
          refine gf_X12_108 (v := .ref (ad 33)) hC hP kM_0 rfl dX12_livesWeek_75 ?_
          refine lv_iconst hx hb dX12_livesWeek_78 ki_3 ?_
          refine lv_iload_n hx hb dX12_livesWeek_79 rfl (lv_at hl 2 rfl) ?_
          refine lv_iadd hx hb dX12_livesWeek_80 ?_
          obtain ⟨h35, hf⟩ := fxG_e hf
          refine fx_iald hC hP kM_33 (fx_inp h35) dX12_livesWeek_81 ?_
          refine lv_iload_n hx hb dX12_livesWeek_82 rfl (lv_at hl 0 rfl) ?_
          refine lv_isub hx hb dX12_livesWeek_83 ?_
          refine fx_max hC hl.1 kL_X12_360 kMt_max kMi kMc_max (Nat.le_of_ble_eq_true rfl) (Nat.le_of_ble_eq_true rfl) ⟨Nat.le_refl 0, Nat.le_refl 0⟩ dX12_livesWeek_84 ?_
          obtain ⟨h36, hf⟩ := fxG_e hf
          obtain ⟨σ37, eσ37, hf⟩ := fxL_e hf
          refine fx_iast hC hP hS kM_33 (fx_inp h36) dX12_livesWeek_87 (fun H locs hP hS => ?_)
          replace hP := fx_Pe eσ37 hP
          exact j_J18 σ37 _ _ _ hP hS (lv_sub hl [1, 2, 3, 0] rfl) hf
      refine lv_icmp_ge (tgt := 42) hx hb dX12_livesWeek_28 (by decide) (fun c38 => ?_) (fun c38 => ?_)
      · replace hf := fx_it c38 hf
        refine lv_iload_n hx hb dX12_livesWeek_42 rfl (lv_at hl 0 rfl) ?_
        refine lv_iconst hx hb dX12_livesWeek_43 ki_2 ?_
        refine lv_icmp_ne (tgt := 60) hx hb dX12_livesWeek_44 (by decide) (fun c39 => ?_) (fun c39 => ?_)
        · replace hf := fx_ie c39 hf
          refine lv_iconst hx hb dX12_livesWeek_60 ki_0 ?_
          exact j_J15 0 σ14 _ _ _ hP hS (lv_sub hl [2, 1, 0] rfl) hf
        · replace hf := fx_it c39 hf
          refine lv_aload_n hx hb dX12_livesWeek_47 rfl (lv_at hl 2 rfl) ?_
          refine lv_aload_n hx hb dX12_livesWeek_48 rfl (lv_at hl 2 rfl) ?_
          refine gf_X12_13 (v := .ref (ad 2)) hC hP kM_0 rfl dX12_livesWeek_49 ?_
          refine lv_iconst hx hb dX12_livesWeek_52 ki_0 ?_
          obtain ⟨h40, hf⟩ := fxG_e hf
          refine fx_iald hC hP kM_2 (fx_inp h40) dX12_livesWeek_53 ?_
          obtain ⟨r42, σ43, hc41, hf⟩ := fxBI_e hf
          refine fx_ci hC hS (fx_runV (i := 0) (As := [.int (σ14.1 2 (Int32.toNatClampNeg 0))]) (rest := []) hC hP hS (ctX12_draws l hc41 D cy ad ec _) kM_0 (by decide) rfl kMV_X12_477 kC_X12_draws hd_X12_draws rfl ⟨(Nat.le_of_ble_eq_true rfl), (Nat.le_of_ble_eq_true rfl)⟩ ⟨Nat.le_refl 0, Nat.le_refl 0⟩ hl.1 (Nat.le_of_ble_eq_true rfl) rfl dX12_livesWeek_54) (fun H locs hP hS => ?_)
          refine lv_goto (tgt := 61) hx hb dX12_livesWeek_57 (by decide) ?_
          exact j_J15 r42 σ43 _ _ _ hP hS (lv_sub hl [2, 1, 0] rfl) hf
      · replace hf := fx_ie c38 hf
        refine lv_aload_n hx hb dX12_livesWeek_31 rfl (lv_at hl 2 rfl) ?_
        refine lv_bipush hx hb dX12_livesWeek_32 kb_20 ?_
        obtain ⟨r45, σ46, hc44, hf⟩ := fxBI_e hf
        refine fx_ci hC hS (fx_runV (i := 0) (As := [.int 20]) (rest := []) hC hP hS (ctX12_draws l hc44 D cy ad ec _) kM_0 (by decide) rfl kMV_X12_477 kC_X12_draws hd_X12_draws rfl ⟨(Nat.le_of_ble_eq_true rfl), (Nat.le_of_ble_eq_true rfl)⟩ ⟨Nat.le_refl 0, Nat.le_refl 0⟩ hl.1 (Nat.le_of_ble_eq_true rfl) rfl dX12_livesWeek_34) (fun H locs hP hS => ?_)
        refine lv_iconst hx hb dX12_livesWeek_37 ki_1 ?_
        refine lv_iadd hx hb dX12_livesWeek_38 ?_
        refine lv_goto (tgt := 61) hx hb dX12_livesWeek_39 (by decide) ?_
        exact j_J15 (r45 + 1) σ46 _ _ _ hP hS (lv_sub hl [2, 1, 0] rfl) hf
  exact main _ _ _ hP hS hl

set_option maxHeartbeats 4000000 in
set_option maxRecDepth 100000 in
theorem ctX12_allDone (l : Launch) {σ : FH} {v : Int32} (hf : fX12_allDone σ = some v) : fx_Mi l yX12_allDone cX12_allDone 3 (some .int) (0) LM (fun ad ec => [.ref (ad 0)]) σ v σ := by
  unfold fX12_allDone at hf
  refine fx_mi' (own := RX12) rfl (by decide +kernel) ?_
  intro p e s m args below meth c D cy ad ec A hC hr hk hP hS
  have hx := hC.1
  have hb := hC.2.1
  have hl := lv_entry ([.ref (ad 0)]) (n := 3) (Nat.le_of_ble_eq_true rfl)
  show W _ _ _ _ _ _ _ _ _ _ _ _ _ _ _ (entryFrame m ([.ref (ad 0)] : List Value).toArray 3)
  rw [lg_entry_eq]
  generalize (lg_sl ([.ref (ad 0)]) ++ List.replicate (3 - (lg_sl ([.ref (ad 0)])).length) Slot.unset).toArray = ls at hl ⊢
  have hl : lv_has ls 3 [(0, .ref (ad 0))] := hl
  have main : ∀ (H : Heap) (locs : List Loc) (ls : Array Slot), fx_P D cy LM ad σ H → va_S A s.heap H locs → lv_has ls 3 [(0, .ref (ad 0))] → W p l e (fx_R (0)) s m args below meth c H locs 0 0 (fx_Qi D cy LM ad A below args s v σ) (F0 m 0 ls []) := by
    intro H locs ls hP hS hl
    refine lv_iconst hx hb dX12_allDone_0 ki_0 ?_
    refine lv_istore_n (lv' := [(1, .int 0), (0, .ref (ad 0))]) hx hb dX12_allDone_1 rfl hl (by decide) rfl (fun ls hl => ?_)
    refine lv_iconst hx hb dX12_allDone_2 ki_0 ?_
    refine lv_istore_n (lv' := [(2, .int 0), (1, .int 0), (0, .ref (ad 0))]) hx hb dX12_allDone_3 rfl hl (by decide) rfl (fun ls hl => ?_)
    obtain ⟨K1, hK1, hf⟩ := fxL_e hf
    have k_K1 : ∀ (x2 : Int32) (H : Heap) (locs : List Loc) (ls : Array Slot), fx_P D cy LM ad σ H → va_S A s.heap H locs → lv_has ls 3 [(1, .int x2)] → K1 x2 = some v → W p l e (fx_R (0)) s m args below meth c H locs 0 0 (fx_Qi D cy LM ad A below args s v σ) (F0 m 27 ls []) := by
      intro x2 H locs ls hP hS hl hf
      replace hf := fxk1 hK1 hf
      refine lv_iload_n hx hb dX12_allDone_27 rfl (lv_at hl 0 rfl) ?_
      exact fx_iretp hf hC hr hk hP hS dX12_allDone_28
    have L10 : ∀ (n6 : Nat) (w3 : Int32) (w4 : Int32) (H : Heap) (locs : List Loc) (ls : Array Slot), fx_P D cy LM ad σ H → va_S A s.heap H locs → lv_has ls 3 [(0, .ref (ad 0)), (1, .int w3), (2, .int w4)] → fX12_allDone_4 σ K1 n6 w3 w4 = some v → W p l e (fx_R (0)) s m args below meth c H locs 0 0 (fx_Qi D cy LM ad A below args s v σ) (F0 m 4 ls []) := by
      intro n6
      induction n6 with
      | zero =>
        intro w3 w4 H locs ls hP hS hl hf
        rw [fX12_allDone_4] at hf
        cases hf
      | succ n6 ih5 =>
        intro w3 w4 H locs ls hP hS hl hf
        rw [fX12_allDone_4] at hf
        refine lv_iload_n hx hb dX12_allDone_4 rfl (lv_at hl 2 rfl) ?_
        refine lv_bipush hx hb dX12_allDone_5 kb_6 ?_
        refine lv_icmp_ge (tgt := 27) hx hb dX12_allDone_7 (by decide) (fun c7 => ?_) (fun c7 => ?_)
        · replace hf := fx_it c7 hf
          exact k_K1 w3 _ _ _ hP hS (lv_sub hl [1] rfl) hf
        · replace hf := fx_ie c7 hf
          refine lv_iload_n hx hb dX12_allDone_10 rfl (lv_at hl 1 rfl) ?_
          refine lv_aload_n hx hb dX12_allDone_11 rfl (lv_at hl 0 rfl) ?_
          refine gf_X12_108 (v := .ref (ad 33)) hC hP kM_0 rfl dX12_allDone_12 ?_
          refine lv_iconst hx hb dX12_allDone_15 ki_3 ?_
          refine lv_iload_n hx hb dX12_allDone_16 rfl (lv_at hl 2 rfl) ?_
          refine lv_iadd hx hb dX12_allDone_17 ?_
          obtain ⟨h8, hf⟩ := fxG_e hf
          refine fx_iald hC hP kM_33 (fx_inp h8) dX12_allDone_18 ?_
          refine lv_iadd hx hb dX12_allDone_19 ?_
          obtain ⟨v9, ev9, hf⟩ := fxL_e hf
          refine fx_ti ev9 ?_
          refine lv_istore_n (lv' := [(1, .int v9), (0, .ref (ad 0)), (2, .int w4)]) hx hb dX12_allDone_20 rfl hl (by decide) rfl (fun ls hl => ?_)
          refine lv_iinc (v := (w4 + 1)) (lv' := [(2, .int (w4 + 1)), (1, .int v9), (0, .ref (ad 0))]) hx hb dX12_allDone_21 hl (k := 2) rfl (congrArg (fun z => w4 + z) ki_1) (by decide) rfl (fun ls hl => ?_)
          refine lv_goto (tgt := 4) hx hb dX12_allDone_24 (by decide) ?_
          exact ih5 v9 (w4 + 1) _ _ _ hP hS (lv_sub hl [2, 1, 0] rfl) hf
    exact L10 FU 0 0 _ _ _ hP hS (lv_sub hl [2, 1, 0] rfl) hf
  exact main _ _ _ hP hS hl

set_option maxHeartbeats 4000000 in
set_option maxRecDepth 100000 in
theorem ctX12_terms (l : Launch) {a1 : Int32} {a2 : Int32} {a3 : Int32} {σ σ' : FH} {v : Int32} (hf : fX12_terms a1 a2 a3 σ = some (v, σ')) : fx_Mi l yX12_terms cX12_terms 7 (some .int) (7) LM (fun ad ec => [.ref (ad 0), .int a1, .int a2, .int a3]) σ v σ' := by
  unfold fX12_terms at hf
  refine fx_mi' (own := RX12) rfl (by decide +kernel) ?_
  intro p e s m args below meth c D cy ad ec A hC hr hk hP hS
  have hx := hC.1
  have hb := hC.2.1
  have hl := lv_entry ([.ref (ad 0), .int a1, .int a2, .int a3]) (n := 7) (Nat.le_of_ble_eq_true rfl)
  show W _ _ _ _ _ _ _ _ _ _ _ _ _ _ _ (entryFrame m ([.ref (ad 0), .int a1, .int a2, .int a3] : List Value).toArray 7)
  rw [lg_entry_eq]
  generalize (lg_sl ([.ref (ad 0), .int a1, .int a2, .int a3]) ++ List.replicate (7 - (lg_sl ([.ref (ad 0), .int a1, .int a2, .int a3])).length) Slot.unset).toArray = ls at hl ⊢
  have hl : lv_has ls 7 [(0, .ref (ad 0)), (1, .int a1), (2, .int a2), (3, .int a3)] := hl
  have main : ∀ (H : Heap) (locs : List Loc) (ls : Array Slot), fx_P D cy LM ad σ H → va_S A s.heap H locs → lv_has ls 7 [(0, .ref (ad 0)), (1, .int a1), (2, .int a2), (3, .int a3)] → W p l e (fx_R (7)) s m args below meth c H locs 0 0 (fx_Qi D cy LM ad A below args s v σ') (F0 m 0 ls []) := by
    intro H locs ls hP hS hl
    refine lv_aload_n hx hb dX12_terms_0 rfl (lv_at hl 0 rfl) ?_
    refine lv_iconst hx hb dX12_terms_1 ki_0 ?_
    obtain ⟨σ1, eσ1, hf⟩ := fxL_e hf
    refine pf_X12_133 hC hP hS kM_0 dX12_terms_2 (fun H locs hP hS => ?_)
    replace hP := fx_Pe eσ1 hP
    refine lv_iload_n hx hb dX12_terms_5 rfl (lv_at hl 1 rfl) ?_
    refine lv_iconst hx hb dX12_terms_6 ki_0 ?_
    refine lv_sipush hx hb dX12_terms_7 ks_9999 ?_
    obtain ⟨r3, hc2, hf⟩ := fxBP_e hf
    refine fx_ci hC hS (fx_runS (As := [.int a1, .int 0, .int 9999]) (rest := []) hC hP hS (ctX12_within l hc2 D cy ad ec _) kMS_X12_253 kC_X12_within hd_X12_within.2 rfl ⟨(Nat.le_of_ble_eq_true rfl), (Nat.le_of_ble_eq_true rfl)⟩ ⟨Nat.le_refl 0, Nat.le_refl 0⟩ hl.1 (Nat.le_of_ble_eq_true rfl) rfl dX12_terms_10) (fun H locs hP hS => ?_)
    refine lv_if_eq (tgt := 35) hx hb dX12_terms_13 (by decide) (fun c5 => ?_) (fun c5 => ?_)
    · replace hf := fx_it c5 hf
      refine lv_iconst hx hb dX12_terms_35 ki_m1 ?_
      exact fx_iretf hf hC hr hk hP hS dX12_terms_36
    · replace hf := fx_ie c5 hf
      refine lv_iload_n hx hb dX12_terms_16 rfl (lv_at hl 2 rfl) ?_
      refine lv_iconst hx hb dX12_terms_17 ki_1 ?_
      refine lv_bipush hx hb dX12_terms_18 kb_99 ?_
      obtain ⟨r7, hc6, hf⟩ := fxBP_e hf
      refine fx_ci hC hS (fx_runS (As := [.int a2, .int 1, .int 99]) (rest := []) hC hP hS (ctX12_within l hc6 D cy ad ec _) kMS_X12_253 kC_X12_within hd_X12_within.2 rfl ⟨(Nat.le_of_ble_eq_true rfl), (Nat.le_of_ble_eq_true rfl)⟩ ⟨Nat.le_refl 0, Nat.le_refl 0⟩ hl.1 (Nat.le_of_ble_eq_true rfl) rfl dX12_terms_20) (fun H locs hP hS => ?_)
      refine lv_if_eq (tgt := 35) hx hb dX12_terms_23 (by decide) (fun c9 => ?_) (fun c9 => ?_)
      · replace hf := fx_it c9 hf
        refine lv_iconst hx hb dX12_terms_35 ki_m1 ?_
        exact fx_iretf hf hC hr hk hP hS dX12_terms_36
      · replace hf := fx_ie c9 hf
        refine lv_iload_n hx hb dX12_terms_26 rfl (lv_at hl 3 rfl) ?_
        refine lv_iconst hx hb dX12_terms_27 ki_0 ?_
        refine lv_iconst hx hb dX12_terms_28 ki_2 ?_
        obtain ⟨r11, hc10, hf⟩ := fxBP_e hf
        refine fx_ci hC hS (fx_runS (As := [.int a3, .int 0, .int 2]) (rest := []) hC hP hS (ctX12_within l hc10 D cy ad ec _) kMS_X12_253 kC_X12_within hd_X12_within.2 rfl ⟨(Nat.le_of_ble_eq_true rfl), (Nat.le_of_ble_eq_true rfl)⟩ ⟨Nat.le_refl 0, Nat.le_refl 0⟩ hl.1 (Nat.le_of_ble_eq_true rfl) rfl dX12_terms_29) (fun H locs hP hS => ?_)
        refine lv_if_ne (tgt := 37) hx hb dX12_terms_32 (by decide) (fun c13 => ?_) (fun c13 => ?_)
        · replace hf := fx_ie c13 hf
          refine lv_aload_n hx hb dX12_terms_37 rfl (lv_at hl 0 rfl) ?_
          refine lv_iload_n hx hb dX12_terms_38 rfl (lv_at hl 1 rfl) ?_
          refine lv_i2l (v := (Int32.toInt64 a1)) hx hb dX12_terms_39 rfl ?_
          obtain ⟨σ14, eσ14, hf⟩ := fxL_e hf
          refine pf_X12_466 hC hP hS kM_0 dX12_terms_40 (fun H locs hP hS => ?_)
          replace hP := fx_Pe eσ14 hP
          refine lv_aload_n hx hb dX12_terms_43 rfl (lv_at hl 0 rfl) ?_
          refine gf_X12_108 (v := .ref (ad 33)) hC hP kM_0 rfl dX12_terms_44 ?_
          refine lv_iconst hx hb dX12_terms_47 ki_0 ?_
          refine lv_aload_n hx hb dX12_terms_48 rfl (lv_at hl 0 rfl) ?_
          refine gf_X12_111 (v := .ref (ad 34)) hC hP kM_0 rfl dX12_terms_49 ?_
          refine lv_iconst hx hb dX12_terms_52 ki_0 ?_
          obtain ⟨σ17, hc15, hf⟩ := fxBV_e hf
          refine fx_cv hC hS (fx_runS (As := [.ref (ad 33), .int 0, .ref (ad 34), .int 0]) (rest := []) hC hP hS (ctX12_copies l hc15 D cy ad ec _) kMS_X12_401 kC_X12_copies hd_X12_copies.2 rfl ⟨(Nat.le_of_ble_eq_true rfl), (Nat.le_of_ble_eq_true rfl)⟩ ⟨Nat.le_refl 0, Nat.le_refl 0⟩ hl.1 (Nat.le_of_ble_eq_true rfl) rfl dX12_terms_53) (fun H locs hP hS => ?_)
          refine lv_iconst hx hb dX12_terms_56 ki_0 ?_
          refine lv_istore (lv' := [(4, .int 0), (0, .ref (ad 0)), (1, .int a1), (2, .int a2), (3, .int a3)]) hx hb dX12_terms_57 hl (by decide) rfl (fun ls hl => ?_)
          obtain ⟨K18, hK18, hf⟩ := fxL_e hf
          have k_K18 : ∀ (σ19 : FH) (H : Heap) (locs : List Loc) (ls : Array Slot), fx_P D cy LM ad σ19 H → va_S A s.heap H locs → lv_has ls 7 [(0, .ref (ad 0)), (3, .int a3)] → K18 σ19 = some (v, σ') → W p l e (fx_R (7)) s m args below meth c H locs 0 0 (fx_Qi D cy LM ad A below args s v σ') (F0 m 75 ls []) := by
            intro σ19 H locs ls hP hS hl hf
            replace hf := fxk1 hK18 hf
            refine lv_aload_n hx hb dX12_terms_75 rfl (lv_at hl 0 rfl) ?_
            refine gf_X12_108 (v := .ref (ad 33)) hC hP kM_0 rfl dX12_terms_76 ?_
            refine lv_iconst hx hb dX12_terms_79 ki_1 ?_
            obtain ⟨h20, hf⟩ := fxG_e hf
            refine fx_iald hC hP kM_33 (fx_inp h20) dX12_terms_80 ?_
            refine lv_aload_n hx hb dX12_terms_81 rfl (lv_at hl 0 rfl) ?_
            refine gf_X12_111 (v := .ref (ad 34)) hC hP kM_0 rfl dX12_terms_82 ?_
            refine lv_iconst hx hb dX12_terms_85 ki_1 ?_
            obtain ⟨h21, hf⟩ := fxG_e hf
            refine fx_iald hC hP kM_34 (fx_inp h21) dX12_terms_86 ?_
            refine lv_isub hx hb dX12_terms_87 ?_
            obtain ⟨v22, ev22, hf⟩ := fxL_e hf
            refine fx_ti ev22 ?_
            refine lv_istore (lv' := [(4, .int v22), (0, .ref (ad 0)), (3, .int a3)]) hx hb dX12_terms_88 hl (by decide) rfl (fun ls hl => ?_)
            refine lv_aload_n hx hb dX12_terms_90 rfl (lv_at hl 1 rfl) ?_
            refine gf_X12_108 (v := .ref (ad 33)) hC hP kM_0 rfl dX12_terms_91 ?_
            refine lv_iconst hx hb dX12_terms_94 ki_2 ?_
            obtain ⟨h23, hf⟩ := fxG_e hf
            refine fx_iald hC hP kM_33 (fx_inp h23) dX12_terms_95 ?_
            refine lv_aload_n hx hb dX12_terms_96 rfl (lv_at hl 1 rfl) ?_
            refine gf_X12_111 (v := .ref (ad 34)) hC hP kM_0 rfl dX12_terms_97 ?_
            refine lv_iconst hx hb dX12_terms_100 ki_2 ?_
            obtain ⟨h24, hf⟩ := fxG_e hf
            refine fx_iald hC hP kM_34 (fx_inp h24) dX12_terms_101 ?_
            refine lv_isub hx hb dX12_terms_102 ?_
            obtain ⟨v25, ev25, hf⟩ := fxL_e hf
            refine fx_ti ev25 ?_
            refine lv_istore (lv' := [(5, .int v25), (4, .int v22), (0, .ref (ad 0)), (3, .int a3)]) hx hb dX12_terms_103 hl (by decide) rfl (fun ls hl => ?_)
            refine lv_aload_n hx hb dX12_terms_105 rfl (lv_at hl 2 rfl) ?_
            obtain ⟨r27, hc26, hf⟩ := fxBP_e hf
            refine fx_ci hC hS (fx_runV (i := 0) (As := []) (rest := []) hC hP hS (ctX12_allDone l hc26 D cy ad ec _) kM_0 (by decide) rfl kMV_X12_483 kC_X12_allDone hd_X12_allDone rfl ⟨(Nat.le_of_ble_eq_true rfl), (Nat.le_of_ble_eq_true rfl)⟩ ⟨Nat.le_refl 0, Nat.le_refl 0⟩ hl.1 (Nat.le_of_ble_eq_true rfl) rfl dX12_terms_106) (fun H locs hP hS => ?_)
            refine lv_istore (lv' := [(6, .int r27), (5, .int v25), (4, .int v22), (0, .ref (ad 0)), (3, .int a3)]) hx hb dX12_terms_109 hl (by decide) rfl (fun ls hl => ?_)
            refine lv_aload_n hx hb dX12_terms_111 rfl (lv_at hl 3 rfl) ?_
            refine gf_X12_111 (v := .ref (ad 34)) hC hP kM_0 rfl dX12_terms_112 ?_
            refine lv_iconst hx hb dX12_terms_115 ki_0 ?_
            refine lv_aload_n hx hb dX12_terms_116 rfl (lv_at hl 3 rfl) ?_
            refine gf_X12_108 (v := .ref (ad 33)) hC hP kM_0 rfl dX12_terms_117 ?_
            refine lv_iconst hx hb dX12_terms_120 ki_0 ?_
            obtain ⟨σ31, hc29, hf⟩ := fxBV_e hf
            refine fx_cv hC hS (fx_runS (As := [.ref (ad 34), .int 0, .ref (ad 33), .int 0]) (rest := []) hC hP hS (ctX12_copies l hc29 D cy ad ec _) kMS_X12_401 kC_X12_copies hd_X12_copies.2 rfl ⟨(Nat.le_of_ble_eq_true rfl), (Nat.le_of_ble_eq_true rfl)⟩ ⟨Nat.le_refl 0, Nat.le_refl 0⟩ hl.1 (Nat.le_of_ble_eq_true rfl) rfl dX12_terms_121) (fun H locs hP hS => ?_)
            refine lv_iload_n hx hb dX12_terms_124 rfl (lv_at hl 4 rfl) ?_
            obtain ⟨v32, ev32, hf⟩ := fxL_e hf
            have j_v32 : ∀ (z33 : Int32), z33 = ((if a3 = 0 then v22 else (if a3 = 1 then v25 else r27)) : Int32) → ∀ (ls : Array Slot), lv_has ls 7 [] → W p l e (fx_R (7)) s m args below meth c H locs 0 0 (fx_Qi D cy LM ad A below args s v σ') (F0 m 145 ls [.int z33]) := by
              intro z33 hz33 ls hl
              obtain rfl : v32 = z33 := ev32.trans hz33.symm
              exact fx_iretf hf hC hr hk hP hS dX12_terms_145
            refine lv_if_ne (tgt := 133) hx hb dX12_terms_125 (by decide) (fun c34 => ?_) (fun c34 => ?_)
            · refine lv_iload_n hx hb dX12_terms_133 rfl (lv_at hl 4 rfl) ?_
              refine lv_iconst hx hb dX12_terms_134 ki_1 ?_
              refine lv_icmp_ne (tgt := 143) hx hb dX12_terms_135 (by decide) (fun c35 => ?_) (fun c35 => ?_)
              · refine lv_iload hx hb dX12_terms_143 (lv_at hl 0 rfl) ?_
                exact j_v32 r27 ((if_neg c34).trans (if_neg c35)).symm ls (lv_sub hl [] rfl)
              · refine lv_iload hx hb dX12_terms_138 (lv_at hl 1 rfl) ?_
                refine lv_goto (tgt := 145) hx hb dX12_terms_140 (by decide) ?_
                exact j_v32 v25 ((if_neg c34).trans (if_pos c35)).symm ls (lv_sub hl [] rfl)
            · refine lv_iload hx hb dX12_terms_128 (lv_at hl 2 rfl) ?_
              refine lv_goto (tgt := 145) hx hb dX12_terms_130 (by decide) ?_
              exact j_v32 v22 (if_pos c34).symm ls (lv_sub hl [] rfl)
          have L44 : ∀ (n39 : Nat) (w36 : Int32) (σ37 : FH) (H : Heap) (locs : List Loc) (ls : Array Slot), fx_P D cy LM ad σ37 H → va_S A s.heap H locs → lv_has ls 7 [(0, .ref (ad 0)), (2, .int a2), (3, .int a3), (4, .int w36)] → fX12_terms_59 a2 K18 n39 w36 σ37 = some (v, σ') → W p l e (fx_R (7)) s m args below meth c H locs 0 0 (fx_Qi D cy LM ad A below args s v σ') (F0 m 59 ls []) := by
            intro n39
            induction n39 with
            | zero =>
              intro w36 σ37 H locs ls hP hS hl hf
              rw [fX12_terms_59] at hf
              cases hf
            | succ n39 ih38 =>
              intro w36 σ37 H locs ls hP hS hl hf
              rw [fX12_terms_59] at hf
              refine lv_iload hx hb dX12_terms_59 (lv_at hl 3 rfl) ?_
              refine lv_iload_n hx hb dX12_terms_61 rfl (lv_at hl 1 rfl) ?_
              refine lv_icmp_ge (tgt := 75) hx hb dX12_terms_62 (by decide) (fun c40 => ?_) (fun c40 => ?_)
              · replace hf := fx_it c40 hf
                exact k_K18 σ37 _ _ _ hP hS (lv_sub hl [0, 2] rfl) hf
              · replace hf := fx_ie c40 hf
                refine lv_aload_n hx hb dX12_terms_65 rfl (lv_at hl 0 rfl) ?_
                obtain ⟨σ43, hc41, hf⟩ := fxBV_e hf
                refine fx_cv hC hS (fx_runV (i := 0) (As := []) (rest := []) hC hP hS (ctX12_livesWeek l hc41 D cy ad ec _) kM_0 (by decide) rfl kMV_X12_480 kC_X12_livesWeek hd_X12_livesWeek rfl ⟨(Nat.le_of_ble_eq_true rfl), (Nat.le_of_ble_eq_true rfl)⟩ ⟨Nat.le_refl 0, Nat.le_refl 0⟩ hl.1 (Nat.le_of_ble_eq_true rfl) rfl dX12_terms_66) (fun H locs hP hS => ?_)
                refine lv_iinc (v := (w36 + 1)) (lv' := [(4, .int (w36 + 1)), (0, .ref (ad 0)), (2, .int a2), (3, .int a3)]) hx hb dX12_terms_69 hl (k := 3) rfl (congrArg (fun z => w36 + z) ki_1) (by decide) rfl (fun ls hl => ?_)
                refine lv_goto (tgt := 59) hx hb dX12_terms_72 (by decide) ?_
                exact ih38 (w36 + 1) σ43 _ _ _ hP hS (lv_sub hl [1, 2, 3, 0] rfl) hf
          exact L44 FU 0 σ17 _ _ _ hP hS (lv_sub hl [1, 3, 4, 0] rfl) hf
        · replace hf := fx_it c13 hf
          refine lv_iconst hx hb dX12_terms_35 ki_m1 ?_
          exact fx_iretf hf hC hr hk hP hS dX12_terms_36
  exact main _ _ _ hP hS hl

set_option maxHeartbeats 4000000 in
set_option maxRecDepth 100000 in
theorem ctX12_mark (l : Launch) {a1 : Int32} {a2 : Int32} {σ σ' : FH} {v : Int32} (hf : fX12_mark a1 a2 σ = some (v, σ')) : fx_Mi l yX12_mark cX12_mark 5 (some .boolean) (1) LM (fun ad ec => [.ref (ad 0), .int a1, .int a2]) σ v σ' := by
  unfold fX12_mark at hf
  refine fx_mi' (own := RX12) rfl (by decide +kernel) ?_
  intro p e s m args below meth c D cy ad ec A hC hr hk hP hS
  have hx := hC.1
  have hb := hC.2.1
  have hl := lv_entry ([.ref (ad 0), .int a1, .int a2]) (n := 5) (Nat.le_of_ble_eq_true rfl)
  show W _ _ _ _ _ _ _ _ _ _ _ _ _ _ _ (entryFrame m ([.ref (ad 0), .int a1, .int a2] : List Value).toArray 5)
  rw [lg_entry_eq]
  generalize (lg_sl ([.ref (ad 0), .int a1, .int a2]) ++ List.replicate (5 - (lg_sl ([.ref (ad 0), .int a1, .int a2])).length) Slot.unset).toArray = ls at hl ⊢
  have hl : lv_has ls 5 [(0, .ref (ad 0)), (1, .int a1), (2, .int a2)] := hl
  have main : ∀ (H : Heap) (locs : List Loc) (ls : Array Slot), fx_P D cy LM ad σ H → va_S A s.heap H locs → lv_has ls 5 [(0, .ref (ad 0)), (1, .int a1), (2, .int a2)] → W p l e (fx_R (1)) s m args below meth c H locs 0 0 (fx_Qi D cy LM ad A below args s v σ') (F0 m 0 ls []) := by
    intro H locs ls hP hS hl
    refine lv_aload_n hx hb dX12_mark_0 rfl (lv_at hl 0 rfl) ?_
    refine lv_iconst hx hb dX12_mark_1 ki_0 ?_
    obtain ⟨σ1, eσ1, hf⟩ := fxL_e hf
    refine pf_X12_133 hC hP hS kM_0 dX12_mark_2 (fun H locs hP hS => ?_)
    replace hP := fx_Pe eσ1 hP
    refine lv_iload_n hx hb dX12_mark_5 rfl (lv_at hl 1 rfl) ?_
    refine lv_iconst hx hb dX12_mark_6 ki_0 ?_
    refine lv_iconst hx hb dX12_mark_7 ki_3 ?_
    obtain ⟨r3, hc2, hf⟩ := fxBP_e hf
    refine fx_ci hC hS (fx_runS (As := [.int a1, .int 0, .int 3]) (rest := []) hC hP hS (ctX12_within l hc2 D cy ad ec _) kMS_X12_253 kC_X12_within hd_X12_within.2 rfl ⟨(Nat.le_of_ble_eq_true rfl), (Nat.le_of_ble_eq_true rfl)⟩ ⟨Nat.le_refl 0, Nat.le_refl 0⟩ hl.1 (Nat.le_of_ble_eq_true rfl) rfl dX12_mark_8) (fun H locs hP hS => ?_)
    refine lv_if_eq (tgt := 27) hx hb dX12_mark_11 (by decide) (fun c5 => ?_) (fun c5 => ?_)
    · replace hf := fx_it c5 hf
      refine lv_iconst hx hb dX12_mark_27 ki_0 ?_
      exact fx_zretf rfl hf hC hr hk hP hS dX12_mark_28
    · replace hf := fx_ie c5 hf
      refine lv_iload_n hx hb dX12_mark_14 rfl (lv_at hl 2 rfl) ?_
      obtain ⟨J6, hJ6, hf⟩ := fxL_e hf
      have j_J6 : ∀  (H : Heap) (locs : List Loc) (ls : Array Slot), fx_P D cy LM ad σ1 H → va_S A s.heap H locs → lv_has ls 5 [(0, .ref (ad 0)), (1, .int a1), (2, .int a2)] → J6 = some (v, σ') → W p l e (fx_R (1)) s m args below meth c H locs 0 0 (fx_Qi D cy LM ad A below args s v σ') (F0 m 29 ls []) := by
        intro  H locs ls hP hS hl hf
        replace hf := hJ6.symm.trans hf
        refine lv_aload_n hx hb dX12_mark_29 rfl (lv_at hl 0 rfl) ?_
        refine gf_X12_123 (v := .ref (ad 38)) hC hP kM_0 rfl dX12_mark_30 ?_
        refine lv_iload_n hx hb dX12_mark_33 rfl (lv_at hl 1 rfl) ?_
        refine lv_iconst hx hb dX12_mark_34 ki_1 ?_
        obtain ⟨h7, hf⟩ := fxG_e hf
        obtain ⟨σ8, eσ8, hf⟩ := fxL_e hf
        refine fx_zast hC hP hS kM_38 (fx_inp h7) dX12_mark_35 (fun H locs hP hS => ?_)
        replace hP := fx_Pe eσ8 hP
        refine lv_iload_n hx hb dX12_mark_36 rfl (lv_at hl 2 rfl) ?_
        obtain ⟨v9, ev9, hf⟩ := fxL_e hf
        have j_v9 : ∀ (z10 : Int32), z10 = ((if a2 = 0 then 0 else (1 + a1)) : Int32) → ∀ (ls : Array Slot), lv_has ls 5 [(0, .ref (ad 0)), (1, .int a1), (2, .int a2)] → W p l e (fx_R (1)) s m args below meth c H locs 0 0 (fx_Qi D cy LM ad A below args s v σ') (F0 m 47 ls [.int z10]) := by
          intro z10 hz10 ls hl
          obtain rfl : v9 = z10 := ev9.trans hz10.symm
          refine lv_istore_n (lv' := [(3, .int v9), (0, .ref (ad 0)), (1, .int a1), (2, .int a2)]) hx hb dX12_mark_47 rfl hl (by decide) rfl (fun ls hl => ?_)
          refine lv_iload_n hx hb dX12_mark_48 rfl (lv_at hl 3 rfl) ?_
          obtain ⟨v12, ev12, hf⟩ := fxL_e hf
          have j_v12 : ∀ (z13 : Int32), z13 = ((if a2 = 0 then (1 + a1) else 0) : Int32) → ∀ (ls : Array Slot), lv_has ls 5 [(0, .ref (ad 0)), (1, .int a1), (2, .int a2), (3, .int v9)] → W p l e (fx_R (1)) s m args below meth c H locs 0 0 (fx_Qi D cy LM ad A below args s v σ') (F0 m 59 ls [.int z13]) := by
            intro z13 hz13 ls hl
            obtain rfl : v12 = z13 := ev12.trans hz13.symm
            refine lv_istore (lv' := [(4, .int v12), (0, .ref (ad 0)), (1, .int a1), (2, .int a2), (3, .int v9)]) hx hb dX12_mark_59 hl (by decide) rfl (fun ls hl => ?_)
            refine lv_aload_n hx hb dX12_mark_61 rfl (lv_at hl 1 rfl) ?_
            refine lv_iload_n hx hb dX12_mark_62 rfl (lv_at hl 4 rfl) ?_
            refine lv_iload hx hb dX12_mark_63 (lv_at hl 0 rfl) ?_
            obtain ⟨σ17, hc15, hf⟩ := fxBV_e hf
            refine fx_cv hC hS (fx_runV (i := 0) (As := [.int v9, .int v12]) (rest := []) hC hP hS (ctX12_laysLines l hc15 D cy ad ec _) kM_0 (by decide) rfl kMV_X12_347 kC_X12_laysLines hd_X12_laysLines rfl ⟨(Nat.le_of_ble_eq_true rfl), (Nat.le_of_ble_eq_true rfl)⟩ ⟨Nat.le_refl 0, Nat.le_refl 0⟩ hl.1 (Nat.le_of_ble_eq_true rfl) rfl dX12_mark_65) (fun H locs hP hS => ?_)
            refine lv_aload_n hx hb dX12_mark_68 rfl (lv_at hl 1 rfl) ?_
            refine lv_iload_n hx hb dX12_mark_69 rfl (lv_at hl 4 rfl) ?_
            refine lv_iload hx hb dX12_mark_70 (lv_at hl 0 rfl) ?_
            obtain ⟨σ20, hc18, hf⟩ := fxBV_e hf
            refine fx_cv hC hS (fx_runV (i := 0) (As := [.int v9, .int v12]) (rest := []) hC hP hS (ctX12_laysSaid l hc18 D cy ad ec _) kM_0 (by decide) rfl kMV_X12_486 kC_X12_laysSaid hd_X12_laysSaid rfl ⟨(Nat.le_of_ble_eq_true rfl), (Nat.le_of_ble_eq_true rfl)⟩ ⟨Nat.le_refl 0, Nat.le_refl 0⟩ hl.1 (Nat.le_of_ble_eq_true rfl) rfl dX12_mark_72) (fun H locs hP hS => ?_)
            refine lv_iload_n hx hb dX12_mark_75 rfl (lv_at hl 3 rfl) ?_
            refine lv_if_eq (tgt := 103) hx hb dX12_mark_76 (by decide) (fun c21 => ?_) (fun c21 => ?_)
            · replace hf := fx_it c21 hf
              refine lv_aload_n hx hb dX12_mark_103 rfl (lv_at hl 1 rfl) ?_
              refine gf_X12_108 (v := .ref (ad 33)) hC hP kM_0 rfl dX12_mark_104 ?_
              refine lv_iconst hx hb dX12_mark_107 ki_0 ?_
              refine lv_aload_n hx hb dX12_mark_108 rfl (lv_at hl 1 rfl) ?_
              refine gf_X12_117 (v := .ref (ad 36)) hC hP kM_0 rfl dX12_mark_109 ?_
              refine lv_bipush hx hb dX12_mark_112 kb_14 ?_
              refine lv_iload_n hx hb dX12_mark_114 rfl (lv_at hl 2 rfl) ?_
              refine lv_imul hx hb dX12_mark_115 ?_
              obtain ⟨σ24, hc22, hf⟩ := fxBV_e hf
              refine fx_cv hC hS (fx_runS (As := [.ref (ad 33), .int 0, .ref (ad 36), .int (14 * a1)]) (rest := []) hC hP hS (ctX12_copies l hc22 D cy ad ec _) kMS_X12_401 kC_X12_copies hd_X12_copies.2 rfl ⟨(Nat.le_of_ble_eq_true rfl), (Nat.le_of_ble_eq_true rfl)⟩ ⟨Nat.le_refl 0, Nat.le_refl 0⟩ hl.1 (Nat.le_of_ble_eq_true rfl) rfl dX12_mark_116) (fun H locs hP hS => ?_)
              refine lv_iconst hx hb dX12_mark_119 ki_1 ?_
              exact fx_zretf rfl hf hC hr hk hP hS dX12_mark_120
            · replace hf := fx_ie c21 hf
              refine lv_aload_n hx hb dX12_mark_79 rfl (lv_at hl 1 rfl) ?_
              refine gf_X12_117 (v := .ref (ad 36)) hC hP kM_0 rfl dX12_mark_80 ?_
              refine lv_bipush hx hb dX12_mark_83 kb_14 ?_
              refine lv_iload_n hx hb dX12_mark_85 rfl (lv_at hl 2 rfl) ?_
              refine lv_imul hx hb dX12_mark_86 ?_
              refine lv_aload_n hx hb dX12_mark_87 rfl (lv_at hl 1 rfl) ?_
              refine gf_X12_108 (v := .ref (ad 33)) hC hP kM_0 rfl dX12_mark_88 ?_
              refine lv_iconst hx hb dX12_mark_91 ki_0 ?_
              obtain ⟨σ27, hc25, hf⟩ := fxBV_e hf
              refine fx_cv hC hS (fx_runS (As := [.ref (ad 36), .int (14 * a1), .ref (ad 33), .int 0]) (rest := []) hC hP hS (ctX12_copies l hc25 D cy ad ec _) kMS_X12_401 kC_X12_copies hd_X12_copies.2 rfl ⟨(Nat.le_of_ble_eq_true rfl), (Nat.le_of_ble_eq_true rfl)⟩ ⟨Nat.le_refl 0, Nat.le_refl 0⟩ hl.1 (Nat.le_of_ble_eq_true rfl) rfl dX12_mark_92) (fun H locs hP hS => ?_)
              refine lv_aload_n hx hb dX12_mark_95 rfl (lv_at hl 1 rfl) ?_
              refine lv_iconst hx hb dX12_mark_96 ki_0 ?_
              obtain ⟨σ28, eσ28, hf⟩ := fxL_e hf
              refine pf_X12_341 hC hP hS kM_0 dX12_mark_97 (fun H locs hP hS => ?_)
              replace hP := fx_Pe eσ28 hP
              refine lv_goto (tgt := 119) hx hb dX12_mark_100 (by decide) ?_
              refine lv_iconst hx hb dX12_mark_119 ki_1 ?_
              exact fx_zretf rfl hf hC hr hk hP hS dX12_mark_120
          refine lv_if_eq (tgt := 56) hx hb dX12_mark_49 (by decide) (fun c14 => ?_) (fun c14 => ?_)
          · refine lv_iconst hx hb dX12_mark_56 ki_1 ?_
            refine lv_iload_n hx hb dX12_mark_57 rfl (lv_at hl 2 rfl) ?_
            refine lv_iadd hx hb dX12_mark_58 ?_
            exact j_v12 (1 + a1) (if_pos c14).symm ls (lv_sub hl [1, 2, 3, 0] rfl)
          · refine lv_iconst hx hb dX12_mark_52 ki_0 ?_
            refine lv_goto (tgt := 59) hx hb dX12_mark_53 (by decide) ?_
            exact j_v12 0 (if_neg c14).symm ls (lv_sub hl [1, 2, 3, 0] rfl)
        refine lv_if_eq (tgt := 46) hx hb dX12_mark_37 (by decide) (fun c11 => ?_) (fun c11 => ?_)
        · refine lv_iconst hx hb dX12_mark_46 ki_0 ?_
          exact j_v9 0 (if_pos c11).symm ls (lv_sub hl [0, 1, 2] rfl)
        · refine lv_iconst hx hb dX12_mark_40 ki_1 ?_
          refine lv_iload_n hx hb dX12_mark_41 rfl (lv_at hl 1 rfl) ?_
          refine lv_iadd hx hb dX12_mark_42 ?_
          refine lv_goto (tgt := 47) hx hb dX12_mark_43 (by decide) ?_
          exact j_v9 (1 + a1) (if_neg c11).symm ls (lv_sub hl [0, 1, 2] rfl)
      refine lv_if_eq (tgt := 29) hx hb dX12_mark_15 (by decide) (fun c29 => ?_) (fun c29 => ?_)
      · replace hf := fx_it c29 hf
        exact j_J6  _ _ _ hP hS (lv_sub hl [0, 1, 2] rfl) hf
      · replace hf := fx_ie c29 hf
        refine lv_aload_n hx hb dX12_mark_18 rfl (lv_at hl 0 rfl) ?_
        refine gf_X12_123 (v := .ref (ad 38)) hC hP kM_0 rfl dX12_mark_19 ?_
        refine lv_iload_n hx hb dX12_mark_22 rfl (lv_at hl 1 rfl) ?_
        obtain ⟨h30, hf⟩ := fxG_e hf
        refine fx_zald hC hP kM_38 (fx_inp h30) dX12_mark_23 ?_
        refine lv_if_ne (tgt := 29) hx hb dX12_mark_24 (by decide) (fun c31 => ?_) (fun c31 => ?_)
        · replace hf := fx_ie c31 hf
          exact j_J6  _ _ _ hP hS (lv_sub hl [0, 1, 2] rfl) hf
        · replace hf := fx_it c31 hf
          refine lv_iconst hx hb dX12_mark_27 ki_0 ?_
          exact fx_zretf rfl hf hC hr hk hP hS dX12_mark_28
  exact main _ _ _ hP hS hl

set_option maxHeartbeats 4000000 in
set_option maxRecDepth 100000 in
theorem ctX12_count (l : Launch) {a1 : Int32} {σ σ' : FH} {v : Int32} (hf : fX12_count a1 σ = some (v, σ')) : fx_Mi l yX12_count cX12_count 2 (some .int) (3) LM (fun ad ec => [.ref (ad 0), .int a1]) σ v σ' := by
  unfold fX12_count at hf
  refine fx_mi' (own := RX12) rfl (by decide +kernel) ?_
  intro p e s m args below meth c D cy ad ec A hC hr hk hP hS
  have hx := hC.1
  have hb := hC.2.1
  have hl := lv_entry ([.ref (ad 0), .int a1]) (n := 2) (Nat.le_of_ble_eq_true rfl)
  show W _ _ _ _ _ _ _ _ _ _ _ _ _ _ _ (entryFrame m ([.ref (ad 0), .int a1] : List Value).toArray 2)
  rw [lg_entry_eq]
  generalize (lg_sl ([.ref (ad 0), .int a1]) ++ List.replicate (2 - (lg_sl ([.ref (ad 0), .int a1])).length) Slot.unset).toArray = ls at hl ⊢
  have hl : lv_has ls 2 [(0, .ref (ad 0)), (1, .int a1)] := hl
  have main : ∀ (H : Heap) (locs : List Loc) (ls : Array Slot), fx_P D cy LM ad σ H → va_S A s.heap H locs → lv_has ls 2 [(0, .ref (ad 0)), (1, .int a1)] → W p l e (fx_R (3)) s m args below meth c H locs 0 0 (fx_Qi D cy LM ad A below args s v σ') (F0 m 0 ls []) := by
    intro H locs ls hP hS hl
    refine lv_aload_n hx hb dX12_count_0 rfl (lv_at hl 0 rfl) ?_
    refine lv_iconst hx hb dX12_count_1 ki_0 ?_
    obtain ⟨σ1, eσ1, hf⟩ := fxL_e hf
    refine pf_X12_133 hC hP hS kM_0 dX12_count_2 (fun H locs hP hS => ?_)
    replace hP := fx_Pe eσ1 hP
    refine lv_iload_n hx hb dX12_count_5 rfl (lv_at hl 1 rfl) ?_
    refine lv_iconst hx hb dX12_count_6 ki_0 ?_
    refine lv_bipush hx hb dX12_count_7 kb_12 ?_
    obtain ⟨r3, hc2, hf⟩ := fxBP_e hf
    refine fx_ci hC hS (fx_runS (As := [.int a1, .int 0, .int 12]) (rest := []) hC hP hS (ctX12_within l hc2 D cy ad ec _) kMS_X12_253 kC_X12_within hd_X12_within.2 rfl ⟨(Nat.le_of_ble_eq_true rfl), (Nat.le_of_ble_eq_true rfl)⟩ ⟨Nat.le_refl 0, Nat.le_refl 0⟩ hl.1 (Nat.le_of_ble_eq_true rfl) rfl dX12_count_9) (fun H locs hP hS => ?_)
    refine lv_if_ne (tgt := 17) hx hb dX12_count_12 (by decide) (fun c5 => ?_) (fun c5 => ?_)
    · replace hf := fx_ie c5 hf
      refine lv_iload_n hx hb dX12_count_17 rfl (lv_at hl 1 rfl) ?_
      refine lv_iconst hx hb dX12_count_18 ki_3 ?_
      refine lv_icmp_ge (tgt := 29) hx hb dX12_count_19 (by decide) (fun c6 => ?_) (fun c6 => ?_)
      · replace hf := fx_it c6 hf
        refine lv_iload_n hx hb dX12_count_29 rfl (lv_at hl 1 rfl) ?_
        refine lv_bipush hx hb dX12_count_30 kb_6 ?_
        refine lv_icmp_ge (tgt := 68) hx hb dX12_count_32 (by decide) (fun c7 => ?_) (fun c7 => ?_)
        · replace hf := fx_it c7 hf
          refine lv_iload_n hx hb dX12_count_68 rfl (lv_at hl 1 rfl) ?_
          refine lv_bipush hx hb dX12_count_69 kb_9 ?_
          refine lv_icmp_ge (tgt := 107) hx hb dX12_count_71 (by decide) (fun c8 => ?_) (fun c8 => ?_)
          · replace hf := fx_it c8 hf
            refine lv_iload_n hx hb dX12_count_107 rfl (lv_at hl 1 rfl) ?_
            refine lv_bipush hx hb dX12_count_108 kb_11 ?_
            refine lv_icmp_ge (tgt := 135) hx hb dX12_count_110 (by decide) (fun c9 => ?_) (fun c9 => ?_)
            · replace hf := fx_it c9 hf
              refine lv_iload_n hx hb dX12_count_135 rfl (lv_at hl 1 rfl) ?_
              refine lv_bipush hx hb dX12_count_136 kb_11 ?_
              obtain ⟨v10, ev10, hf⟩ := fxL_e hf
              have j_v10 : ∀ (z11 : Int32), z11 = ((if a1 = 11 then (σ1.1 0 51) else (σ1.1 0 1)) : Int32) → ∀ (ls : Array Slot), lv_has ls 2 [] → W p l e (fx_R (3)) s m args below meth c H locs 0 0 (fx_Qi D cy LM ad A below args s v σ') (F0 m 152 ls [.int z11]) := by
                intro z11 hz11 ls hl
                obtain rfl : v10 = z11 := ev10.trans hz11.symm
                exact fx_iretf hf hC hr hk hP hS dX12_count_152
              refine lv_icmp_ne (tgt := 148) hx hb dX12_count_138 (by decide) (fun c12 => ?_) (fun c12 => ?_)
              · refine lv_aload_n hx hb dX12_count_148 rfl (lv_at hl 0 rfl) ?_
                refine gf_X12_139 (v := .int (σ1.1 0 1)) hC hP kM_0 rfl dX12_count_149 ?_
                exact j_v10 (σ1.1 0 1) (if_neg c12).symm ls (lv_sub hl [] rfl)
              · refine lv_aload_n hx hb dX12_count_141 rfl (lv_at hl 0 rfl) ?_
                refine gf_X12_341 (v := .int (σ1.1 0 51)) hC hP kM_0 rfl dX12_count_142 ?_
                refine lv_goto (tgt := 152) hx hb dX12_count_145 (by decide) ?_
                exact j_v10 (σ1.1 0 51) (if_pos c12).symm ls (lv_sub hl [] rfl)
            · replace hf := fx_ie c9 hf
              refine lv_iload_n hx hb dX12_count_113 rfl (lv_at hl 1 rfl) ?_
              refine lv_bipush hx hb dX12_count_114 kb_9 ?_
              refine lv_icmp_ne (tgt := 128) hx hb dX12_count_116 (by decide) (fun c13 => ?_) (fun c13 => ?_)
              · replace hf := fx_ie c13 hf
                refine lv_aload_n hx hb dX12_count_128 rfl (lv_at hl 0 rfl) ?_
                refine gf_X12_99 (v := .ref (ad 30)) hC hP kM_0 rfl dX12_count_129 ?_
                refine lv_iconst hx hb dX12_count_132 ki_0 ?_
                obtain ⟨h14, hf⟩ := fxG_e hf
                refine fx_iald hC hP kM_30 (fx_inp h14) dX12_count_133 ?_
                exact fx_iretf hf hC hr hk hP hS dX12_count_134
              · replace hf := fx_it c13 hf
                refine lv_aload_n hx hb dX12_count_119 rfl (lv_at hl 0 rfl) ?_
                refine gf_X12_84 (v := .ref (ad 25)) hC hP kM_0 rfl dX12_count_120 ?_
                refine lv_iconst hx hb dX12_count_123 ki_0 ?_
                obtain ⟨h15, hf⟩ := fxG_e hf
                refine fx_iald hC hP kM_25 (fx_inp h15) dX12_count_124 ?_
                refine lv_goto (tgt := 134) hx hb dX12_count_125 (by decide) ?_
                exact fx_iretf hf hC hr hk hP hS dX12_count_134
          · replace hf := fx_ie c8 hf
            refine lv_iload_n hx hb dX12_count_74 rfl (lv_at hl 1 rfl) ?_
            refine lv_bipush hx hb dX12_count_75 kb_6 ?_
            refine lv_icmp_ne (tgt := 87) hx hb dX12_count_77 (by decide) (fun c16 => ?_) (fun c16 => ?_)
            · replace hf := fx_ie c16 hf
              refine lv_iload_n hx hb dX12_count_87 rfl (lv_at hl 1 rfl) ?_
              refine lv_bipush hx hb dX12_count_88 kb_7 ?_
              refine lv_icmp_ne (tgt := 100) hx hb dX12_count_90 (by decide) (fun c17 => ?_) (fun c17 => ?_)
              · replace hf := fx_ie c17 hf
                refine lv_aload_n hx hb dX12_count_100 rfl (lv_at hl 0 rfl) ?_
                refine gf_X12_108 (v := .ref (ad 33)) hC hP kM_0 rfl dX12_count_101 ?_
                refine lv_iconst hx hb dX12_count_104 ki_2 ?_
                obtain ⟨h18, hf⟩ := fxG_e hf
                refine fx_iald hC hP kM_33 (fx_inp h18) dX12_count_105 ?_
                exact fx_iretf hf hC hr hk hP hS dX12_count_106
              · replace hf := fx_it c17 hf
                refine lv_aload_n hx hb dX12_count_93 rfl (lv_at hl 0 rfl) ?_
                obtain ⟨r20, hc19, hf⟩ := fxBP_e hf
                refine fx_ci hC hS (fx_runV (i := 0) (As := []) (rest := []) hC hP hS (ctX12_allSeats l hc19 D cy ad ec _) kM_0 (by decide) rfl kMV_X12_389 kC_X12_allSeats hd_X12_allSeats rfl ⟨(Nat.le_of_ble_eq_true rfl), (Nat.le_of_ble_eq_true rfl)⟩ ⟨Nat.le_refl 0, Nat.le_refl 0⟩ hl.1 (Nat.le_of_ble_eq_true rfl) rfl dX12_count_94) (fun H locs hP hS => ?_)
                refine lv_goto (tgt := 106) hx hb dX12_count_97 (by decide) ?_
                exact fx_iretf hf hC hr hk hP hS dX12_count_106
            · replace hf := fx_it c16 hf
              refine lv_aload_n hx hb dX12_count_80 rfl (lv_at hl 0 rfl) ?_
              obtain ⟨r23, hc22, hf⟩ := fxBP_e hf
              refine fx_ci hC hS (fx_runV (i := 0) (As := []) (rest := []) hC hP hS (ctX12_halves l hc22 D cy ad ec _) kM_0 (by decide) rfl kMV_X12_427 kC_X12_halves hd_X12_halves rfl ⟨(Nat.le_of_ble_eq_true rfl), (Nat.le_of_ble_eq_true rfl)⟩ ⟨Nat.le_refl 0, Nat.le_refl 0⟩ hl.1 (Nat.le_of_ble_eq_true rfl) rfl dX12_count_81) (fun H locs hP hS => ?_)
              refine lv_goto (tgt := 106) hx hb dX12_count_84 (by decide) ?_
              exact fx_iretf hf hC hr hk hP hS dX12_count_106
        · replace hf := fx_ie c7 hf
          refine lv_iload_n hx hb dX12_count_35 rfl (lv_at hl 1 rfl) ?_
          refine lv_iconst hx hb dX12_count_36 ki_3 ?_
          refine lv_icmp_ne (tgt := 49) hx hb dX12_count_37 (by decide) (fun c25 => ?_) (fun c25 => ?_)
          · replace hf := fx_ie c25 hf
            refine lv_iload_n hx hb dX12_count_49 rfl (lv_at hl 1 rfl) ?_
            refine lv_iconst hx hb dX12_count_50 ki_4 ?_
            refine lv_icmp_ne (tgt := 63) hx hb dX12_count_51 (by decide) (fun c26 => ?_) (fun c26 => ?_)
            · replace hf := fx_ie c26 hf
              refine lv_aload_n hx hb dX12_count_63 rfl (lv_at hl 0 rfl) ?_
              obtain ⟨r28, hc27, hf⟩ := fxBP_e hf
              refine fx_ci hC hS (fx_runV (i := 0) (As := []) (rest := []) hC hP hS (ctX12_allDone l hc27 D cy ad ec _) kM_0 (by decide) rfl kMV_X12_483 kC_X12_allDone hd_X12_allDone rfl ⟨(Nat.le_of_ble_eq_true rfl), (Nat.le_of_ble_eq_true rfl)⟩ ⟨Nat.le_refl 0, Nat.le_refl 0⟩ hl.1 (Nat.le_of_ble_eq_true rfl) rfl dX12_count_64) (fun H locs hP hS => ?_)
              exact fx_iretf hf hC hr hk hP hS dX12_count_67
            · replace hf := fx_it c26 hf
              refine lv_aload_n hx hb dX12_count_54 rfl (lv_at hl 0 rfl) ?_
              refine gf_X12_108 (v := .ref (ad 33)) hC hP kM_0 rfl dX12_count_55 ?_
              refine lv_iconst hx hb dX12_count_58 ki_1 ?_
              obtain ⟨h30, hf⟩ := fxG_e hf
              refine fx_iald hC hP kM_33 (fx_inp h30) dX12_count_59 ?_
              refine lv_goto (tgt := 67) hx hb dX12_count_60 (by decide) ?_
              exact fx_iretf hf hC hr hk hP hS dX12_count_67
          · replace hf := fx_it c25 hf
            refine lv_aload_n hx hb dX12_count_40 rfl (lv_at hl 0 rfl) ?_
            refine gf_X12_108 (v := .ref (ad 33)) hC hP kM_0 rfl dX12_count_41 ?_
            refine lv_iconst hx hb dX12_count_44 ki_0 ?_
            obtain ⟨h31, hf⟩ := fxG_e hf
            refine fx_iald hC hP kM_33 (fx_inp h31) dX12_count_45 ?_
            refine lv_goto (tgt := 67) hx hb dX12_count_46 (by decide) ?_
            exact fx_iretf hf hC hr hk hP hS dX12_count_67
      · replace hf := fx_ie c6 hf
        refine lv_aload_n hx hb dX12_count_22 rfl (lv_at hl 0 rfl) ?_
        refine gf_X12_13 (v := .ref (ad 2)) hC hP kM_0 rfl dX12_count_23 ?_
        refine lv_iload_n hx hb dX12_count_26 rfl (lv_at hl 1 rfl) ?_
        obtain ⟨h32, hf⟩ := fxG_e hf
        refine fx_iald hC hP kM_2 (fx_inp h32) dX12_count_27 ?_
        exact fx_iretf hf hC hr hk hP hS dX12_count_28
    · replace hf := fx_it c5 hf
      refine lv_iconst hx hb dX12_count_15 ki_m1 ?_
      exact fx_iretf hf hC hr hk hP hS dX12_count_16
  exact main _ _ _ hP hS hl
