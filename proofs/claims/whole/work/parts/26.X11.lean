set_option maxHeartbeats 4000000 in
set_option maxRecDepth 100000 in
theorem ctX11_feed (l : Launch) {a1 : Int64} {a3 : Int64} {a5 : Int64} {σ σ' : FH} {v : Int32} (hf : fX11_feed a1 a3 a5 σ = some (v, σ')) : fx_Mi l yX11_feed cX11_feed 7 (some .int) (2) LX (fun ad ec => [.ref (ad 0), .long a1, .long a3, .long a5]) σ v σ' := by
  unfold fX11_feed at hf
  refine fx_mi' (own := RX11) rfl (by decide +kernel) ?_
  intro p e s m args below meth c D cy ad ec A hC hr hk hP hS
  have hx := hC.1
  have hb := hC.2.1
  have hl := lv_entry ([.ref (ad 0), .long a1, .long a3, .long a5]) (n := 7) (Nat.le_of_ble_eq_true rfl)
  show W _ _ _ _ _ _ _ _ _ _ _ _ _ _ _ (entryFrame m ([.ref (ad 0), .long a1, .long a3, .long a5] : List Value).toArray 7)
  rw [lg_entry_eq]
  generalize (lg_sl ([.ref (ad 0), .long a1, .long a3, .long a5]) ++ List.replicate (7 - (lg_sl ([.ref (ad 0), .long a1, .long a3, .long a5])).length) Slot.unset).toArray = ls at hl ⊢
  have hl : lv_has ls 7 [(0, .ref (ad 0)), (1, .long a1), (3, .long a3), (5, .long a5)] := hl
  have main : ∀ (H : Heap) (locs : List Loc) (ls : Array Slot), fx_P D cy LX ad σ H → va_S A s.heap H locs → lv_has ls 7 [(0, .ref (ad 0)), (1, .long a1), (3, .long a3), (5, .long a5)] → W p l e (fx_R (2)) s m args below meth c H locs 0 0 (fx_Qi D cy LX ad A below args s v σ') (F0 m 0 ls []) := by
    intro H locs ls hP hS hl
    refine lv_aload_n hx hb dX11_feed_0 rfl (lv_at hl 0 rfl) ?_
    refine gf_X11_10 (v := .ref (ad 3)) hC hP kX_0 rfl dX11_feed_1 ?_
    refine lv_lload_n hx hb dX11_feed_4 rfl (lv_at hl 1 rfl) ?_
    obtain ⟨σ3, hc1, hf⟩ := fxBV_e hf
    refine fx_cv hC hS (fx_runV (i := 3) (As := [.long a1]) (rest := []) hC hP hS (ctX9_putBytes l hc1 D cy ad ec _) kX_3 (by decide) rfl kMV_X11_80 kC_X9_putBytes hd_X9_putBytes rfl ⟨(Nat.le_of_ble_eq_true rfl), (Nat.le_of_ble_eq_true rfl)⟩ ⟨Nat.le_refl 0, Nat.le_refl 0⟩ hl.1 (Nat.le_of_ble_eq_true rfl) rfl dX11_feed_5) (fun H locs hP hS => ?_)
    refine lv_aload_n hx hb dX11_feed_8 rfl (lv_at hl 0 rfl) ?_
    refine gf_X11_10 (v := .ref (ad 3)) hC hP kX_0 rfl dX11_feed_9 ?_
    refine lv_lload_n hx hb dX11_feed_12 rfl (lv_at hl 2 rfl) ?_
    obtain ⟨σ6, hc4, hf⟩ := fxBV_e hf
    refine fx_cv hC hS (fx_runV (i := 3) (As := [.long a3]) (rest := []) hC hP hS (ctX9_putBytes l hc4 D cy ad ec _) kX_3 (by decide) rfl kMV_X11_80 kC_X9_putBytes hd_X9_putBytes rfl ⟨(Nat.le_of_ble_eq_true rfl), (Nat.le_of_ble_eq_true rfl)⟩ ⟨Nat.le_refl 0, Nat.le_refl 0⟩ hl.1 (Nat.le_of_ble_eq_true rfl) rfl dX11_feed_13) (fun H locs hP hS => ?_)
    refine lv_aload_n hx hb dX11_feed_16 rfl (lv_at hl 0 rfl) ?_
    refine gf_X11_10 (v := .ref (ad 3)) hC hP kX_0 rfl dX11_feed_17 ?_
    refine lv_lload hx hb dX11_feed_20 (lv_at hl 3 rfl) ?_
    obtain ⟨σ9, hc7, hf⟩ := fxBV_e hf
    refine fx_cv hC hS (fx_runV (i := 3) (As := [.long a5]) (rest := []) hC hP hS (ctX9_putBytes l hc7 D cy ad ec _) kX_3 (by decide) rfl kMV_X11_80 kC_X9_putBytes hd_X9_putBytes rfl ⟨(Nat.le_of_ble_eq_true rfl), (Nat.le_of_ble_eq_true rfl)⟩ ⟨Nat.le_refl 0, Nat.le_refl 0⟩ hl.1 (Nat.le_of_ble_eq_true rfl) rfl dX11_feed_22) (fun H locs hP hS => ?_)
    refine lv_aload_n hx hb dX11_feed_25 rfl (lv_at hl 0 rfl) ?_
    refine gf_X11_10 (v := .ref (ad 3)) hC hP kX_0 rfl dX11_feed_26 ?_
    refine gf_X11_84 (v := .int (σ9.1 3 1)) hC hP kX_3 rfl dX11_feed_29 ?_
    exact fx_iretf hf hC hr hk hP hS dX11_feed_32
  exact main _ _ _ hP hS hl

set_option maxHeartbeats 4000000 in
set_option maxRecDepth 100000 in
theorem ctX11_settle (l : Launch) {σ σ' : FH} (hf : fX11_settle σ = some σ') : fx_Mv l yX11_settle cX11_settle 3 none (2) LX (fun ad ec => [.ref (ad 0)]) σ σ' := by
  unfold fX11_settle at hf
  refine fx_mv' (own := RX11) rfl (by decide +kernel) ?_
  intro p e s m args below meth c D cy ad ec A hC hr hk hP hS
  have hx := hC.1
  have hb := hC.2.1
  have hl := lv_entry ([.ref (ad 0)]) (n := 3) (Nat.le_of_ble_eq_true rfl)
  show W _ _ _ _ _ _ _ _ _ _ _ _ _ _ _ (entryFrame m ([.ref (ad 0)] : List Value).toArray 3)
  rw [lg_entry_eq]
  generalize (lg_sl ([.ref (ad 0)]) ++ List.replicate (3 - (lg_sl ([.ref (ad 0)])).length) Slot.unset).toArray = ls at hl ⊢
  have hl : lv_has ls 3 [(0, .ref (ad 0))] := hl
  have main : ∀ (H : Heap) (locs : List Loc) (ls : Array Slot), fx_P D cy LX ad σ H → va_S A s.heap H locs → lv_has ls 3 [(0, .ref (ad 0))] → W p l e (fx_R (2)) s m args below meth c H locs 0 0 (fx_Qv D cy LX ad A below args s σ') (F0 m 0 ls []) := by
    intro H locs ls hP hS hl
    refine lv_aload_n hx hb dX11_settle_0 rfl (lv_at hl 0 rfl) ?_
    obtain ⟨h1, hf⟩ := fxG_e hf
    refine gf_X11_28 (v := .ref (ad (σ.2.2 2))) hC hP kX_0 rfl dX11_settle_1 ?_
    refine lv_astore_n (lv' := [(1, .ref (ad (σ.2.2 2))), (0, .ref (ad 0))]) hx hb dX11_settle_4 rfl hl (by decide) rfl (fun ls hl => ?_)
    refine lv_aload_n hx hb dX11_settle_5 rfl (lv_at hl 1 rfl) ?_
    refine lv_aload_n hx hb dX11_settle_6 rfl (lv_at hl 1 rfl) ?_
    obtain ⟨h2, hf⟩ := fxG_e hf
    refine gf_X11_32 (v := .ref (ad (σ.2.2 3))) hC hP kX_0 rfl dX11_settle_7 ?_
    obtain ⟨σ3, eσ3, hf⟩ := fxL_e hf
    refine pf_X11_28 hC hP hS dX11_settle_10 (fun H locs hP hS => ?_)
    replace hP := fx_Pe eσ3 hP
    refine lv_aload_n hx hb dX11_settle_13 rfl (lv_at hl 1 rfl) ?_
    refine lv_aload_n hx hb dX11_settle_14 rfl (lv_at hl 0 rfl) ?_
    obtain ⟨σ4, eσ4, hf⟩ := fxL_e hf
    refine pf_X11_32 hC hP hS dX11_settle_15 (fun H locs hP hS => ?_)
    replace hP := fx_Pe eσ4 hP
    refine lv_aload_n hx hb dX11_settle_18 rfl (lv_at hl 1 rfl) ?_
    refine gf_X11_48 (v := .ref (ad 7)) hC hP kX_0 rfl dX11_settle_19 ?_
    refine lv_aload_n hx hb dX11_settle_22 rfl (lv_at hl 1 rfl) ?_
    obtain ⟨h5, hf⟩ := fxG_e hf
    refine gf_X11_28 (v := .ref (ad (σ4.2.2 2))) hC hP kX_0 rfl dX11_settle_23 ?_
    obtain ⟨σ8, hc6, hf⟩ := fxBV_e hf
    refine fx_cv hC hS (fx_runV (i := 7) (As := [.ref (ad (σ4.2.2 2))]) (rest := []) hC hP hS (ctX7_begin l hc6 D cy ad ec _) kX_7 (by decide) rfl kMV_X11_186 kC_X7_begin hd_X7_begin rfl ⟨(Nat.le_of_ble_eq_true rfl), (Nat.le_of_ble_eq_true rfl)⟩ ⟨Nat.le_refl 0, Nat.le_refl 0⟩ hl.1 (Nat.le_of_ble_eq_true rfl) rfl dX11_settle_26) (fun H locs hP hS => ?_)
    refine lv_aload_n hx hb dX11_settle_29 rfl (lv_at hl 1 rfl) ?_
    obtain ⟨h9, hf⟩ := fxG_e hf
    refine gf_X11_38 (v := .ref (ad (σ8.2.2 4))) hC hP kX_0 rfl dX11_settle_30 ?_
    refine lv_iconst hx hb dX11_settle_33 ki_0 ?_
    obtain ⟨σ10, eσ10, hf⟩ := fxL_e hf
    refine pf_X11_190 hC hP hS h9 dX11_settle_34 (fun H locs hP hS => ?_)
    replace hP := fx_Pe eσ10 hP
    refine lv_aload_n hx hb dX11_settle_37 rfl (lv_at hl 1 rfl) ?_
    refine gf_X11_58 (v := .ref (ad 13)) hC hP kX_0 rfl dX11_settle_38 ?_
    refine lv_iconst hx hb dX11_settle_41 ki_0 ?_
    obtain ⟨σ11, eσ11, hf⟩ := fxL_e hf
    refine pf_X11_329 hC hP hS kX_13 dX11_settle_42 (fun H locs hP hS => ?_)
    replace hP := fx_Pe eσ11 hP
    refine lv_aload_n hx hb dX11_settle_45 rfl (lv_at hl 1 rfl) ?_
    refine lv_iconst hx hb dX11_settle_46 ki_0 ?_
    obtain ⟨σ12, eσ12, hf⟩ := fxL_e hf
    refine pf_X11_171 hC hP hS kX_0 dX11_settle_47 (fun H locs hP hS => ?_)
    replace hP := fx_Pe eσ12 hP
    refine lv_iconst hx hb dX11_settle_50 ki_0 ?_
    refine lv_istore_n (lv' := [(2, .int 0), (1, .ref (ad (σ.2.2 2))), (0, .ref (ad 0))]) hx hb dX11_settle_51 rfl hl (by decide) rfl (fun ls hl => ?_)
    obtain ⟨K13, hK13, hf⟩ := fxL_e hf
    have k_K13 : ∀ (σ14 : FH) (H : Heap) (locs : List Loc) (ls : Array Slot), fx_P D cy LX ad σ14 H → va_S A s.heap H locs → lv_has ls 3 [] → K13 σ14 = some σ' → W p l e (fx_R (2)) s m args below meth c H locs 0 0 (fx_Qv D cy LX ad A below args s σ') (F0 m 77 ls []) := by
      intro σ14 H locs ls hP hS hl hf
      replace hf := fxk1 hK13 hf
      exact fx_vretf hf hC hr hk hP hS dX11_settle_77
    have L22 : ∀ (n18 : Nat) (w15 : Int32) (σ16 : FH) (H : Heap) (locs : List Loc) (ls : Array Slot), fx_P D cy LX ad σ16 H → va_S A s.heap H locs → lv_has ls 3 [(0, .ref (ad 0)), (2, .int w15)] → fX11_settle_52 K13 n18 w15 σ16 = some σ' → W p l e (fx_R (2)) s m args below meth c H locs 0 0 (fx_Qv D cy LX ad A below args s σ') (F0 m 52 ls []) := by
      intro n18
      induction n18 with
      | zero =>
        intro w15 σ16 H locs ls hP hS hl hf
        rw [fX11_settle_52] at hf
        cases hf
      | succ n18 ih17 =>
        intro w15 σ16 H locs ls hP hS hl hf
        rw [fX11_settle_52] at hf
        refine lv_iload_n hx hb dX11_settle_52 rfl (lv_at hl 1 rfl) ?_
        refine lv_aload_n hx hb dX11_settle_53 rfl (lv_at hl 0 rfl) ?_
        refine gf_X11_75 (v := .ref (ad 50)) hC hP kX_0 rfl dX11_settle_54 ?_
        refine fx_alen (v := 4) hC hP kX_50 (by decide) 5 rfl rfl (by decide) dX11_settle_57 ?_
        refine lv_icmp_ge (tgt := 77) hx hb dX11_settle_58 (by decide) (fun c19 => ?_) (fun c19 => ?_)
        · replace hf := fx_it c19 hf
          exact k_K13 σ16 _ _ _ hP hS (lv_sub hl [] rfl) hf
        · replace hf := fx_ie c19 hf
          refine lv_aload_n hx hb dX11_settle_61 rfl (lv_at hl 0 rfl) ?_
          refine gf_X11_75 (v := .ref (ad 50)) hC hP kX_0 rfl dX11_settle_62 ?_
          refine lv_iload_n hx hb dX11_settle_65 rfl (lv_at hl 1 rfl) ?_
          obtain ⟨h20, hf⟩ := fxG_e hf
          refine fx_aaldM hC hP kX_50 (fx_inp h20) dX11_settle_66 ?_
          refine lv_iconst hx hb dX11_settle_67 ki_0 ?_
          obtain ⟨σ21, eσ21, hf⟩ := fxL_e hf
          refine pf_X11_311 hC hP hS (fx_markK h20) rfl rfl dX11_settle_68 (fun H locs hP hS => ?_)
          replace hP := fx_Pe eσ21 hP
          refine lv_iinc (v := (w15 + 1)) (lv' := [(2, .int (w15 + 1)), (0, .ref (ad 0))]) hx hb dX11_settle_71 hl (k := 1) rfl (congrArg (fun z => w15 + z) ki_1) (by decide) rfl (fun ls hl => ?_)
          refine lv_goto (tgt := 52) hx hb dX11_settle_74 (by decide) ?_
          exact ih17 (w15 + 1) σ21 _ _ _ hP hS (lv_sub hl [1, 0] rfl) hf
    exact L22 FU 0 σ12 _ _ _ hP hS (lv_sub hl [2, 0] rfl) hf
  exact main _ _ _ hP hS hl

set_option maxHeartbeats 4000000 in
set_option maxRecDepth 100000 in
theorem ctX11_republic (l : Launch) {σ σ' : FH} {v : Int32} (hf : fX11_republic σ = some (v, σ')) : fx_Mi l yX11_republic cX11_republic 2 (some .int) (51) LX (fun ad ec => [.ref (ad 0)]) σ v σ' := by
  unfold fX11_republic at hf
  refine fx_mi' (own := RX11) rfl (by decide +kernel) ?_
  intro p e s m args below meth c D cy ad ec A hC hr hk hP hS
  have hx := hC.1
  have hb := hC.2.1
  have hl := lv_entry ([.ref (ad 0)]) (n := 2) (Nat.le_of_ble_eq_true rfl)
  show W _ _ _ _ _ _ _ _ _ _ _ _ _ _ _ (entryFrame m ([.ref (ad 0)] : List Value).toArray 2)
  rw [lg_entry_eq]
  generalize (lg_sl ([.ref (ad 0)]) ++ List.replicate (2 - (lg_sl ([.ref (ad 0)])).length) Slot.unset).toArray = ls at hl ⊢
  have hl : lv_has ls 2 [(0, .ref (ad 0))] := hl
  have main : ∀ (H : Heap) (locs : List Loc) (ls : Array Slot), fx_P D cy LX ad σ H → va_S A s.heap H locs → lv_has ls 2 [(0, .ref (ad 0))] → W p l e (fx_R (51)) s m args below meth c H locs 0 0 (fx_Qi D cy LX ad A below args s v σ') (F0 m 0 ls []) := by
    intro H locs ls hP hS hl
    refine lv_aload_n hx hb dX11_republic_0 rfl (lv_at hl 0 rfl) ?_
    refine gf_X11_21 (v := .ref (ad 1)) hC hP kX_0 rfl dX11_republic_1 ?_
    refine lv_aload_n hx hb dX11_republic_4 rfl (lv_at hl 0 rfl) ?_
    obtain ⟨h1, hf⟩ := fxG_e hf
    refine gf_X11_32 (v := .ref (ad (σ.2.2 3))) hC hP kX_0 rfl dX11_republic_5 ?_
    obtain ⟨r3, σ4, hc2, hf⟩ := fxBI_e hf
    refine fx_ci hC hS (fx_runV (i := 1) (As := [.ref (ad (σ.2.2 3))]) (rest := []) hC hP hS (ctX4_readRepublic l hc2 D cy ad ec _) kX_1 (by decide) rfl kMV_X11_88 kC_X4_readRepublic hd_X4_readRepublic rfl ⟨(Nat.le_of_ble_eq_true rfl), (Nat.le_of_ble_eq_true rfl)⟩ ⟨Nat.le_refl 0, Nat.le_refl 0⟩ hl.1 (Nat.le_of_ble_eq_true rfl) rfl dX11_republic_8) (fun H locs hP hS => ?_)
    refine lv_istore_n (lv' := [(1, .int r3), (0, .ref (ad 0))]) hx hb dX11_republic_11 rfl hl (by decide) rfl (fun ls hl => ?_)
    refine lv_iload_n hx hb dX11_republic_12 rfl (lv_at hl 0 rfl) ?_
    refine lv_if_ne (tgt := 20) hx hb dX11_republic_13 (by decide) (fun c5 => ?_) (fun c5 => ?_)
    · replace hf := fx_ie c5 hf
      refine lv_iload_n hx hb dX11_republic_20 rfl (lv_at hl 0 rfl) ?_
      exact fx_iretf hf hC hr hk hP hS dX11_republic_21
    · replace hf := fx_it c5 hf
      refine lv_aload_n hx hb dX11_republic_16 rfl (lv_at hl 1 rfl) ?_
      obtain ⟨σ8, hc6, hf⟩ := fxBV_e hf
      refine fx_cv hC hS (fx_runV (i := 0) (As := []) (rest := []) hC hP hS (ctX11_settle l hc6 D cy ad ec _) kX_0 (by decide) rfl kMV_X11_92 kC_X11_settle hd_X11_settle rfl ⟨(Nat.le_of_ble_eq_true rfl), (Nat.le_of_ble_eq_true rfl)⟩ ⟨Nat.le_refl 0, Nat.le_refl 0⟩ hl.1 (Nat.le_of_ble_eq_true rfl) rfl dX11_republic_17) (fun H locs hP hS => ?_)
      refine lv_iload_n hx hb dX11_republic_20 rfl (lv_at hl 0 rfl) ?_
      exact fx_iretf hf hC hr hk hP hS dX11_republic_21
  exact main _ _ _ hP hS hl

set_option maxHeartbeats 4000000 in
set_option maxRecDepth 100000 in
theorem ctX11_term (l : Launch) {σ σ' : FH} {v : Int32} (hf : fX11_term σ = some (v, σ')) : fx_Mi l yX11_term cX11_term 3 (some .int) (9) LX (fun ad ec => [.ref (ad 0)]) σ v σ' := by
  unfold fX11_term at hf
  refine fx_mi' (own := RX11) rfl (by decide +kernel) ?_
  intro p e s m args below meth c D cy ad ec A hC hr hk hP hS
  have hx := hC.1
  have hb := hC.2.1
  have hl := lv_entry ([.ref (ad 0)]) (n := 3) (Nat.le_of_ble_eq_true rfl)
  show W _ _ _ _ _ _ _ _ _ _ _ _ _ _ _ (entryFrame m ([.ref (ad 0)] : List Value).toArray 3)
  rw [lg_entry_eq]
  generalize (lg_sl ([.ref (ad 0)]) ++ List.replicate (3 - (lg_sl ([.ref (ad 0)])).length) Slot.unset).toArray = ls at hl ⊢
  have hl : lv_has ls 3 [(0, .ref (ad 0))] := hl
  have main : ∀ (H : Heap) (locs : List Loc) (ls : Array Slot), fx_P D cy LX ad σ H → va_S A s.heap H locs → lv_has ls 3 [(0, .ref (ad 0))] → W p l e (fx_R (9)) s m args below meth c H locs 0 0 (fx_Qi D cy LX ad A below args s v σ') (F0 m 0 ls []) := by
    intro H locs ls hP hS hl
    refine lv_aload_n hx hb dX11_term_0 rfl (lv_at hl 0 rfl) ?_
    refine gf_X11_21 (v := .ref (ad 1)) hC hP kX_0 rfl dX11_term_1 ?_
    refine lv_aload_n hx hb dX11_term_4 rfl (lv_at hl 0 rfl) ?_
    obtain ⟨h1, hf⟩ := fxG_e hf
    refine gf_X11_28 (v := .ref (ad (σ.2.2 2))) hC hP kX_0 rfl dX11_term_5 ?_
    refine lv_aload_n hx hb dX11_term_8 rfl (lv_at hl 0 rfl) ?_
    obtain ⟨h2, hf⟩ := fxG_e hf
    refine gf_X11_42 (v := .ref (ad (σ.2.2 5))) hC hP kX_0 rfl dX11_term_9 ?_
    obtain ⟨r4, σ5, hc3, hf⟩ := fxBI_e hf
    refine fx_ci hC hS (fx_runV (i := 1) (As := [.ref (ad (σ.2.2 2)), .ref (ad (σ.2.2 5))]) (rest := []) hC hP hS (ctX4_readTerm l hc3 D cy ad ec _) kX_1 (by decide) rfl kMV_X11_95 kC_X4_readTerm hd_X4_readTerm rfl ⟨(Nat.le_of_ble_eq_true rfl), (Nat.le_of_ble_eq_true rfl)⟩ ⟨Nat.le_refl 0, Nat.le_refl 0⟩ hl.1 (Nat.le_of_ble_eq_true rfl) rfl dX11_term_12) (fun H locs hP hS => ?_)
    refine lv_istore_n (lv' := [(1, .int r4), (0, .ref (ad 0))]) hx hb dX11_term_15 rfl hl (by decide) rfl (fun ls hl => ?_)
    refine lv_iload_n hx hb dX11_term_16 rfl (lv_at hl 0 rfl) ?_
    refine lv_if_ne (tgt := 38) hx hb dX11_term_17 (by decide) (fun c6 => ?_) (fun c6 => ?_)
    · replace hf := fx_ie c6 hf
      refine lv_iload_n hx hb dX11_term_38 rfl (lv_at hl 0 rfl) ?_
      exact fx_iretf hf hC hr hk hP hS dX11_term_39
    · replace hf := fx_it c6 hf
      refine lv_aload_n hx hb dX11_term_20 rfl (lv_at hl 1 rfl) ?_
      obtain ⟨h7, hf⟩ := fxG_e hf
      refine gf_X11_38 (v := .ref (ad (σ5.2.2 4))) hC hP kX_0 rfl dX11_term_21 ?_
      refine lv_astore_n (lv' := [(2, .ref (ad (σ5.2.2 4))), (1, .int r4), (0, .ref (ad 0))]) hx hb dX11_term_24 rfl hl (by decide) rfl (fun ls hl => ?_)
      refine lv_aload_n hx hb dX11_term_25 rfl (lv_at hl 2 rfl) ?_
      refine lv_aload_n hx hb dX11_term_26 rfl (lv_at hl 2 rfl) ?_
      obtain ⟨h8, hf⟩ := fxG_e hf
      refine gf_X11_42 (v := .ref (ad (σ5.2.2 5))) hC hP kX_0 rfl dX11_term_27 ?_
      obtain ⟨σ9, eσ9, hf⟩ := fxL_e hf
      refine pf_X11_38 hC hP hS dX11_term_30 (fun H locs hP hS => ?_)
      replace hP := fx_Pe eσ9 hP
      refine lv_aload_n hx hb dX11_term_33 rfl (lv_at hl 2 rfl) ?_
      refine lv_aload_n hx hb dX11_term_34 rfl (lv_at hl 0 rfl) ?_
      obtain ⟨σ10, eσ10, hf⟩ := fxL_e hf
      refine pf_X11_42 hC hP hS dX11_term_35 (fun H locs hP hS => ?_)
      replace hP := fx_Pe eσ10 hP
      refine lv_iload_n hx hb dX11_term_38 rfl (lv_at hl 1 rfl) ?_
      exact fx_iretf hf hC hr hk hP hS dX11_term_39
  exact main _ _ _ hP hS hl

set_option maxHeartbeats 4000000 in
set_option maxRecDepth 100000 in
theorem ctX11_ware (l : Launch) {a1 : Int32} {a2 : Int32} {σ : FH} {v : Int32} (hf : fX11_ware a1 a2 σ = some v) : fx_Mi l yX11_ware cX11_ware 3 (some .int) (2) LX (fun ad ec => [.ref (ad 0), .int a1, .int a2]) σ v σ := by
  unfold fX11_ware at hf
  refine fx_mi' (own := RX11) rfl (by decide +kernel) ?_
  intro p e s m args below meth c D cy ad ec A hC hr hk hP hS
  have hx := hC.1
  have hb := hC.2.1
  have hl := lv_entry ([.ref (ad 0), .int a1, .int a2]) (n := 3) (Nat.le_of_ble_eq_true rfl)
  show W _ _ _ _ _ _ _ _ _ _ _ _ _ _ _ (entryFrame m ([.ref (ad 0), .int a1, .int a2] : List Value).toArray 3)
  rw [lg_entry_eq]
  generalize (lg_sl ([.ref (ad 0), .int a1, .int a2]) ++ List.replicate (3 - (lg_sl ([.ref (ad 0), .int a1, .int a2])).length) Slot.unset).toArray = ls at hl ⊢
  have hl : lv_has ls 3 [(0, .ref (ad 0)), (1, .int a1), (2, .int a2)] := hl
  have main : ∀ (H : Heap) (locs : List Loc) (ls : Array Slot), fx_P D cy LX ad σ H → va_S A s.heap H locs → lv_has ls 3 [(0, .ref (ad 0)), (1, .int a1), (2, .int a2)] → W p l e (fx_R (2)) s m args below meth c H locs 0 0 (fx_Qi D cy LX ad A below args s v σ) (F0 m 0 ls []) := by
    intro H locs ls hP hS hl
    refine lv_aload_n hx hb dX11_ware_0 rfl (lv_at hl 0 rfl) ?_
    obtain ⟨h1, hf⟩ := fxG_e hf
    refine gf_X11_28 (v := .ref (ad (σ.2.2 2))) hC hP kX_0 rfl dX11_ware_1 ?_
    refine lv_iload_n hx hb dX11_ware_4 rfl (lv_at hl 1 rfl) ?_
    obtain ⟨r3, hc2, hf⟩ := fxBP_e hf
    refine fx_ci hC hS (fx_runV (i := (σ.2.2 2)) (As := [.int a1]) (rest := []) hC hP hS (ctX5_hasWare l hc2 D cy ad ec _) h1 (by decide) rfl kMV_X11_99 kC_X5_hasWare hd_X5_hasWare rfl ⟨(Nat.le_of_ble_eq_true rfl), (Nat.le_of_ble_eq_true rfl)⟩ ⟨Nat.le_refl 0, Nat.le_refl 0⟩ hl.1 (Nat.le_of_ble_eq_true rfl) rfl dX11_ware_5) (fun H locs hP hS => ?_)
    refine lv_if_ne (tgt := 13) hx hb dX11_ware_8 (by decide) (fun c5 => ?_) (fun c5 => ?_)
    · replace hf := fx_ie c5 hf
      refine lv_iload_n hx hb dX11_ware_13 rfl (lv_at hl 2 rfl) ?_
      by_cases c6 : a2 = 0
      · replace hf := fx_it c6 hf
        refine lv_tableIn (off := 38) (tgt := 52) hx hb dX11_ware_14 (by rw [c6]; decide) (by rw [c6]; decide) (by rw [c6]; rfl) (by decide) ?_
        refine lv_aload_n hx hb dX11_ware_52 rfl (lv_at hl 0 rfl) ?_
        obtain ⟨h7, hf⟩ := fxG_e hf
        refine gf_X11_28 (v := .ref (ad (σ.2.2 2))) hC hP kX_0 rfl dX11_ware_53 ?_
        refine gf_X11_103 (v := .ref (ad ((σ.2.2 2) + 2))) hC hP h7 rfl dX11_ware_56 ?_
        refine lv_iload_n hx hb dX11_ware_59 rfl (lv_at hl 1 rfl) ?_
        obtain ⟨h8, hf⟩ := fxG_e hf
        refine fx_iald hC hP (lyX_5_2 h7) (fx_inp h8) dX11_ware_60 ?_
        exact fx_iretp hf hC hr hk hP hS dX11_ware_61
      replace hf := fx_ie c6 hf
      by_cases c9 : a2 = 1
      · replace hf := fx_it c9 hf
        refine lv_tableIn (off := 48) (tgt := 62) hx hb dX11_ware_14 (by rw [c9]; decide) (by rw [c9]; decide) (by rw [c9]; rfl) (by decide) ?_
        refine lv_aload_n hx hb dX11_ware_62 rfl (lv_at hl 0 rfl) ?_
        obtain ⟨h10, hf⟩ := fxG_e hf
        refine gf_X11_28 (v := .ref (ad (σ.2.2 2))) hC hP kX_0 rfl dX11_ware_63 ?_
        refine gf_X11_107 (v := .ref (ad ((σ.2.2 2) + 3))) hC hP h10 rfl dX11_ware_66 ?_
        refine lv_iload_n hx hb dX11_ware_69 rfl (lv_at hl 1 rfl) ?_
        obtain ⟨h11, hf⟩ := fxG_e hf
        refine fx_iald hC hP (lyX_5_3 h10) (fx_inp h11) dX11_ware_70 ?_
        exact fx_iretp hf hC hr hk hP hS dX11_ware_71
      replace hf := fx_ie c9 hf
      by_cases c12 : a2 = 2
      · replace hf := fx_it c12 hf
        refine lv_tableIn (off := 58) (tgt := 72) hx hb dX11_ware_14 (by rw [c12]; decide) (by rw [c12]; decide) (by rw [c12]; rfl) (by decide) ?_
        refine lv_aload_n hx hb dX11_ware_72 rfl (lv_at hl 0 rfl) ?_
        refine gf_X11_48 (v := .ref (ad 7)) hC hP kX_0 rfl dX11_ware_73 ?_
        refine gf_X11_110 (v := .ref (ad 8)) hC hP kX_7 rfl dX11_ware_76 ?_
        refine lv_iload_n hx hb dX11_ware_79 rfl (lv_at hl 1 rfl) ?_
        obtain ⟨h13, hf⟩ := fxG_e hf
        refine fx_iald hC hP kX_8 (fx_inp h13) dX11_ware_80 ?_
        exact fx_iretp hf hC hr hk hP hS dX11_ware_81
      replace hf := fx_ie c12 hf
      by_cases c14 : a2 = 3
      · replace hf := fx_it c14 hf
        refine lv_tableIn (off := 68) (tgt := 82) hx hb dX11_ware_14 (by rw [c14]; decide) (by rw [c14]; decide) (by rw [c14]; rfl) (by decide) ?_
        refine lv_aload_n hx hb dX11_ware_82 rfl (lv_at hl 0 rfl) ?_
        obtain ⟨h15, hf⟩ := fxG_e hf
        refine gf_X11_28 (v := .ref (ad (σ.2.2 2))) hC hP kX_0 rfl dX11_ware_83 ?_
        refine lv_iload_n hx hb dX11_ware_86 rfl (lv_at hl 1 rfl) ?_
        obtain ⟨r17, hc16, hf⟩ := fxBP_e hf
        refine fx_ci hC hS (fx_runV (i := (σ.2.2 2)) (As := [.int a1]) (rest := []) hC hP hS (ctX5_halfOf l hc16 D cy ad ec _) h15 (by decide) rfl kMV_X11_113 kC_X5_halfOf hd_X5_halfOf rfl ⟨(Nat.le_of_ble_eq_true rfl), (Nat.le_of_ble_eq_true rfl)⟩ ⟨Nat.le_refl 0, Nat.le_refl 0⟩ hl.1 (Nat.le_of_ble_eq_true rfl) rfl dX11_ware_87) (fun H locs hP hS => ?_)
        exact fx_iretp hf hC hr hk hP hS dX11_ware_90
      replace hf := fx_ie c14 hf
      by_cases c19 : a2 = 4
      · replace hf := fx_it c19 hf
        refine lv_tableIn (off := 77) (tgt := 91) hx hb dX11_ware_14 (by rw [c19]; decide) (by rw [c19]; decide) (by rw [c19]; rfl) (by decide) ?_
        refine lv_aload_n hx hb dX11_ware_91 rfl (lv_at hl 0 rfl) ?_
        refine gf_X11_48 (v := .ref (ad 7)) hC hP kX_0 rfl dX11_ware_92 ?_
        refine lv_aload_n hx hb dX11_ware_95 rfl (lv_at hl 0 rfl) ?_
        obtain ⟨h20, hf⟩ := fxG_e hf
        refine gf_X11_28 (v := .ref (ad (σ.2.2 2))) hC hP kX_0 rfl dX11_ware_96 ?_
        refine lv_iload_n hx hb dX11_ware_99 rfl (lv_at hl 1 rfl) ?_
        obtain ⟨r22, hc21, hf⟩ := fxBP_e hf
        refine fx_ci hC hS (fx_runV (i := 7) (As := [.ref (ad (σ.2.2 2)), .int a1]) (rest := []) hC hP hS (ctX7_votesFor l hc21 D cy ad ec _) kX_7 (by decide) rfl kMV_X11_117 kC_X7_votesFor hd_X7_votesFor rfl ⟨(Nat.le_of_ble_eq_true rfl), (Nat.le_of_ble_eq_true rfl)⟩ ⟨Nat.le_refl 0, Nat.le_refl 0⟩ hl.1 (Nat.le_of_ble_eq_true rfl) rfl dX11_ware_100) (fun H locs hP hS => ?_)
        exact fx_iretp hf hC hr hk hP hS dX11_ware_103
      replace hf := fx_ie c19 hf
      by_cases c24 : a2 = 5
      · replace hf := fx_it c24 hf
        refine lv_tableIn (off := 90) (tgt := 104) hx hb dX11_ware_14 (by rw [c24]; decide) (by rw [c24]; decide) (by rw [c24]; rfl) (by decide) ?_
        refine lv_aload_n hx hb dX11_ware_104 rfl (lv_at hl 0 rfl) ?_
        refine gf_X11_48 (v := .ref (ad 7)) hC hP kX_0 rfl dX11_ware_105 ?_
        refine lv_aload_n hx hb dX11_ware_108 rfl (lv_at hl 0 rfl) ?_
        obtain ⟨h25, hf⟩ := fxG_e hf
        refine gf_X11_28 (v := .ref (ad (σ.2.2 2))) hC hP kX_0 rfl dX11_ware_109 ?_
        refine lv_iload_n hx hb dX11_ware_112 rfl (lv_at hl 1 rfl) ?_
        obtain ⟨r27, hc26, hf⟩ := fxBP_e hf
        refine fx_ci hC hS (fx_runV (i := 7) (As := [.ref (ad (σ.2.2 2)), .int a1]) (rest := []) hC hP hS (ctX7_votesFor l hc26 D cy ad ec _) kX_7 (by decide) rfl kMV_X11_117 kC_X7_votesFor hd_X7_votesFor rfl ⟨(Nat.le_of_ble_eq_true rfl), (Nat.le_of_ble_eq_true rfl)⟩ ⟨Nat.le_refl 0, Nat.le_refl 0⟩ hl.1 (Nat.le_of_ble_eq_true rfl) rfl dX11_ware_113) (fun H locs hP hS => ?_)
        refine lv_aload_n hx hb dX11_ware_116 rfl (lv_at hl 0 rfl) ?_
        refine gf_X11_48 (v := .ref (ad 7)) hC hP kX_0 rfl dX11_ware_117 ?_
        obtain ⟨r30, hc29, hf⟩ := fxBP_e hf
        refine fx_ci hC hS (fx_runV (i := 7) (As := []) (rest := [.int r27]) hC hP hS (ctX7_allSeats l hc29 D cy ad ec _) kX_7 (by decide) rfl kMV_X11_121 kC_X7_allSeats hd_X7_allSeats rfl ⟨(Nat.le_of_ble_eq_true rfl), (Nat.le_of_ble_eq_true rfl)⟩ ⟨Nat.le_refl 0, Nat.le_refl 0⟩ hl.1 (Nat.le_of_ble_eq_true rfl) rfl dX11_ware_120) (fun H locs hP hS => ?_)
        obtain ⟨r33, hc32, hf⟩ := fxBP_e hf
        refine fx_ci hC hS (fx_runS (As := [.int r27, .int r30]) (rest := []) hC hP hS (ctX11_standing l hc32 D cy ad ec _) kMS_X11_125 kC_X11_standing hd_X11_standing.2 rfl ⟨(Nat.le_of_ble_eq_true rfl), (Nat.le_of_ble_eq_true rfl)⟩ ⟨Nat.le_refl 0, Nat.le_refl 0⟩ hl.1 (Nat.le_of_ble_eq_true rfl) rfl dX11_ware_123) (fun H locs hP hS => ?_)
        exact fx_iretp hf hC hr hk hP hS dX11_ware_126
      replace hf := fx_ie c24 hf
      have qc6 := fx_ne32 (z := 0) rfl c6
      have qc9 := fx_ne32 (z := 1) rfl c9
      have qc12 := fx_ne32 (z := 2) rfl c12
      have qc14 := fx_ne32 (z := 3) rfl c14
      have qc19 := fx_ne32 (z := 4) rfl c19
      have qc24 := fx_ne32 (z := 5) rfl c24
      refine lv_tableOut (tgt := 127) hx hb dX11_ware_14 (by omega) (by decide) ?_
      refine lv_iconst hx hb dX11_ware_127 ki_m1 ?_
      exact fx_iretp hf hC hr hk hP hS dX11_ware_128
    · replace hf := fx_it c5 hf
      refine lv_iconst hx hb dX11_ware_11 ki_m1 ?_
      exact fx_iretp hf hC hr hk hP hS dX11_ware_12
  exact main _ _ _ hP hS hl

set_option maxHeartbeats 4000000 in
set_option maxRecDepth 100000 in
theorem ctX11_party (l : Launch) {a1 : Int32} {a2 : Int32} {σ : FH} {v : Int32} (hf : fX11_party a1 a2 σ = some v) : fx_Mi l yX11_party cX11_party 3 (some .int) (1) LX (fun ad ec => [.ref (ad 0), .int a1, .int a2]) σ v σ := by
  unfold fX11_party at hf
  refine fx_mi' (own := RX11) rfl (by decide +kernel) ?_
  intro p e s m args below meth c D cy ad ec A hC hr hk hP hS
  have hx := hC.1
  have hb := hC.2.1
  have hl := lv_entry ([.ref (ad 0), .int a1, .int a2]) (n := 3) (Nat.le_of_ble_eq_true rfl)
  show W _ _ _ _ _ _ _ _ _ _ _ _ _ _ _ (entryFrame m ([.ref (ad 0), .int a1, .int a2] : List Value).toArray 3)
  rw [lg_entry_eq]
  generalize (lg_sl ([.ref (ad 0), .int a1, .int a2]) ++ List.replicate (3 - (lg_sl ([.ref (ad 0), .int a1, .int a2])).length) Slot.unset).toArray = ls at hl ⊢
  have hl : lv_has ls 3 [(0, .ref (ad 0)), (1, .int a1), (2, .int a2)] := hl
  have main : ∀ (H : Heap) (locs : List Loc) (ls : Array Slot), fx_P D cy LX ad σ H → va_S A s.heap H locs → lv_has ls 3 [(0, .ref (ad 0)), (1, .int a1), (2, .int a2)] → W p l e (fx_R (1)) s m args below meth c H locs 0 0 (fx_Qi D cy LX ad A below args s v σ) (F0 m 0 ls []) := by
    intro H locs ls hP hS hl
    refine lv_aload_n hx hb dX11_party_0 rfl (lv_at hl 0 rfl) ?_
    obtain ⟨h1, hf⟩ := fxG_e hf
    refine gf_X11_28 (v := .ref (ad (σ.2.2 2))) hC hP kX_0 rfl dX11_party_1 ?_
    refine lv_iload_n hx hb dX11_party_4 rfl (lv_at hl 1 rfl) ?_
    obtain ⟨r3, hc2, hf⟩ := fxBP_e hf
    refine fx_ci hC hS (fx_runV (i := (σ.2.2 2)) (As := [.int a1]) (rest := []) hC hP hS (ctX5_hasParty l hc2 D cy ad ec _) h1 (by decide) rfl kMV_X11_129 kC_X5_hasParty hd_X5_hasParty rfl ⟨(Nat.le_of_ble_eq_true rfl), (Nat.le_of_ble_eq_true rfl)⟩ ⟨Nat.le_refl 0, Nat.le_refl 0⟩ hl.1 (Nat.le_of_ble_eq_true rfl) rfl dX11_party_5) (fun H locs hP hS => ?_)
    refine lv_if_ne (tgt := 13) hx hb dX11_party_8 (by decide) (fun c5 => ?_) (fun c5 => ?_)
    · replace hf := fx_ie c5 hf
      refine lv_iload_n hx hb dX11_party_13 rfl (lv_at hl 2 rfl) ?_
      by_cases c6 : a2 = 0
      · replace hf := fx_it c6 hf
        refine lv_lookup (off := 26) (tgt := 40) hx hb dX11_party_14 (by decide) (by rw [c6]; rfl) (by decide) ?_
        refine lv_aload_n hx hb dX11_party_40 rfl (lv_at hl 0 rfl) ?_
        refine gf_X11_48 (v := .ref (ad 7)) hC hP kX_0 rfl dX11_party_41 ?_
        refine gf_X11_132 (v := .ref (ad 9)) hC hP kX_7 rfl dX11_party_44 ?_
        refine lv_iload_n hx hb dX11_party_47 rfl (lv_at hl 1 rfl) ?_
        obtain ⟨h7, hf⟩ := fxG_e hf
        refine fx_iald hC hP kX_9 (fx_inp h7) dX11_party_48 ?_
        exact fx_iretp hf hC hr hk hP hS dX11_party_49
      replace hf := fx_ie c6 hf
      by_cases c8 : a2 = 1
      · replace hf := fx_it c8 hf
        refine lv_lookup (off := 36) (tgt := 50) hx hb dX11_party_14 (by decide) (by rw [c8]; rfl) (by decide) ?_
        refine lv_aload_n hx hb dX11_party_50 rfl (lv_at hl 0 rfl) ?_
        obtain ⟨h9, hf⟩ := fxG_e hf
        refine gf_X11_28 (v := .ref (ad (σ.2.2 2))) hC hP kX_0 rfl dX11_party_51 ?_
        refine gf_X11_135 (v := .ref (ad ((σ.2.2 2) + 7))) hC hP h9 rfl dX11_party_54 ?_
        refine lv_iload_n hx hb dX11_party_57 rfl (lv_at hl 1 rfl) ?_
        obtain ⟨h10, hf⟩ := fxG_e hf
        refine fx_iald hC hP (lyX_5_8 h9) (fx_inp h10) dX11_party_58 ?_
        exact fx_iretp hf hC hr hk hP hS dX11_party_59
      replace hf := fx_ie c8 hf
      have qc6 := fx_ne32 (z := 0) rfl c6
      have qc8 := fx_ne32 (z := 1) rfl c8
      refine lv_lookup (off := 46) (tgt := 60) hx hb dX11_party_14 (by decide) (by simp [Op.lookupswitch.offset, Ne.symm qc6, qc6, Ne.symm qc8, qc8]) (by decide) ?_
      refine lv_iconst hx hb dX11_party_60 ki_m1 ?_
      exact fx_iretp hf hC hr hk hP hS dX11_party_61
    · replace hf := fx_it c5 hf
      refine lv_iconst hx hb dX11_party_11 ki_m1 ?_
      exact fx_iretp hf hC hr hk hP hS dX11_party_12
  exact main _ _ _ hP hS hl

set_option maxHeartbeats 4000000 in
set_option maxRecDepth 100000 in
theorem ctX11_isLot (l : Launch) {a0 : Int32} {σ : FH} {v : Int32} (hf : fX11_isLot a0 σ = some v) : fx_Mi l yX11_isLot cX11_isLot 1 (some .boolean) (0) LX (fun ad ec => [.int a0]) σ v σ := by
  unfold fX11_isLot at hf
  refine fx_mi' (own := RX11) rfl (by decide +kernel) ?_
  intro p e s m args below meth c D cy ad ec A hC hr hk hP hS
  have hx := hC.1
  have hb := hC.2.1
  have hl := lv_entry ([.int a0]) (n := 1) (Nat.le_of_ble_eq_true rfl)
  show W _ _ _ _ _ _ _ _ _ _ _ _ _ _ _ (entryFrame m ([.int a0] : List Value).toArray 1)
  rw [lg_entry_eq]
  generalize (lg_sl ([.int a0]) ++ List.replicate (1 - (lg_sl ([.int a0])).length) Slot.unset).toArray = ls at hl ⊢
  have hl : lv_has ls 1 [(0, .int a0)] := hl
  have main : ∀ (H : Heap) (locs : List Loc) (ls : Array Slot), fx_P D cy LX ad σ H → va_S A s.heap H locs → lv_has ls 1 [(0, .int a0)] → W p l e (fx_R (0)) s m args below meth c H locs 0 0 (fx_Qi D cy LX ad A below args s v σ) (F0 m 0 ls []) := by
    intro H locs ls hP hS hl
    refine lv_iload_n hx hb dX11_isLot_0 rfl (lv_at hl 0 rfl) ?_
    refine lv_iconst hx hb dX11_isLot_1 ki_1 ?_
    obtain ⟨v1, ev1, hf⟩ := fxL_e hf
    have j_v1 : ∀ (z2 : Int32), z2 = ((if a0 < 1 then 0 else (if 20 < a0 then 0 else 1)) : Int32) → ∀ (ls : Array Slot), lv_has ls 1 [] → W p l e (fx_R (0)) s m args below meth c H locs 0 0 (fx_Qi D cy LX ad A below args s v σ) (F0 m 16 ls [.int z2]) := by
      intro z2 hz2 ls hl
      obtain rfl : v1 = z2 := ev1.trans hz2.symm
      obtain ⟨h5, hf⟩ := fxG_e hf
      exact fx_zretp (fx_bon h5) hf hC hr hk hP hS dX11_isLot_16
    refine lv_icmp_lt (tgt := 15) hx hb dX11_isLot_2 (by decide) (fun c3 => ?_) (fun c3 => ?_)
    · refine lv_iconst hx hb dX11_isLot_15 ki_0 ?_
      exact j_v1 0 (if_pos c3).symm ls (lv_sub hl [] rfl)
    · refine lv_iload_n hx hb dX11_isLot_5 rfl (lv_at hl 0 rfl) ?_
      refine lv_bipush hx hb dX11_isLot_6 kb_20 ?_
      refine lv_icmp_gt (tgt := 15) hx hb dX11_isLot_8 (by decide) (fun c4 => ?_) (fun c4 => ?_)
      · refine lv_iconst hx hb dX11_isLot_15 ki_0 ?_
        exact j_v1 0 ((if_neg c3).trans (if_pos c4)).symm ls (lv_sub hl [] rfl)
      · refine lv_iconst hx hb dX11_isLot_11 ki_1 ?_
        refine lv_goto (tgt := 16) hx hb dX11_isLot_12 (by decide) ?_
        exact j_v1 1 ((if_neg c3).trans (if_neg c4)).symm ls (lv_sub hl [] rfl)
  exact main _ _ _ hP hS hl

set_option maxHeartbeats 4000000 in
set_option maxRecDepth 100000 in
theorem ctX11_keepPast (l : Launch) {σ σ' : FH} (hf : fX11_keepPast σ = some σ') : fx_Mv l yX11_keepPast cX11_keepPast 1 none (1) LX (fun ad ec => [.ref (ad 0)]) σ σ' := by
  unfold fX11_keepPast at hf
  refine fx_mv' (own := RX11) rfl (by decide +kernel) ?_
  intro p e s m args below meth c D cy ad ec A hC hr hk hP hS
  have hx := hC.1
  have hb := hC.2.1
  have hl := lv_entry ([.ref (ad 0)]) (n := 1) (Nat.le_of_ble_eq_true rfl)
  show W _ _ _ _ _ _ _ _ _ _ _ _ _ _ _ (entryFrame m ([.ref (ad 0)] : List Value).toArray 1)
  rw [lg_entry_eq]
  generalize (lg_sl ([.ref (ad 0)]) ++ List.replicate (1 - (lg_sl ([.ref (ad 0)])).length) Slot.unset).toArray = ls at hl ⊢
  have hl : lv_has ls 1 [(0, .ref (ad 0))] := hl
  have main : ∀ (H : Heap) (locs : List Loc) (ls : Array Slot), fx_P D cy LX ad σ H → va_S A s.heap H locs → lv_has ls 1 [(0, .ref (ad 0))] → W p l e (fx_R (1)) s m args below meth c H locs 0 0 (fx_Qv D cy LX ad A below args s σ') (F0 m 0 ls []) := by
    intro H locs ls hP hS hl
    refine lv_aload_n hx hb dX11_keepPast_0 rfl (lv_at hl 0 rfl) ?_
    refine gf_X11_69 (v := .ref (ad 49)) hC hP kX_0 rfl dX11_keepPast_1 ?_
    refine lv_aload_n hx hb dX11_keepPast_4 rfl (lv_at hl 0 rfl) ?_
    refine gf_X11_174 (v := .int (σ.1 0 12)) hC hP kX_0 rfl dX11_keepPast_5 ?_
    obtain ⟨h1, hf⟩ := fxG_e hf
    refine fx_aaldS hC hP kX_49 (fx_inp h1) dX11_keepPast_8 ?_
    refine lv_aload_n hx hb dX11_keepPast_9 rfl (lv_at hl 0 rfl) ?_
    refine gf_X11_48 (v := .ref (ad 7)) hC hP kX_0 rfl dX11_keepPast_10 ?_
    obtain ⟨σ4, hc2, hf⟩ := fxBV_e hf
    refine fx_cv hC hS (fx_runV (i := (51 + 3 * (Int32.toNatClampNeg (σ.1 0 12)))) (As := [.ref (ad 7)]) (rest := []) hC hP hS (ctX7_copyOf l hc2 D cy ad ec _) (fx_pastK h1) (by decide) rfl kMV_X11_182 kC_X7_copyOf hd_X7_copyOf rfl ⟨(Nat.le_of_ble_eq_true rfl), (Nat.le_of_ble_eq_true rfl)⟩ ⟨Nat.le_refl 0, Nat.le_refl 0⟩ hl.1 (Nat.le_of_ble_eq_true rfl) rfl dX11_keepPast_13) (fun H locs hP hS => ?_)
    refine lv_aload_n hx hb dX11_keepPast_16 rfl (lv_at hl 0 rfl) ?_
    refine lv_aload_n hx hb dX11_keepPast_17 rfl (lv_at hl 0 rfl) ?_
    refine gf_X11_174 (v := .int (σ4.1 0 12)) hC hP kX_0 rfl dX11_keepPast_18 ?_
    refine lv_iconst hx hb dX11_keepPast_21 ki_1 ?_
    refine lv_iadd hx hb dX11_keepPast_22 ?_
    refine lv_bipush hx hb dX11_keepPast_23 kb_16 ?_
    obtain ⟨r6, hc5, hf⟩ := fxBP_e hf
    refine fx_ci hC hS (fx_runS (As := [.int ((σ4.1 0 12) + 1), .int 16]) (rest := [.ref (ad 0)]) hC hP hS (ctJ9_floorMod_7cf53 l hc5 D cy ad ec _) kMS_X11_177 kC_J9_floorMod_7cf53 hd_J9_floorMod_7cf53.2 rfl ⟨(Nat.le_of_ble_eq_true rfl), (Nat.le_of_ble_eq_true rfl)⟩ ⟨Nat.le_refl 0, Nat.le_refl 0⟩ hl.1 (Nat.le_of_ble_eq_true rfl) rfl dX11_keepPast_25) (fun H locs hP hS => ?_)
    obtain ⟨σ8, eσ8, hf⟩ := fxL_e hf
    refine pf_X11_174 hC hP hS kX_0 dX11_keepPast_28 (fun H locs hP hS => ?_)
    replace hP := fx_Pe eσ8 hP
    refine lv_aload_n hx hb dX11_keepPast_31 rfl (lv_at hl 0 rfl) ?_
    refine lv_aload_n hx hb dX11_keepPast_32 rfl (lv_at hl 0 rfl) ?_
    refine gf_X11_171 (v := .int (σ8.1 0 11)) hC hP kX_0 rfl dX11_keepPast_33 ?_
    refine lv_iconst hx hb dX11_keepPast_36 ki_1 ?_
    refine lv_iadd hx hb dX11_keepPast_37 ?_
    refine lv_bipush hx hb dX11_keepPast_38 kb_16 ?_
    refine fx_min hC hl.1 kL_X11_332 kMt_min kMi kMc_min (Nat.le_of_ble_eq_true rfl) (Nat.le_of_ble_eq_true rfl) ⟨Nat.le_refl 0, Nat.le_refl 0⟩ dX11_keepPast_40 ?_
    obtain ⟨σ9, eσ9, hf⟩ := fxL_e hf
    refine pf_X11_171 hC hP hS kX_0 dX11_keepPast_43 (fun H locs hP hS => ?_)
    replace hP := fx_Pe eσ9 hP
    exact fx_vretf hf hC hr hk hP hS dX11_keepPast_46
  exact main _ _ _ hP hS hl

set_option maxHeartbeats 4000000 in
set_option maxRecDepth 100000 in
theorem ctX11_work (l : Launch) {a1 : Int32} {a2 : Int32} {σ σ' : FH} {v : Int32} (hf : fX11_work a1 a2 σ = some (v, σ')) : fx_Mi l yX11_work cX11_work 3 (some .int) (2) LX (fun ad ec => [.ref (ad 0), .int a1, .int a2]) σ v σ' := by
  unfold fX11_work at hf
  refine fx_mi' (own := RX11) rfl (by decide +kernel) ?_
  intro p e s m args below meth c D cy ad ec A hC hr hk hP hS
  have hx := hC.1
  have hb := hC.2.1
  have hl := lv_entry ([.ref (ad 0), .int a1, .int a2]) (n := 3) (Nat.le_of_ble_eq_true rfl)
  show W _ _ _ _ _ _ _ _ _ _ _ _ _ _ _ (entryFrame m ([.ref (ad 0), .int a1, .int a2] : List Value).toArray 3)
  rw [lg_entry_eq]
  generalize (lg_sl ([.ref (ad 0), .int a1, .int a2]) ++ List.replicate (3 - (lg_sl ([.ref (ad 0), .int a1, .int a2])).length) Slot.unset).toArray = ls at hl ⊢
  have hl : lv_has ls 3 [(0, .ref (ad 0)), (1, .int a1), (2, .int a2)] := hl
  have main : ∀ (H : Heap) (locs : List Loc) (ls : Array Slot), fx_P D cy LX ad σ H → va_S A s.heap H locs → lv_has ls 3 [(0, .ref (ad 0)), (1, .int a1), (2, .int a2)] → W p l e (fx_R (2)) s m args below meth c H locs 0 0 (fx_Qi D cy LX ad A below args s v σ') (F0 m 0 ls []) := by
    intro H locs ls hP hS hl
    refine lv_aload_n hx hb dX11_work_0 rfl (lv_at hl 0 rfl) ?_
    obtain ⟨h1, hf⟩ := fxG_e hf
    refine gf_X11_28 (v := .ref (ad (σ.2.2 2))) hC hP kX_0 rfl dX11_work_1 ?_
    refine lv_iload_n hx hb dX11_work_4 rfl (lv_at hl 1 rfl) ?_
    obtain ⟨r3, hc2, hf⟩ := fxBP_e hf
    refine fx_ci hC hS (fx_runV (i := (σ.2.2 2)) (As := [.int a1]) (rest := []) hC hP hS (ctX5_hasWare l hc2 D cy ad ec _) h1 (by decide) rfl kMV_X11_99 kC_X5_hasWare hd_X5_hasWare rfl ⟨(Nat.le_of_ble_eq_true rfl), (Nat.le_of_ble_eq_true rfl)⟩ ⟨Nat.le_refl 0, Nat.le_refl 0⟩ hl.1 (Nat.le_of_ble_eq_true rfl) rfl dX11_work_5) (fun H locs hP hS => ?_)
    refine lv_if_eq (tgt := 18) hx hb dX11_work_8 (by decide) (fun c5 => ?_) (fun c5 => ?_)
    · replace hf := fx_it c5 hf
      refine lv_iconst hx hb dX11_work_18 ki_m1 ?_
      exact fx_iretf hf hC hr hk hP hS dX11_work_19
    · replace hf := fx_ie c5 hf
      refine lv_iload_n hx hb dX11_work_11 rfl (lv_at hl 2 rfl) ?_
      obtain ⟨r7, hc6, hf⟩ := fxBP_e hf
      refine fx_ci hC hS (fx_runS (As := [.int a2]) (rest := []) hC hP hS (ctX11_isLot l hc6 D cy ad ec _) kMS_X11_138 kC_X11_isLot hd_X11_isLot.2 rfl ⟨(Nat.le_of_ble_eq_true rfl), (Nat.le_of_ble_eq_true rfl)⟩ ⟨Nat.le_refl 0, Nat.le_refl 0⟩ hl.1 (Nat.le_of_ble_eq_true rfl) rfl dX11_work_12) (fun H locs hP hS => ?_)
      refine lv_if_ne (tgt := 20) hx hb dX11_work_15 (by decide) (fun c9 => ?_) (fun c9 => ?_)
      · replace hf := fx_ie c9 hf
        refine lv_aload_n hx hb dX11_work_20 rfl (lv_at hl 0 rfl) ?_
        obtain ⟨σ12, hc10, hf⟩ := fxBV_e hf
        refine fx_cv hC hS (fx_runV (i := 0) (As := []) (rest := []) hC hP hS (ctX11_keepPast l hc10 D cy ad ec _) kX_0 (by decide) rfl kMV_X11_141 kC_X11_keepPast hd_X11_keepPast rfl ⟨(Nat.le_of_ble_eq_true rfl), (Nat.le_of_ble_eq_true rfl)⟩ ⟨Nat.le_refl 0, Nat.le_refl 0⟩ hl.1 (Nat.le_of_ble_eq_true rfl) rfl dX11_work_21) (fun H locs hP hS => ?_)
        refine lv_aload_n hx hb dX11_work_24 rfl (lv_at hl 0 rfl) ?_
        refine gf_X11_48 (v := .ref (ad 7)) hC hP kX_0 rfl dX11_work_25 ?_
        refine lv_aload_n hx hb dX11_work_28 rfl (lv_at hl 0 rfl) ?_
        obtain ⟨h13, hf⟩ := fxG_e hf
        refine gf_X11_28 (v := .ref (ad (σ12.2.2 2))) hC hP kX_0 rfl dX11_work_29 ?_
        refine lv_iload_n hx hb dX11_work_32 rfl (lv_at hl 1 rfl) ?_
        refine lv_iload_n hx hb dX11_work_33 rfl (lv_at hl 2 rfl) ?_
        obtain ⟨r15, σ16, hc14, hf⟩ := fxBI_e hf
        refine fx_ci hC hS (fx_runV (i := 7) (As := [.ref (ad (σ12.2.2 2)), .int a1, .int a2]) (rest := []) hC hP hS (ctX7_workOn l hc14 D cy ad ec _) kX_7 (by decide) rfl kMV_X11_144 kC_X7_workOn hd_X7_workOn rfl ⟨(Nat.le_of_ble_eq_true rfl), (Nat.le_of_ble_eq_true rfl)⟩ ⟨Nat.le_refl 0, Nat.le_refl 0⟩ hl.1 (Nat.le_of_ble_eq_true rfl) rfl dX11_work_34) (fun H locs hP hS => ?_)
        exact fx_iretf hf hC hr hk hP hS dX11_work_37
      · replace hf := fx_it c9 hf
        refine lv_iconst hx hb dX11_work_18 ki_m1 ?_
        exact fx_iretf hf hC hr hk hP hS dX11_work_19
  exact main _ _ _ hP hS hl

set_option maxHeartbeats 4000000 in
set_option maxRecDepth 100000 in
theorem ctX11_stop (l : Launch) {a1 : Int32} {a2 : Int32} {σ σ' : FH} {v : Int32} (hf : fX11_stop a1 a2 σ = some (v, σ')) : fx_Mi l yX11_stop cX11_stop 3 (some .int) (2) LX (fun ad ec => [.ref (ad 0), .int a1, .int a2]) σ v σ' := by
  unfold fX11_stop at hf
  refine fx_mi' (own := RX11) rfl (by decide +kernel) ?_
  intro p e s m args below meth c D cy ad ec A hC hr hk hP hS
  have hx := hC.1
  have hb := hC.2.1
  have hl := lv_entry ([.ref (ad 0), .int a1, .int a2]) (n := 3) (Nat.le_of_ble_eq_true rfl)
  show W _ _ _ _ _ _ _ _ _ _ _ _ _ _ _ (entryFrame m ([.ref (ad 0), .int a1, .int a2] : List Value).toArray 3)
  rw [lg_entry_eq]
  generalize (lg_sl ([.ref (ad 0), .int a1, .int a2]) ++ List.replicate (3 - (lg_sl ([.ref (ad 0), .int a1, .int a2])).length) Slot.unset).toArray = ls at hl ⊢
  have hl : lv_has ls 3 [(0, .ref (ad 0)), (1, .int a1), (2, .int a2)] := hl
  have main : ∀ (H : Heap) (locs : List Loc) (ls : Array Slot), fx_P D cy LX ad σ H → va_S A s.heap H locs → lv_has ls 3 [(0, .ref (ad 0)), (1, .int a1), (2, .int a2)] → W p l e (fx_R (2)) s m args below meth c H locs 0 0 (fx_Qi D cy LX ad A below args s v σ') (F0 m 0 ls []) := by
    intro H locs ls hP hS hl
    refine lv_aload_n hx hb dX11_stop_0 rfl (lv_at hl 0 rfl) ?_
    obtain ⟨h1, hf⟩ := fxG_e hf
    refine gf_X11_28 (v := .ref (ad (σ.2.2 2))) hC hP kX_0 rfl dX11_stop_1 ?_
    refine lv_iload_n hx hb dX11_stop_4 rfl (lv_at hl 1 rfl) ?_
    obtain ⟨r3, hc2, hf⟩ := fxBP_e hf
    refine fx_ci hC hS (fx_runV (i := (σ.2.2 2)) (As := [.int a1]) (rest := []) hC hP hS (ctX5_hasWare l hc2 D cy ad ec _) h1 (by decide) rfl kMV_X11_99 kC_X5_hasWare hd_X5_hasWare rfl ⟨(Nat.le_of_ble_eq_true rfl), (Nat.le_of_ble_eq_true rfl)⟩ ⟨Nat.le_refl 0, Nat.le_refl 0⟩ hl.1 (Nat.le_of_ble_eq_true rfl) rfl dX11_stop_5) (fun H locs hP hS => ?_)
    refine lv_if_eq (tgt := 18) hx hb dX11_stop_8 (by decide) (fun c5 => ?_) (fun c5 => ?_)
    · replace hf := fx_it c5 hf
      refine lv_iconst hx hb dX11_stop_18 ki_m1 ?_
      exact fx_iretf hf hC hr hk hP hS dX11_stop_19
    · replace hf := fx_ie c5 hf
      refine lv_iload_n hx hb dX11_stop_11 rfl (lv_at hl 2 rfl) ?_
      obtain ⟨r7, hc6, hf⟩ := fxBP_e hf
      refine fx_ci hC hS (fx_runS (As := [.int a2]) (rest := []) hC hP hS (ctX11_isLot l hc6 D cy ad ec _) kMS_X11_138 kC_X11_isLot hd_X11_isLot.2 rfl ⟨(Nat.le_of_ble_eq_true rfl), (Nat.le_of_ble_eq_true rfl)⟩ ⟨Nat.le_refl 0, Nat.le_refl 0⟩ hl.1 (Nat.le_of_ble_eq_true rfl) rfl dX11_stop_12) (fun H locs hP hS => ?_)
      refine lv_if_ne (tgt := 20) hx hb dX11_stop_15 (by decide) (fun c9 => ?_) (fun c9 => ?_)
      · replace hf := fx_ie c9 hf
        refine lv_aload_n hx hb dX11_stop_20 rfl (lv_at hl 0 rfl) ?_
        obtain ⟨σ12, hc10, hf⟩ := fxBV_e hf
        refine fx_cv hC hS (fx_runV (i := 0) (As := []) (rest := []) hC hP hS (ctX11_keepPast l hc10 D cy ad ec _) kX_0 (by decide) rfl kMV_X11_141 kC_X11_keepPast hd_X11_keepPast rfl ⟨(Nat.le_of_ble_eq_true rfl), (Nat.le_of_ble_eq_true rfl)⟩ ⟨Nat.le_refl 0, Nat.le_refl 0⟩ hl.1 (Nat.le_of_ble_eq_true rfl) rfl dX11_stop_21) (fun H locs hP hS => ?_)
        refine lv_aload_n hx hb dX11_stop_24 rfl (lv_at hl 0 rfl) ?_
        refine gf_X11_48 (v := .ref (ad 7)) hC hP kX_0 rfl dX11_stop_25 ?_
        refine lv_iload_n hx hb dX11_stop_28 rfl (lv_at hl 1 rfl) ?_
        refine lv_iload_n hx hb dX11_stop_29 rfl (lv_at hl 2 rfl) ?_
        obtain ⟨σ15, hc13, hf⟩ := fxBV_e hf
        refine fx_cv hC hS (fx_runV (i := 7) (As := [.int a1, .int a2]) (rest := []) hC hP hS (ctX7_takeOff l hc13 D cy ad ec _) kX_7 (by decide) rfl kMV_X11_148 kC_X7_takeOff hd_X7_takeOff rfl ⟨(Nat.le_of_ble_eq_true rfl), (Nat.le_of_ble_eq_true rfl)⟩ ⟨Nat.le_refl 0, Nat.le_refl 0⟩ hl.1 (Nat.le_of_ble_eq_true rfl) rfl dX11_stop_30) (fun H locs hP hS => ?_)
        refine lv_aload_n hx hb dX11_stop_33 rfl (lv_at hl 0 rfl) ?_
        refine gf_X11_48 (v := .ref (ad 7)) hC hP kX_0 rfl dX11_stop_34 ?_
        refine gf_X11_110 (v := .ref (ad 8)) hC hP kX_7 rfl dX11_stop_37 ?_
        refine lv_iload_n hx hb dX11_stop_40 rfl (lv_at hl 1 rfl) ?_
        obtain ⟨h16, hf⟩ := fxG_e hf
        refine fx_iald hC hP kX_8 (fx_inp h16) dX11_stop_41 ?_
        exact fx_iretf hf hC hr hk hP hS dX11_stop_42
      · replace hf := fx_it c9 hf
        refine lv_iconst hx hb dX11_stop_18 ki_m1 ?_
        exact fx_iretf hf hC hr hk hP hS dX11_stop_19
  exact main _ _ _ hP hS hl

set_option maxHeartbeats 4000000 in
set_option maxRecDepth 100000 in
theorem ctX11_join (l : Launch) {a1 : Int32} {a2 : Int32} {σ σ' : FH} {v : Int32} (hf : fX11_join a1 a2 σ = some (v, σ')) : fx_Mi l yX11_join cX11_join 3 (some .boolean) (3) LX (fun ad ec => [.ref (ad 0), .int a1, .int a2]) σ v σ' := by
  unfold fX11_join at hf
  refine fx_mi' (own := RX11) rfl (by decide +kernel) ?_
  intro p e s m args below meth c D cy ad ec A hC hr hk hP hS
  have hx := hC.1
  have hb := hC.2.1
  have hl := lv_entry ([.ref (ad 0), .int a1, .int a2]) (n := 3) (Nat.le_of_ble_eq_true rfl)
  show W _ _ _ _ _ _ _ _ _ _ _ _ _ _ _ (entryFrame m ([.ref (ad 0), .int a1, .int a2] : List Value).toArray 3)
  rw [lg_entry_eq]
  generalize (lg_sl ([.ref (ad 0), .int a1, .int a2]) ++ List.replicate (3 - (lg_sl ([.ref (ad 0), .int a1, .int a2])).length) Slot.unset).toArray = ls at hl ⊢
  have hl : lv_has ls 3 [(0, .ref (ad 0)), (1, .int a1), (2, .int a2)] := hl
  have main : ∀ (H : Heap) (locs : List Loc) (ls : Array Slot), fx_P D cy LX ad σ H → va_S A s.heap H locs → lv_has ls 3 [(0, .ref (ad 0)), (1, .int a1), (2, .int a2)] → W p l e (fx_R (3)) s m args below meth c H locs 0 0 (fx_Qi D cy LX ad A below args s v σ') (F0 m 0 ls []) := by
    intro H locs ls hP hS hl
    refine lv_aload_n hx hb dX11_join_0 rfl (lv_at hl 0 rfl) ?_
    refine gf_X11_48 (v := .ref (ad 7)) hC hP kX_0 rfl dX11_join_1 ?_
    refine lv_aload_n hx hb dX11_join_4 rfl (lv_at hl 0 rfl) ?_
    obtain ⟨h1, hf⟩ := fxG_e hf
    refine gf_X11_28 (v := .ref (ad (σ.2.2 2))) hC hP kX_0 rfl dX11_join_5 ?_
    refine lv_iload_n hx hb dX11_join_8 rfl (lv_at hl 1 rfl) ?_
    refine lv_iload_n hx hb dX11_join_9 rfl (lv_at hl 2 rfl) ?_
    obtain ⟨r3, hc2, hf⟩ := fxBP_e hf
    refine fx_ci hC hS (fx_runV (i := 7) (As := [.ref (ad (σ.2.2 2)), .int a1, .int a2]) (rest := []) hC hP hS (ctX7_canJoin l hc2 D cy ad ec _) kX_7 (by decide) rfl kMV_X11_152 kC_X7_canJoin hd_X7_canJoin rfl ⟨(Nat.le_of_ble_eq_true rfl), (Nat.le_of_ble_eq_true rfl)⟩ ⟨Nat.le_refl 0, Nat.le_refl 0⟩ hl.1 (Nat.le_of_ble_eq_true rfl) rfl dX11_join_10) (fun H locs hP hS => ?_)
    refine lv_if_ne (tgt := 18) hx hb dX11_join_13 (by decide) (fun c5 => ?_) (fun c5 => ?_)
    · replace hf := fx_ie c5 hf
      refine lv_aload_n hx hb dX11_join_18 rfl (lv_at hl 0 rfl) ?_
      obtain ⟨σ8, hc6, hf⟩ := fxBV_e hf
      refine fx_cv hC hS (fx_runV (i := 0) (As := []) (rest := []) hC hP hS (ctX11_keepPast l hc6 D cy ad ec _) kX_0 (by decide) rfl kMV_X11_141 kC_X11_keepPast hd_X11_keepPast rfl ⟨(Nat.le_of_ble_eq_true rfl), (Nat.le_of_ble_eq_true rfl)⟩ ⟨Nat.le_refl 0, Nat.le_refl 0⟩ hl.1 (Nat.le_of_ble_eq_true rfl) rfl dX11_join_19) (fun H locs hP hS => ?_)
      refine lv_aload_n hx hb dX11_join_22 rfl (lv_at hl 0 rfl) ?_
      refine gf_X11_48 (v := .ref (ad 7)) hC hP kX_0 rfl dX11_join_23 ?_
      refine lv_aload_n hx hb dX11_join_26 rfl (lv_at hl 0 rfl) ?_
      obtain ⟨h9, hf⟩ := fxG_e hf
      refine gf_X11_28 (v := .ref (ad (σ8.2.2 2))) hC hP kX_0 rfl dX11_join_27 ?_
      refine lv_iload_n hx hb dX11_join_30 rfl (lv_at hl 1 rfl) ?_
      refine lv_iload_n hx hb dX11_join_31 rfl (lv_at hl 2 rfl) ?_
      obtain ⟨σ12, hc10, hf⟩ := fxBV_e hf
      refine fx_cv hC hS (fx_runV (i := 7) (As := [.ref (ad (σ8.2.2 2)), .int a1, .int a2]) (rest := []) hC hP hS (ctX7_arrest l hc10 D cy ad ec _) kX_7 (by decide) rfl kMV_X11_156 kC_X7_arrest hd_X7_arrest rfl ⟨(Nat.le_of_ble_eq_true rfl), (Nat.le_of_ble_eq_true rfl)⟩ ⟨Nat.le_refl 0, Nat.le_refl 0⟩ hl.1 (Nat.le_of_ble_eq_true rfl) rfl dX11_join_32) (fun H locs hP hS => ?_)
      refine lv_iconst hx hb dX11_join_35 ki_1 ?_
      exact fx_zretf rfl hf hC hr hk hP hS dX11_join_36
    · replace hf := fx_it c5 hf
      refine lv_iconst hx hb dX11_join_16 ki_0 ?_
      exact fx_zretf rfl hf hC hr hk hP hS dX11_join_17
  exact main _ _ _ hP hS hl

set_option maxHeartbeats 4000000 in
set_option maxRecDepth 100000 in
theorem ctX11_lend (l : Launch) {a1 : Int32} {a2 : Int32} {a3 : Int32} {σ σ' : FH} {v : Int32} (hf : fX11_lend a1 a2 a3 σ = some (v, σ')) : fx_Mi l yX11_lend cX11_lend 4 (some .boolean) (2) LX (fun ad ec => [.ref (ad 0), .int a1, .int a2, .int a3]) σ v σ' := by
  unfold fX11_lend at hf
  refine fx_mi' (own := RX11) rfl (by decide +kernel) ?_
  intro p e s m args below meth c D cy ad ec A hC hr hk hP hS
  have hx := hC.1
  have hb := hC.2.1
  have hl := lv_entry ([.ref (ad 0), .int a1, .int a2, .int a3]) (n := 4) (Nat.le_of_ble_eq_true rfl)
  show W _ _ _ _ _ _ _ _ _ _ _ _ _ _ _ (entryFrame m ([.ref (ad 0), .int a1, .int a2, .int a3] : List Value).toArray 4)
  rw [lg_entry_eq]
  generalize (lg_sl ([.ref (ad 0), .int a1, .int a2, .int a3]) ++ List.replicate (4 - (lg_sl ([.ref (ad 0), .int a1, .int a2, .int a3])).length) Slot.unset).toArray = ls at hl ⊢
  have hl : lv_has ls 4 [(0, .ref (ad 0)), (1, .int a1), (2, .int a2), (3, .int a3)] := hl
  have main : ∀ (H : Heap) (locs : List Loc) (ls : Array Slot), fx_P D cy LX ad σ H → va_S A s.heap H locs → lv_has ls 4 [(0, .ref (ad 0)), (1, .int a1), (2, .int a2), (3, .int a3)] → W p l e (fx_R (2)) s m args below meth c H locs 0 0 (fx_Qi D cy LX ad A below args s v σ') (F0 m 0 ls []) := by
    intro H locs ls hP hS hl
    refine lv_iload_n hx hb dX11_lend_0 rfl (lv_at hl 3 rfl) ?_
    obtain ⟨r2, hc1, hf⟩ := fxBP_e hf
    refine fx_ci hC hS (fx_runS (As := [.int a3]) (rest := []) hC hP hS (ctX11_isLot l hc1 D cy ad ec _) kMS_X11_138 kC_X11_isLot hd_X11_isLot.2 rfl ⟨(Nat.le_of_ble_eq_true rfl), (Nat.le_of_ble_eq_true rfl)⟩ ⟨Nat.le_refl 0, Nat.le_refl 0⟩ hl.1 (Nat.le_of_ble_eq_true rfl) rfl dX11_lend_1) (fun H locs hP hS => ?_)
    refine lv_if_eq (tgt := 24) hx hb dX11_lend_4 (by decide) (fun c4 => ?_) (fun c4 => ?_)
    · replace hf := fx_it c4 hf
      refine lv_iconst hx hb dX11_lend_24 ki_0 ?_
      exact fx_zretf rfl hf hC hr hk hP hS dX11_lend_25
    · replace hf := fx_ie c4 hf
      refine lv_aload_n hx hb dX11_lend_7 rfl (lv_at hl 0 rfl) ?_
      refine gf_X11_48 (v := .ref (ad 7)) hC hP kX_0 rfl dX11_lend_8 ?_
      refine lv_aload_n hx hb dX11_lend_11 rfl (lv_at hl 0 rfl) ?_
      obtain ⟨h5, hf⟩ := fxG_e hf
      refine gf_X11_28 (v := .ref (ad (σ.2.2 2))) hC hP kX_0 rfl dX11_lend_12 ?_
      refine lv_iload_n hx hb dX11_lend_15 rfl (lv_at hl 1 rfl) ?_
      refine lv_iload_n hx hb dX11_lend_16 rfl (lv_at hl 2 rfl) ?_
      refine lv_iload_n hx hb dX11_lend_17 rfl (lv_at hl 3 rfl) ?_
      obtain ⟨r7, hc6, hf⟩ := fxBP_e hf
      refine fx_ci hC hS (fx_runV (i := 7) (As := [.ref (ad (σ.2.2 2)), .int a1, .int a2, .int a3]) (rest := []) hC hP hS (ctX7_canLend l hc6 D cy ad ec _) kX_7 (by decide) rfl kMV_X11_160 kC_X7_canLend hd_X7_canLend rfl ⟨(Nat.le_of_ble_eq_true rfl), (Nat.le_of_ble_eq_true rfl)⟩ ⟨Nat.le_refl 0, Nat.le_refl 0⟩ hl.1 (Nat.le_of_ble_eq_true rfl) rfl dX11_lend_18) (fun H locs hP hS => ?_)
      refine lv_if_ne (tgt := 26) hx hb dX11_lend_21 (by decide) (fun c9 => ?_) (fun c9 => ?_)
      · replace hf := fx_ie c9 hf
        refine lv_aload_n hx hb dX11_lend_26 rfl (lv_at hl 0 rfl) ?_
        obtain ⟨σ12, hc10, hf⟩ := fxBV_e hf
        refine fx_cv hC hS (fx_runV (i := 0) (As := []) (rest := []) hC hP hS (ctX11_keepPast l hc10 D cy ad ec _) kX_0 (by decide) rfl kMV_X11_141 kC_X11_keepPast hd_X11_keepPast rfl ⟨(Nat.le_of_ble_eq_true rfl), (Nat.le_of_ble_eq_true rfl)⟩ ⟨Nat.le_refl 0, Nat.le_refl 0⟩ hl.1 (Nat.le_of_ble_eq_true rfl) rfl dX11_lend_27) (fun H locs hP hS => ?_)
        refine lv_aload_n hx hb dX11_lend_30 rfl (lv_at hl 0 rfl) ?_
        refine gf_X11_48 (v := .ref (ad 7)) hC hP kX_0 rfl dX11_lend_31 ?_
        refine lv_iload_n hx hb dX11_lend_34 rfl (lv_at hl 1 rfl) ?_
        refine lv_iload_n hx hb dX11_lend_35 rfl (lv_at hl 2 rfl) ?_
        refine lv_iload_n hx hb dX11_lend_36 rfl (lv_at hl 3 rfl) ?_
        obtain ⟨σ15, hc13, hf⟩ := fxBV_e hf
        refine fx_cv hC hS (fx_runV (i := 7) (As := [.int a1, .int a2, .int a3]) (rest := []) hC hP hS (ctX7_moveSeats l hc13 D cy ad ec _) kX_7 (by decide) rfl kMV_X11_164 kC_X7_moveSeats hd_X7_moveSeats rfl ⟨(Nat.le_of_ble_eq_true rfl), (Nat.le_of_ble_eq_true rfl)⟩ ⟨Nat.le_refl 0, Nat.le_refl 0⟩ hl.1 (Nat.le_of_ble_eq_true rfl) rfl dX11_lend_37) (fun H locs hP hS => ?_)
        refine lv_iconst hx hb dX11_lend_40 ki_1 ?_
        exact fx_zretf rfl hf hC hr hk hP hS dX11_lend_41
      · replace hf := fx_it c9 hf
        refine lv_iconst hx hb dX11_lend_24 ki_0 ?_
        exact fx_zretf rfl hf hC hr hk hP hS dX11_lend_25
  exact main _ _ _ hP hS hl

set_option maxHeartbeats 4000000 in
set_option maxRecDepth 100000 in
theorem ctX11_week (l : Launch) {σ σ' : FH} {v : Int32} (hf : fX11_week σ = some (v, σ')) : fx_Mi l yX11_week cX11_week 1 (some .int) (5) LX (fun ad ec => [.ref (ad 0)]) σ v σ' := by
  unfold fX11_week at hf
  refine fx_mi' (own := RX11) rfl (by decide +kernel) ?_
  intro p e s m args below meth c D cy ad ec A hC hr hk hP hS
  have hx := hC.1
  have hb := hC.2.1
  have hl := lv_entry ([.ref (ad 0)]) (n := 1) (Nat.le_of_ble_eq_true rfl)
  show W _ _ _ _ _ _ _ _ _ _ _ _ _ _ _ (entryFrame m ([.ref (ad 0)] : List Value).toArray 1)
  rw [lg_entry_eq]
  generalize (lg_sl ([.ref (ad 0)]) ++ List.replicate (1 - (lg_sl ([.ref (ad 0)])).length) Slot.unset).toArray = ls at hl ⊢
  have hl : lv_has ls 1 [(0, .ref (ad 0))] := hl
  have main : ∀ (H : Heap) (locs : List Loc) (ls : Array Slot), fx_P D cy LX ad σ H → va_S A s.heap H locs → lv_has ls 1 [(0, .ref (ad 0))] → W p l e (fx_R (5)) s m args below meth c H locs 0 0 (fx_Qi D cy LX ad A below args s v σ') (F0 m 0 ls []) := by
    intro H locs ls hP hS hl
    refine lv_aload_n hx hb dX11_week_0 rfl (lv_at hl 0 rfl) ?_
    obtain ⟨σ3, hc1, hf⟩ := fxBV_e hf
    refine fx_cv hC hS (fx_runV (i := 0) (As := []) (rest := []) hC hP hS (ctX11_keepPast l hc1 D cy ad ec _) kX_0 (by decide) rfl kMV_X11_141 kC_X11_keepPast hd_X11_keepPast rfl ⟨(Nat.le_of_ble_eq_true rfl), (Nat.le_of_ble_eq_true rfl)⟩ ⟨Nat.le_refl 0, Nat.le_refl 0⟩ hl.1 (Nat.le_of_ble_eq_true rfl) rfl dX11_week_1) (fun H locs hP hS => ?_)
    refine lv_aload_n hx hb dX11_week_4 rfl (lv_at hl 0 rfl) ?_
    refine gf_X11_48 (v := .ref (ad 7)) hC hP kX_0 rfl dX11_week_5 ?_
    refine lv_aload_n hx hb dX11_week_8 rfl (lv_at hl 0 rfl) ?_
    obtain ⟨h4, hf⟩ := fxG_e hf
    refine gf_X11_28 (v := .ref (ad (σ3.2.2 2))) hC hP kX_0 rfl dX11_week_9 ?_
    obtain ⟨r6, σ7, hc5, hf⟩ := fxBI_e hf
    refine fx_ci hC hS (fx_runV (i := 7) (As := [.ref (ad (σ3.2.2 2))]) (rest := []) hC hP hS (ctX7_passWeek l hc5 D cy ad ec _) kX_7 (by decide) rfl kMV_X11_168 kC_X7_passWeek hd_X7_passWeek rfl ⟨(Nat.le_of_ble_eq_true rfl), (Nat.le_of_ble_eq_true rfl)⟩ ⟨Nat.le_refl 0, Nat.le_refl 0⟩ hl.1 (Nat.le_of_ble_eq_true rfl) rfl dX11_week_12) (fun H locs hP hS => ?_)
    exact fx_iretf hf hC hr hk hP hS dX11_week_15
  exact main _ _ _ hP hS hl

set_option maxHeartbeats 4000000 in
set_option maxRecDepth 100000 in
theorem ctX11_undo (l : Launch) {σ σ' : FH} {v : Int32} (hf : fX11_undo σ = some (v, σ')) : fx_Mi l yX11_undo cX11_undo 1 (some .boolean) (1) LX (fun ad ec => [.ref (ad 0)]) σ v σ' := by
  unfold fX11_undo at hf
  refine fx_mi' (own := RX11) rfl (by decide +kernel) ?_
  intro p e s m args below meth c D cy ad ec A hC hr hk hP hS
  have hx := hC.1
  have hb := hC.2.1
  have hl := lv_entry ([.ref (ad 0)]) (n := 1) (Nat.le_of_ble_eq_true rfl)
  show W _ _ _ _ _ _ _ _ _ _ _ _ _ _ _ (entryFrame m ([.ref (ad 0)] : List Value).toArray 1)
  rw [lg_entry_eq]
  generalize (lg_sl ([.ref (ad 0)]) ++ List.replicate (1 - (lg_sl ([.ref (ad 0)])).length) Slot.unset).toArray = ls at hl ⊢
  have hl : lv_has ls 1 [(0, .ref (ad 0))] := hl
  have main : ∀ (H : Heap) (locs : List Loc) (ls : Array Slot), fx_P D cy LX ad σ H → va_S A s.heap H locs → lv_has ls 1 [(0, .ref (ad 0))] → W p l e (fx_R (1)) s m args below meth c H locs 0 0 (fx_Qi D cy LX ad A below args s v σ') (F0 m 0 ls []) := by
    intro H locs ls hP hS hl
    refine lv_aload_n hx hb dX11_undo_0 rfl (lv_at hl 0 rfl) ?_
    refine gf_X11_171 (v := .int (σ.1 0 11)) hC hP kX_0 rfl dX11_undo_1 ?_
    refine lv_if_gt (tgt := 9) hx hb dX11_undo_4 (by decide) (fun c1 => ?_) (fun c1 => ?_)
    · replace hf := fx_it c1 hf
      refine lv_aload_n hx hb dX11_undo_9 rfl (lv_at hl 0 rfl) ?_
      refine lv_dup hx hb dX11_undo_10 rfl ?_
      refine gf_X11_171 (v := .int (σ.1 0 11)) hC hP kX_0 rfl dX11_undo_11 ?_
      refine lv_iconst hx hb dX11_undo_14 ki_1 ?_
      refine lv_isub hx hb dX11_undo_15 ?_
      obtain ⟨σ2, eσ2, hf⟩ := fxL_e hf
      refine pf_X11_171 hC hP hS kX_0 dX11_undo_16 (fun H locs hP hS => ?_)
      replace hP := fx_Pe eσ2 hP
      refine lv_aload_n hx hb dX11_undo_19 rfl (lv_at hl 0 rfl) ?_
      refine lv_aload_n hx hb dX11_undo_20 rfl (lv_at hl 0 rfl) ?_
      refine gf_X11_174 (v := .int (σ2.1 0 12)) hC hP kX_0 rfl dX11_undo_21 ?_
      refine lv_iconst hx hb dX11_undo_24 ki_1 ?_
      refine lv_isub hx hb dX11_undo_25 ?_
      refine lv_bipush hx hb dX11_undo_26 kb_16 ?_
      obtain ⟨r4, hc3, hf⟩ := fxBP_e hf
      refine fx_ci hC hS (fx_runS (As := [.int ((σ2.1 0 12) - 1), .int 16]) (rest := [.ref (ad 0)]) hC hP hS (ctJ9_floorMod_7cf53 l hc3 D cy ad ec _) kMS_X11_177 kC_J9_floorMod_7cf53 hd_J9_floorMod_7cf53.2 rfl ⟨(Nat.le_of_ble_eq_true rfl), (Nat.le_of_ble_eq_true rfl)⟩ ⟨Nat.le_refl 0, Nat.le_refl 0⟩ hl.1 (Nat.le_of_ble_eq_true rfl) rfl dX11_undo_28) (fun H locs hP hS => ?_)
      obtain ⟨σ6, eσ6, hf⟩ := fxL_e hf
      refine pf_X11_174 hC hP hS kX_0 dX11_undo_31 (fun H locs hP hS => ?_)
      replace hP := fx_Pe eσ6 hP
      refine lv_aload_n hx hb dX11_undo_34 rfl (lv_at hl 0 rfl) ?_
      refine gf_X11_48 (v := .ref (ad 7)) hC hP kX_0 rfl dX11_undo_35 ?_
      refine lv_aload_n hx hb dX11_undo_38 rfl (lv_at hl 0 rfl) ?_
      refine gf_X11_69 (v := .ref (ad 49)) hC hP kX_0 rfl dX11_undo_39 ?_
      refine lv_aload_n hx hb dX11_undo_42 rfl (lv_at hl 0 rfl) ?_
      refine gf_X11_174 (v := .int (σ6.1 0 12)) hC hP kX_0 rfl dX11_undo_43 ?_
      obtain ⟨h7, hf⟩ := fxG_e hf
      refine fx_aaldS hC hP kX_49 (fx_inp h7) dX11_undo_46 ?_
      obtain ⟨σ10, hc8, hf⟩ := fxBV_e hf
      refine fx_cv hC hS (fx_runV (i := 7) (As := [.ref (ad (51 + 3 * (Int32.toNatClampNeg (σ6.1 0 12))))]) (rest := []) hC hP hS (ctX7_copyOf l hc8 D cy ad ec _) kX_7 (by decide) rfl kMV_X11_182 kC_X7_copyOf hd_X7_copyOf rfl ⟨(Nat.le_of_ble_eq_true rfl), (Nat.le_of_ble_eq_true rfl)⟩ ⟨Nat.le_refl 0, Nat.le_refl 0⟩ hl.1 (Nat.le_of_ble_eq_true rfl) rfl dX11_undo_47) (fun H locs hP hS => ?_)
      refine lv_iconst hx hb dX11_undo_50 ki_1 ?_
      exact fx_zretf rfl hf hC hr hk hP hS dX11_undo_51
    · replace hf := fx_ie c1 hf
      refine lv_iconst hx hb dX11_undo_7 ki_0 ?_
      exact fx_zretf rfl hf hC hr hk hP hS dX11_undo_8
  exact main _ _ _ hP hS hl

set_option maxHeartbeats 4000000 in
set_option maxRecDepth 100000 in
theorem ctX11_judged (l : Launch) {a1 : Int32} {σ σ' : FH} {v : Int32} (hf : fX11_judged a1 σ = some (v, σ')) : fx_Mi l yX11_judged cX11_judged 7 (some .int) (6) LX (fun ad ec => [.ref (ad 0), .int a1]) σ v σ' := by
  unfold fX11_judged at hf
  refine fx_mi' (own := RX11) rfl (by decide +kernel) ?_
  intro p e s m args below meth c D cy ad ec A hC hr hk hP hS
  have hx := hC.1
  have hb := hC.2.1
  have hl := lv_entry ([.ref (ad 0), .int a1]) (n := 7) (Nat.le_of_ble_eq_true rfl)
  show W _ _ _ _ _ _ _ _ _ _ _ _ _ _ _ (entryFrame m ([.ref (ad 0), .int a1] : List Value).toArray 7)
  rw [lg_entry_eq]
  generalize (lg_sl ([.ref (ad 0), .int a1]) ++ List.replicate (7 - (lg_sl ([.ref (ad 0), .int a1])).length) Slot.unset).toArray = ls at hl ⊢
  have hl : lv_has ls 7 [(0, .ref (ad 0)), (1, .int a1)] := hl
  have main : ∀ (H : Heap) (locs : List Loc) (ls : Array Slot), fx_P D cy LX ad σ H → va_S A s.heap H locs → lv_has ls 7 [(0, .ref (ad 0)), (1, .int a1)] → W p l e (fx_R (6)) s m args below meth c H locs 0 0 (fx_Qi D cy LX ad A below args s v σ') (F0 m 0 ls []) := by
    intro H locs ls hP hS hl
    refine lv_iload_n hx hb dX11_judged_0 rfl (lv_at hl 1 rfl) ?_
    refine lv_if_lt (tgt := 9) hx hb dX11_judged_1 (by decide) (fun c1 => ?_) (fun c1 => ?_)
    · replace hf := fx_it c1 hf
      refine lv_bipush hx hb dX11_judged_9 kb_m2 ?_
      exact fx_iretf hf hC hr hk hP hS dX11_judged_11
    · replace hf := fx_ie c1 hf
      refine lv_iload_n hx hb dX11_judged_4 rfl (lv_at hl 1 rfl) ?_
      refine lv_iconst hx hb dX11_judged_5 ki_2 ?_
      refine lv_icmp_le (tgt := 12) hx hb dX11_judged_6 (by decide) (fun c2 => ?_) (fun c2 => ?_)
      · replace hf := fx_it c2 hf
        refine lv_aload_n hx hb dX11_judged_12 rfl (lv_at hl 0 rfl) ?_
        refine gf_X11_52 (v := .ref (ad 10)) hC hP kX_0 rfl dX11_judged_13 ?_
        refine lv_aload_n hx hb dX11_judged_16 rfl (lv_at hl 0 rfl) ?_
        obtain ⟨h3, hf⟩ := fxG_e hf
        refine gf_X11_28 (v := .ref (ad (σ.2.2 2))) hC hP kX_0 rfl dX11_judged_17 ?_
        obtain ⟨σ6, hc4, hf⟩ := fxBV_e hf
        refine fx_cv hC hS (fx_runV (i := 10) (As := [.ref (ad (σ.2.2 2))]) (rest := []) hC hP hS (ctX7_begin l hc4 D cy ad ec _) kX_10 (by decide) rfl kMV_X11_186 kC_X7_begin hd_X7_begin rfl ⟨(Nat.le_of_ble_eq_true rfl), (Nat.le_of_ble_eq_true rfl)⟩ ⟨Nat.le_refl 0, Nat.le_refl 0⟩ hl.1 (Nat.le_of_ble_eq_true rfl) rfl dX11_judged_20) (fun H locs hP hS => ?_)
        refine lv_iconst hx hb dX11_judged_23 ki_m1 ?_
        refine lv_istore_n (lv' := [(2, .int (-1)), (0, .ref (ad 0)), (1, .int a1)]) hx hb dX11_judged_24 rfl hl (by decide) rfl (fun ls hl => ?_)
        refine lv_iconst hx hb dX11_judged_25 ki_m1 ?_
        refine lv_istore_n (lv' := [(3, .int (-1)), (2, .int (-1)), (0, .ref (ad 0)), (1, .int a1)]) hx hb dX11_judged_26 rfl hl (by decide) rfl (fun ls hl => ?_)
        refine lv_iconst hx hb dX11_judged_27 ki_0 ?_
        refine lv_istore (lv' := [(4, .int 0), (3, .int (-1)), (2, .int (-1)), (0, .ref (ad 0)), (1, .int a1)]) hx hb dX11_judged_28 hl (by decide) rfl (fun ls hl => ?_)
        obtain ⟨K7, hK7, hf⟩ := fxL_e hf
        have k_K7 : ∀ (x8 : Int32) (x9 : Int32) (σ10 : FH) (H : Heap) (locs : List Loc) (ls : Array Slot), fx_P D cy LX ad σ10 H → va_S A s.heap H locs → lv_has ls 7 [(0, .ref (ad 0)), (1, .int a1), (2, .int x8), (3, .int x9)] → K7 x8 x9 σ10 = some (v, σ') → W p l e (fx_R (6)) s m args below meth c H locs 0 0 (fx_Qi D cy LX ad A below args s v σ') (F0 m 109 ls []) := by
          intro x8 x9 σ10 H locs ls hP hS hl hf
          replace hf := fxk3 hK7 hf
          refine lv_iload_n hx hb dX11_judged_109 rfl (lv_at hl 1 rfl) ?_
          obtain ⟨v11, ev11, hf⟩ := fxL_e hf
          have j_v11 : ∀ (z12 : Int32), z12 = ((if a1 = 0 then x8 else (if a1 = 1 then x9 else (σ10.1 10 3))) : Int32) → ∀ (ls : Array Slot), lv_has ls 7 [] → W p l e (fx_R (6)) s m args below meth c H locs 0 0 (fx_Qi D cy LX ad A below args s v σ') (F0 m 133 ls [.int z12]) := by
            intro z12 hz12 ls hl
            obtain rfl : v11 = z12 := ev11.trans hz12.symm
            exact fx_iretf hf hC hr hk hP hS dX11_judged_133
          refine lv_if_ne (tgt := 117) hx hb dX11_judged_110 (by decide) (fun c13 => ?_) (fun c13 => ?_)
          · refine lv_iload_n hx hb dX11_judged_117 rfl (lv_at hl 1 rfl) ?_
            refine lv_iconst hx hb dX11_judged_118 ki_1 ?_
            refine lv_icmp_ne (tgt := 126) hx hb dX11_judged_119 (by decide) (fun c14 => ?_) (fun c14 => ?_)
            · refine lv_aload_n hx hb dX11_judged_126 rfl (lv_at hl 0 rfl) ?_
              refine gf_X11_52 (v := .ref (ad 10)) hC hP kX_0 rfl dX11_judged_127 ?_
              refine gf_X11_193 (v := .int (σ10.1 10 3)) hC hP kX_10 rfl dX11_judged_130 ?_
              exact j_v11 (σ10.1 10 3) ((if_neg c13).trans (if_neg c14)).symm ls (lv_sub hl [] rfl)
            · refine lv_iload_n hx hb dX11_judged_122 rfl (lv_at hl 3 rfl) ?_
              refine lv_goto (tgt := 133) hx hb dX11_judged_123 (by decide) ?_
              exact j_v11 x9 ((if_neg c13).trans (if_pos c14)).symm ls (lv_sub hl [] rfl)
          · refine lv_iload_n hx hb dX11_judged_113 rfl (lv_at hl 2 rfl) ?_
            refine lv_goto (tgt := 133) hx hb dX11_judged_114 (by decide) ?_
            exact j_v11 x8 (if_pos c13).symm ls (lv_sub hl [] rfl)
        have L37 : ∀ (n20 : Nat) (w15 : Int32) (w16 : Int32) (w17 : Int32) (σ18 : FH) (H : Heap) (locs : List Loc) (ls : Array Slot), fx_P D cy LX ad σ18 H → va_S A s.heap H locs → lv_has ls 7 [(0, .ref (ad 0)), (1, .int a1), (2, .int w15), (3, .int w16), (4, .int w17)] → fX11_judged_30 K7 n20 w15 w16 w17 σ18 = some (v, σ') → W p l e (fx_R (6)) s m args below meth c H locs 0 0 (fx_Qi D cy LX ad A below args s v σ') (F0 m 30 ls []) := by
          intro n20
          induction n20 with
          | zero =>
            intro w15 w16 w17 σ18 H locs ls hP hS hl hf
            rw [fX11_judged_30] at hf
            cases hf
          | succ n20 ih19 =>
            intro w15 w16 w17 σ18 H locs ls hP hS hl hf
            rw [fX11_judged_30] at hf
            refine lv_iload hx hb dX11_judged_30 (lv_at hl 4 rfl) ?_
            refine lv_aload_n hx hb dX11_judged_32 rfl (lv_at hl 0 rfl) ?_
            obtain ⟨h21, hf⟩ := fxG_e hf
            refine gf_X11_38 (v := .ref (ad (σ18.2.2 4))) hC hP kX_0 rfl dX11_judged_33 ?_
            refine gf_X11_190 (v := .int (σ18.1 (σ18.2.2 4) 0)) hC hP h21 rfl dX11_judged_36 ?_
            refine lv_icmp_ge (tgt := 109) hx hb dX11_judged_39 (by decide) (fun c22 => ?_) (fun c22 => ?_)
            · replace hf := fx_it c22 hf
              exact k_K7 w15 w16 σ18 _ _ _ hP hS (lv_sub hl [0, 1, 2, 3] rfl) hf
            · replace hf := fx_ie c22 hf
              refine lv_aload_n hx hb dX11_judged_42 rfl (lv_at hl 0 rfl) ?_
              refine gf_X11_52 (v := .ref (ad 10)) hC hP kX_0 rfl dX11_judged_43 ?_
              refine gf_X11_193 (v := .int (σ18.1 10 3)) hC hP kX_10 rfl dX11_judged_46 ?_
              obtain ⟨v23, ev23, hf⟩ := fxL_e hf
              refine fx_ti ev23 ?_
              refine lv_istore (lv' := [(5, .int v23), (0, .ref (ad 0)), (1, .int a1), (2, .int w15), (3, .int w16), (4, .int w17)]) hx hb dX11_judged_49 hl (by decide) rfl (fun ls hl => ?_)
              refine lv_aload_n hx hb dX11_judged_51 rfl (lv_at hl 1 rfl) ?_
              refine gf_X11_52 (v := .ref (ad 10)) hC hP kX_0 rfl dX11_judged_52 ?_
              refine lv_aload_n hx hb dX11_judged_55 rfl (lv_at hl 1 rfl) ?_
              obtain ⟨h24, hf⟩ := fxG_e hf
              refine gf_X11_28 (v := .ref (ad (σ18.2.2 2))) hC hP kX_0 rfl dX11_judged_56 ?_
              refine lv_aload_n hx hb dX11_judged_59 rfl (lv_at hl 1 rfl) ?_
              obtain ⟨h25, hf⟩ := fxG_e hf
              refine gf_X11_38 (v := .ref (ad (σ18.2.2 4))) hC hP kX_0 rfl dX11_judged_60 ?_
              refine lv_iload hx hb dX11_judged_63 (lv_at hl 5 rfl) ?_
              obtain ⟨r27, σ28, hc26, hf⟩ := fxBI_e hf
              refine fx_ci hC hS (fx_runV (i := 10) (As := [.ref (ad (σ18.2.2 2)), .ref (ad (σ18.2.2 4)), .int w17]) (rest := []) hC hP hS (ctX7_follow l hc26 D cy ad ec _) kX_10 (by decide) rfl kMV_X11_196 kC_X7_follow hd_X7_follow rfl ⟨(Nat.le_of_ble_eq_true rfl), (Nat.le_of_ble_eq_true rfl)⟩ ⟨Nat.le_refl 0, Nat.le_refl 0⟩ hl.1 (Nat.le_of_ble_eq_true rfl) rfl dX11_judged_65) (fun H locs hP hS => ?_)
              refine lv_istore (lv' := [(6, .int r27), (5, .int v23), (0, .ref (ad 0)), (1, .int a1), (2, .int w15), (3, .int w16), (4, .int w17)]) hx hb dX11_judged_68 hl (by decide) rfl (fun ls hl => ?_)
              refine lv_iload hx hb dX11_judged_70 (lv_at hl 0 rfl) ?_
              obtain ⟨v29, ev29, hf⟩ := fxL_e hf
              have j_v29 : ∀ (z30 : Int32), z30 = ((if r27 = 0 then (if w15 = (-1) then w17 else w15) else w15) : Int32) → ∀ (ls : Array Slot), lv_has ls 7 [(0, .ref (ad 0)), (1, .int a1), (2, .int z30), (3, .int w16), (4, .int w17), (5, .int v23)] → W p l e (fx_R (6)) s m args below meth c H locs 0 0 (fx_Qi D cy LX ad A below args s v σ') (F0 m 83 ls []) := by
                intro z30 hz30 ls hl
                obtain rfl : v29 = z30 := ev29.trans hz30.symm
                refine lv_aload_n hx hb dX11_judged_83 rfl (lv_at hl 0 rfl) ?_
                refine gf_X11_52 (v := .ref (ad 10)) hC hP kX_0 rfl dX11_judged_84 ?_
                refine gf_X11_193 (v := .int (σ28.1 10 3)) hC hP kX_10 rfl dX11_judged_87 ?_
                refine lv_iload hx hb dX11_judged_90 (lv_at hl 5 rfl) ?_
                obtain ⟨v33, ev33, hf⟩ := fxL_e hf
                have j_v33 : ∀ (z34 : Int32), z34 = ((if (σ28.1 10 3) ≤ v23 then w16 else (if w16 = (-1) then w17 else w16)) : Int32) → ∀ (ls : Array Slot), lv_has ls 7 [(0, .ref (ad 0)), (1, .int a1), (2, .int v29), (3, .int z34), (4, .int w17)] → W p l e (fx_R (6)) s m args below meth c H locs 0 0 (fx_Qi D cy LX ad A below args s v σ') (F0 m 103 ls []) := by
                  intro z34 hz34 ls hl
                  obtain rfl : v33 = z34 := ev33.trans hz34.symm
                  refine lv_iinc (v := (w17 + 1)) (lv' := [(4, .int (w17 + 1)), (0, .ref (ad 0)), (1, .int a1), (2, .int v29), (3, .int v33)]) hx hb dX11_judged_103 hl (k := 4) rfl (congrArg (fun z => w17 + z) ki_1) (by decide) rfl (fun ls hl => ?_)
                  refine lv_goto (tgt := 30) hx hb dX11_judged_106 (by decide) ?_
                  exact ih19 v29 v33 (w17 + 1) σ28 _ _ _ hP hS (lv_sub hl [1, 2, 3, 4, 0] rfl) hf
                refine lv_icmp_le (tgt := 103) hx hb dX11_judged_92 (by decide) (fun c35 => ?_) (fun c35 => ?_)
                · exact j_v33 w16 (if_pos c35).symm ls (lv_sub hl [0, 1, 2, 3, 4] rfl)
                · refine lv_iload_n hx hb dX11_judged_95 rfl (lv_at hl 3 rfl) ?_
                  refine lv_iconst hx hb dX11_judged_96 ki_m1 ?_
                  refine lv_icmp_ne (tgt := 103) hx hb dX11_judged_97 (by decide) (fun c36 => ?_) (fun c36 => ?_)
                  · exact j_v33 w16 ((if_neg c35).trans (if_neg c36)).symm ls (lv_sub hl [0, 1, 2, 3, 4] rfl)
                  · refine lv_iload hx hb dX11_judged_100 (lv_at hl 4 rfl) ?_
                    refine lv_istore_n (lv' := [(3, .int w17), (0, .ref (ad 0)), (1, .int a1), (2, .int v29), (4, .int w17), (5, .int v23)]) hx hb dX11_judged_102 rfl hl (by decide) rfl (fun ls hl => ?_)
                    exact j_v33 w17 ((if_neg c35).trans (if_pos c36)).symm ls (lv_sub hl [1, 2, 3, 0, 4] rfl)
              refine lv_if_ne (tgt := 83) hx hb dX11_judged_72 (by decide) (fun c31 => ?_) (fun c31 => ?_)
              · exact j_v29 w15 (if_neg c31).symm ls (lv_sub hl [2, 3, 4, 5, 6, 1] rfl)
              · refine lv_iload_n hx hb dX11_judged_75 rfl (lv_at hl 4 rfl) ?_
                refine lv_iconst hx hb dX11_judged_76 ki_m1 ?_
                refine lv_icmp_ne (tgt := 83) hx hb dX11_judged_77 (by decide) (fun c32 => ?_) (fun c32 => ?_)
                · exact j_v29 w15 ((if_pos c31).trans (if_neg c32)).symm ls (lv_sub hl [2, 3, 4, 5, 6, 1] rfl)
                · refine lv_iload hx hb dX11_judged_80 (lv_at hl 6 rfl) ?_
                  refine lv_istore_n (lv' := [(2, .int w17), (6, .int r27), (5, .int v23), (0, .ref (ad 0)), (1, .int a1), (3, .int w16), (4, .int w17)]) hx hb dX11_judged_82 rfl hl (by decide) rfl (fun ls hl => ?_)
                  exact j_v29 w17 ((if_pos c31).trans (if_pos c32)).symm ls (lv_sub hl [3, 4, 0, 5, 6, 2] rfl)
        exact L37 FU (-1) (-1) 0 σ6 _ _ _ hP hS (lv_sub hl [3, 4, 2, 1, 0] rfl) hf
      · replace hf := fx_ie c2 hf
        refine lv_bipush hx hb dX11_judged_9 kb_m2 ?_
        exact fx_iretf hf hC hr hk hP hS dX11_judged_11
  exact main _ _ _ hP hS hl

set_option maxHeartbeats 4000000 in
set_option maxRecDepth 100000 in
theorem ctX11_weeksToHalf (l : Launch) {a1 : Int32} {σ σ' : FH} {v : Int32} (hf : fX11_weeksToHalf a1 σ = some (v, σ')) : fx_Mi l yX11_weeksToHalf cX11_weeksToHalf 6 (some .int) (4) LX (fun ad ec => [.ref (ad 0), .int a1]) σ v σ' := by
  unfold fX11_weeksToHalf at hf
  refine fx_mi' (own := RX11) rfl (by decide +kernel) ?_
  intro p e s m args below meth c D cy ad ec A hC hr hk hP hS
  have hx := hC.1
  have hb := hC.2.1
  have hl := lv_entry ([.ref (ad 0), .int a1]) (n := 6) (Nat.le_of_ble_eq_true rfl)
  show W _ _ _ _ _ _ _ _ _ _ _ _ _ _ _ (entryFrame m ([.ref (ad 0), .int a1] : List Value).toArray 6)
  rw [lg_entry_eq]
  generalize (lg_sl ([.ref (ad 0), .int a1]) ++ List.replicate (6 - (lg_sl ([.ref (ad 0), .int a1])).length) Slot.unset).toArray = ls at hl ⊢
  have hl : lv_has ls 6 [(0, .ref (ad 0)), (1, .int a1)] := hl
  have main : ∀ (H : Heap) (locs : List Loc) (ls : Array Slot), fx_P D cy LX ad σ H → va_S A s.heap H locs → lv_has ls 6 [(0, .ref (ad 0)), (1, .int a1)] → W p l e (fx_R (4)) s m args below meth c H locs 0 0 (fx_Qi D cy LX ad A below args s v σ') (F0 m 0 ls []) := by
    intro H locs ls hP hS hl
    refine lv_aload_n hx hb dX11_weeksToHalf_0 rfl (lv_at hl 0 rfl) ?_
    obtain ⟨h1, hf⟩ := fxG_e hf
    refine gf_X11_28 (v := .ref (ad (σ.2.2 2))) hC hP kX_0 rfl dX11_weeksToHalf_1 ?_
    refine lv_iload_n hx hb dX11_weeksToHalf_4 rfl (lv_at hl 1 rfl) ?_
    obtain ⟨r3, hc2, hf⟩ := fxBP_e hf
    refine fx_ci hC hS (fx_runV (i := (σ.2.2 2)) (As := [.int a1]) (rest := []) hC hP hS (ctX5_halfOf l hc2 D cy ad ec _) h1 (by decide) rfl kMV_X11_113 kC_X5_halfOf hd_X5_halfOf rfl ⟨(Nat.le_of_ble_eq_true rfl), (Nat.le_of_ble_eq_true rfl)⟩ ⟨Nat.le_refl 0, Nat.le_refl 0⟩ hl.1 (Nat.le_of_ble_eq_true rfl) rfl dX11_weeksToHalf_5) (fun H locs hP hS => ?_)
    refine lv_istore_n (lv' := [(2, .int r3), (0, .ref (ad 0)), (1, .int a1)]) hx hb dX11_weeksToHalf_8 rfl hl (by decide) rfl (fun ls hl => ?_)
    refine lv_aload_n hx hb dX11_weeksToHalf_9 rfl (lv_at hl 1 rfl) ?_
    refine gf_X11_48 (v := .ref (ad 7)) hC hP kX_0 rfl dX11_weeksToHalf_10 ?_
    refine lv_aload_n hx hb dX11_weeksToHalf_13 rfl (lv_at hl 1 rfl) ?_
    obtain ⟨h5, hf⟩ := fxG_e hf
    refine gf_X11_28 (v := .ref (ad (σ.2.2 2))) hC hP kX_0 rfl dX11_weeksToHalf_14 ?_
    refine lv_iload_n hx hb dX11_weeksToHalf_17 rfl (lv_at hl 2 rfl) ?_
    obtain ⟨r7, hc6, hf⟩ := fxBP_e hf
    refine fx_ci hC hS (fx_runV (i := 7) (As := [.ref (ad (σ.2.2 2)), .int a1]) (rest := []) hC hP hS (ctX7_votesFor l hc6 D cy ad ec _) kX_7 (by decide) rfl kMV_X11_117 kC_X7_votesFor hd_X7_votesFor rfl ⟨(Nat.le_of_ble_eq_true rfl), (Nat.le_of_ble_eq_true rfl)⟩ ⟨Nat.le_refl 0, Nat.le_refl 0⟩ hl.1 (Nat.le_of_ble_eq_true rfl) rfl dX11_weeksToHalf_18) (fun H locs hP hS => ?_)
    refine lv_istore_n (lv' := [(3, .int r7), (2, .int r3), (0, .ref (ad 0)), (1, .int a1)]) hx hb dX11_weeksToHalf_21 rfl hl (by decide) rfl (fun ls hl => ?_)
    refine lv_aload_n hx hb dX11_weeksToHalf_22 rfl (lv_at hl 2 rfl) ?_
    refine gf_X11_48 (v := .ref (ad 7)) hC hP kX_0 rfl dX11_weeksToHalf_23 ?_
    refine gf_X11_110 (v := .ref (ad 8)) hC hP kX_7 rfl dX11_weeksToHalf_26 ?_
    refine lv_iload_n hx hb dX11_weeksToHalf_29 rfl (lv_at hl 3 rfl) ?_
    obtain ⟨h9, hf⟩ := fxG_e hf
    refine fx_iald hC hP kX_8 (fx_inp h9) dX11_weeksToHalf_30 ?_
    obtain ⟨v10, ev10, hf⟩ := fxL_e hf
    refine fx_ti ev10 ?_
    refine lv_istore (lv' := [(4, .int v10), (3, .int r7), (2, .int r3), (0, .ref (ad 0)), (1, .int a1)]) hx hb dX11_weeksToHalf_31 hl (by decide) rfl (fun ls hl => ?_)
    refine lv_iconst hx hb dX11_weeksToHalf_33 ki_0 ?_
    refine lv_istore (lv' := [(5, .int 0), (4, .int v10), (3, .int r7), (2, .int r3), (0, .ref (ad 0)), (1, .int a1)]) hx hb dX11_weeksToHalf_34 hl (by decide) rfl (fun ls hl => ?_)
    obtain ⟨K11, hK11, hf⟩ := fxL_e hf
    have k_K11 : ∀ (σ12 : FH) (H : Heap) (locs : List Loc) (ls : Array Slot), fx_P D cy LX ad σ12 H → va_S A s.heap H locs → lv_has ls 6 [] → K11 σ12 = some (v, σ') → W p l e (fx_R (4)) s m args below meth c H locs 0 0 (fx_Qi D cy LX ad A below args s v σ') (F0 m 93 ls []) := by
      intro σ12 H locs ls hP hS hl hf
      replace hf := fxk1 hK11 hf
      refine lv_iconst hx hb dX11_weeksToHalf_93 ki_m1 ?_
      exact fx_iretf hf hC hr hk hP hS dX11_weeksToHalf_94
    have L27 : ∀ (n17 : Nat) (w13 : Int32) (w14 : Int32) (σ15 : FH) (H : Heap) (locs : List Loc) (ls : Array Slot), fx_P D cy LX ad σ15 H → va_S A s.heap H locs → lv_has ls 6 [(0, .ref (ad 0)), (1, .int a1), (2, .int r3), (3, .int r7), (4, .int w13), (5, .int w14)] → fX11_weeksToHalf_36 a1 r3 r7 K11 n17 w13 w14 σ15 = some (v, σ') → W p l e (fx_R (4)) s m args below meth c H locs 0 0 (fx_Qi D cy LX ad A below args s v σ') (F0 m 36 ls []) := by
      intro n17
      induction n17 with
      | zero =>
        intro w13 w14 σ15 H locs ls hP hS hl hf
        rw [fX11_weeksToHalf_36] at hf
        cases hf
      | succ n17 ih16 =>
        intro w13 w14 σ15 H locs ls hP hS hl hf
        rw [fX11_weeksToHalf_36] at hf
        refine lv_iload hx hb dX11_weeksToHalf_36 (lv_at hl 5 rfl) ?_
        refine lv_bipush hx hb dX11_weeksToHalf_38 kb_60 ?_
        refine lv_icmp_gt (tgt := 93) hx hb dX11_weeksToHalf_40 (by decide) (fun c18 => ?_) (fun c18 => ?_)
        · replace hf := fx_it c18 hf
          exact k_K11 σ15 _ _ _ hP hS (lv_sub hl [] rfl) hf
        · replace hf := fx_ie c18 hf
          refine lv_iload hx hb dX11_weeksToHalf_43 (lv_at hl 4 rfl) ?_
          refine lv_iload_n hx hb dX11_weeksToHalf_45 rfl (lv_at hl 2 rfl) ?_
          refine lv_icmp_lt (tgt := 52) hx hb dX11_weeksToHalf_46 (by decide) (fun c19 => ?_) (fun c19 => ?_)
          · replace hf := fx_it c19 hf
            refine lv_iload hx hb dX11_weeksToHalf_52 (lv_at hl 4 rfl) ?_
            refine lv_aload_n hx hb dX11_weeksToHalf_54 rfl (lv_at hl 0 rfl) ?_
            obtain ⟨h20, hf⟩ := fxG_e hf
            refine gf_X11_28 (v := .ref (ad (σ15.2.2 2))) hC hP kX_0 rfl dX11_weeksToHalf_55 ?_
            refine lv_aload_n hx hb dX11_weeksToHalf_58 rfl (lv_at hl 0 rfl) ?_
            obtain ⟨h21, hf⟩ := fxG_e hf
            refine gf_X11_28 (v := .ref (ad (σ15.2.2 2))) hC hP kX_0 rfl dX11_weeksToHalf_59 ?_
            refine gf_X11_103 (v := .ref (ad ((σ15.2.2 2) + 2))) hC hP h21 rfl dX11_weeksToHalf_62 ?_
            refine lv_iload_n hx hb dX11_weeksToHalf_65 rfl (lv_at hl 1 rfl) ?_
            obtain ⟨h22, hf⟩ := fxG_e hf
            refine fx_iald hC hP (lyX_5_2 h21) (fx_inp h22) dX11_weeksToHalf_66 ?_
            refine lv_iload hx hb dX11_weeksToHalf_67 (lv_at hl 4 rfl) ?_
            refine lv_iload_n hx hb dX11_weeksToHalf_69 rfl (lv_at hl 2 rfl) ?_
            refine lv_iload_n hx hb dX11_weeksToHalf_70 rfl (lv_at hl 3 rfl) ?_
            refine lv_aload_n hx hb dX11_weeksToHalf_71 rfl (lv_at hl 0 rfl) ?_
            refine gf_X11_48 (v := .ref (ad 7)) hC hP kX_0 rfl dX11_weeksToHalf_72 ?_
            refine gf_X11_203 (v := .int (σ15.1 7 2)) hC hP kX_7 rfl dX11_weeksToHalf_75 ?_
            refine lv_iload hx hb dX11_weeksToHalf_78 (lv_at hl 5 rfl) ?_
            refine lv_iadd hx hb dX11_weeksToHalf_80 ?_
            obtain ⟨r24, σ25, hc23, hf⟩ := fxBI_e hf
            refine fx_ci hC hS (fx_runV (i := (σ15.2.2 2)) (As := [.int (σ15.1 ((σ15.2.2 2) + 2) (Int32.toNatClampNeg a1)), .int w13, .int r3, .int r7, .int ((σ15.1 7 2) + w14)]) (rest := [.int w13]) hC hP hS (ctX5_weekWork l hc23 D cy ad ec _) h20 (by decide) rfl kMV_X11_206 kC_X5_weekWork hd_X5_weekWork rfl ⟨(Nat.le_of_ble_eq_true rfl), (Nat.le_of_ble_eq_true rfl)⟩ ⟨Nat.le_refl 0, Nat.le_refl 0⟩ hl.1 (Nat.le_of_ble_eq_true rfl) rfl dX11_weeksToHalf_81) (fun H locs hP hS => ?_)
            refine lv_iadd hx hb dX11_weeksToHalf_84 ?_
            obtain ⟨v26, ev26, hf⟩ := fxL_e hf
            refine fx_ti ev26 ?_
            refine lv_istore (lv' := [(4, .int v26), (0, .ref (ad 0)), (1, .int a1), (2, .int r3), (3, .int r7), (5, .int w14)]) hx hb dX11_weeksToHalf_85 hl (by decide) rfl (fun ls hl => ?_)
            refine lv_iinc (v := (w14 + 1)) (lv' := [(5, .int (w14 + 1)), (4, .int v26), (0, .ref (ad 0)), (1, .int a1), (2, .int r3), (3, .int r7)]) hx hb dX11_weeksToHalf_87 hl (k := 5) rfl (congrArg (fun z => w14 + z) ki_1) (by decide) rfl (fun ls hl => ?_)
            refine lv_goto (tgt := 36) hx hb dX11_weeksToHalf_90 (by decide) ?_
            exact ih16 v26 (w14 + 1) σ25 _ _ _ hP hS (lv_sub hl [2, 3, 4, 5, 1, 0] rfl) hf
          · replace hf := fx_ie c19 hf
            refine lv_iload hx hb dX11_weeksToHalf_49 (lv_at hl 5 rfl) ?_
            exact fx_iretf hf hC hr hk hP hS dX11_weeksToHalf_51
    exact L27 FU v10 0 σ _ _ _ hP hS (lv_sub hl [4, 5, 3, 2, 1, 0] rfl) hf
  exact main _ _ _ hP hS hl

set_option maxHeartbeats 4000000 in
set_option maxRecDepth 100000 in
theorem ctX11_when (l : Launch) {a1 : Int32} {σ σ' : FH} {v : Int32} (hf : fX11_when a1 σ = some (v, σ')) : fx_Mi l yX11_when cX11_when 2 (some .int) (5) LX (fun ad ec => [.ref (ad 0), .int a1]) σ v σ' := by
  unfold fX11_when at hf
  refine fx_mi' (own := RX11) rfl (by decide +kernel) ?_
  intro p e s m args below meth c D cy ad ec A hC hr hk hP hS
  have hx := hC.1
  have hb := hC.2.1
  have hl := lv_entry ([.ref (ad 0), .int a1]) (n := 2) (Nat.le_of_ble_eq_true rfl)
  show W _ _ _ _ _ _ _ _ _ _ _ _ _ _ _ (entryFrame m ([.ref (ad 0), .int a1] : List Value).toArray 2)
  rw [lg_entry_eq]
  generalize (lg_sl ([.ref (ad 0), .int a1]) ++ List.replicate (2 - (lg_sl ([.ref (ad 0), .int a1])).length) Slot.unset).toArray = ls at hl ⊢
  have hl : lv_has ls 2 [(0, .ref (ad 0)), (1, .int a1)] := hl
  have main : ∀ (H : Heap) (locs : List Loc) (ls : Array Slot), fx_P D cy LX ad σ H → va_S A s.heap H locs → lv_has ls 2 [(0, .ref (ad 0)), (1, .int a1)] → W p l e (fx_R (5)) s m args below meth c H locs 0 0 (fx_Qi D cy LX ad A below args s v σ') (F0 m 0 ls []) := by
    intro H locs ls hP hS hl
    refine lv_aload_n hx hb dX11_when_0 rfl (lv_at hl 0 rfl) ?_
    obtain ⟨h1, hf⟩ := fxG_e hf
    refine gf_X11_28 (v := .ref (ad (σ.2.2 2))) hC hP kX_0 rfl dX11_when_1 ?_
    refine lv_iload_n hx hb dX11_when_4 rfl (lv_at hl 1 rfl) ?_
    obtain ⟨r3, hc2, hf⟩ := fxBP_e hf
    refine fx_ci hC hS (fx_runV (i := (σ.2.2 2)) (As := [.int a1]) (rest := []) hC hP hS (ctX5_hasWare l hc2 D cy ad ec _) h1 (by decide) rfl kMV_X11_99 kC_X5_hasWare hd_X5_hasWare rfl ⟨(Nat.le_of_ble_eq_true rfl), (Nat.le_of_ble_eq_true rfl)⟩ ⟨Nat.le_refl 0, Nat.le_refl 0⟩ hl.1 (Nat.le_of_ble_eq_true rfl) rfl dX11_when_5) (fun H locs hP hS => ?_)
    refine lv_if_eq (tgt := 19) hx hb dX11_when_8 (by decide) (fun c5 => ?_) (fun c5 => ?_)
    · replace hf := fx_it c5 hf
      refine lv_iconst hx hb dX11_when_19 ki_m1 ?_
      exact fx_iretf hf hC hr hk hP hS dX11_when_20
    · replace hf := fx_ie c5 hf
      refine lv_aload_n hx hb dX11_when_11 rfl (lv_at hl 0 rfl) ?_
      refine lv_iload_n hx hb dX11_when_12 rfl (lv_at hl 1 rfl) ?_
      obtain ⟨r7, σ8, hc6, hf⟩ := fxBI_e hf
      refine fx_ci hC hS (fx_runV (i := 0) (As := [.int a1]) (rest := []) hC hP hS (ctX11_weeksToHalf l hc6 D cy ad ec _) kX_0 (by decide) rfl kMV_X11_200 kC_X11_weeksToHalf hd_X11_weeksToHalf rfl ⟨(Nat.le_of_ble_eq_true rfl), (Nat.le_of_ble_eq_true rfl)⟩ ⟨Nat.le_refl 0, Nat.le_refl 0⟩ hl.1 (Nat.le_of_ble_eq_true rfl) rfl dX11_when_13) (fun H locs hP hS => ?_)
      refine lv_goto (tgt := 20) hx hb dX11_when_16 (by decide) ?_
      exact fx_iretf hf hC hr hk hP hS dX11_when_20
  exact main _ _ _ hP hS hl

set_option maxHeartbeats 4000000 in
set_option maxRecDepth 100000 in
theorem ctX11_caught (l : Launch) {a1 : Int32} {σ σ' : FH} {v : Int32} (hf : fX11_caught a1 σ = some (v, σ')) : fx_Mi l yX11_caught cX11_caught 6 (some .int) (4) LX (fun ad ec => [.ref (ad 0), .int a1]) σ v σ' := by
  unfold fX11_caught at hf
  refine fx_mi' (own := RX11) rfl (by decide +kernel) ?_
  intro p e s m args below meth c D cy ad ec A hC hr hk hP hS
  have hx := hC.1
  have hb := hC.2.1
  have hl := lv_entry ([.ref (ad 0), .int a1]) (n := 6) (Nat.le_of_ble_eq_true rfl)
  show W _ _ _ _ _ _ _ _ _ _ _ _ _ _ _ (entryFrame m ([.ref (ad 0), .int a1] : List Value).toArray 6)
  rw [lg_entry_eq]
  generalize (lg_sl ([.ref (ad 0), .int a1]) ++ List.replicate (6 - (lg_sl ([.ref (ad 0), .int a1])).length) Slot.unset).toArray = ls at hl ⊢
  have hl : lv_has ls 6 [(0, .ref (ad 0)), (1, .int a1)] := hl
  have main : ∀ (H : Heap) (locs : List Loc) (ls : Array Slot), fx_P D cy LX ad σ H → va_S A s.heap H locs → lv_has ls 6 [(0, .ref (ad 0)), (1, .int a1)] → W p l e (fx_R (4)) s m args below meth c H locs 0 0 (fx_Qi D cy LX ad A below args s v σ') (F0 m 0 ls []) := by
    intro H locs ls hP hS hl
    refine lv_aload_n hx hb dX11_caught_0 rfl (lv_at hl 0 rfl) ?_
    obtain ⟨h1, hf⟩ := fxG_e hf
    refine gf_X11_28 (v := .ref (ad (σ.2.2 2))) hC hP kX_0 rfl dX11_caught_1 ?_
    refine lv_iload_n hx hb dX11_caught_4 rfl (lv_at hl 1 rfl) ?_
    obtain ⟨r3, hc2, hf⟩ := fxBP_e hf
    refine fx_ci hC hS (fx_runV (i := (σ.2.2 2)) (As := [.int a1]) (rest := []) hC hP hS (ctX5_hasWare l hc2 D cy ad ec _) h1 (by decide) rfl kMV_X11_99 kC_X5_hasWare hd_X5_hasWare rfl ⟨(Nat.le_of_ble_eq_true rfl), (Nat.le_of_ble_eq_true rfl)⟩ ⟨Nat.le_refl 0, Nat.le_refl 0⟩ hl.1 (Nat.le_of_ble_eq_true rfl) rfl dX11_caught_5) (fun H locs hP hS => ?_)
    refine lv_if_ne (tgt := 13) hx hb dX11_caught_8 (by decide) (fun c5 => ?_) (fun c5 => ?_)
    · replace hf := fx_ie c5 hf
      refine lv_aload_n hx hb dX11_caught_13 rfl (lv_at hl 0 rfl) ?_
      obtain ⟨h6, hf⟩ := fxG_e hf
      refine gf_X11_28 (v := .ref (ad (σ.2.2 2))) hC hP kX_0 rfl dX11_caught_14 ?_
      refine lv_iload_n hx hb dX11_caught_17 rfl (lv_at hl 1 rfl) ?_
      obtain ⟨r8, hc7, hf⟩ := fxBP_e hf
      refine fx_ci hC hS (fx_runV (i := (σ.2.2 2)) (As := [.int a1]) (rest := []) hC hP hS (ctX5_halfOf l hc7 D cy ad ec _) h6 (by decide) rfl kMV_X11_113 kC_X5_halfOf hd_X5_halfOf rfl ⟨(Nat.le_of_ble_eq_true rfl), (Nat.le_of_ble_eq_true rfl)⟩ ⟨Nat.le_refl 0, Nat.le_refl 0⟩ hl.1 (Nat.le_of_ble_eq_true rfl) rfl dX11_caught_18) (fun H locs hP hS => ?_)
      refine lv_istore_n (lv' := [(2, .int r8), (0, .ref (ad 0)), (1, .int a1)]) hx hb dX11_caught_21 rfl hl (by decide) rfl (fun ls hl => ?_)
      refine lv_aload_n hx hb dX11_caught_22 rfl (lv_at hl 1 rfl) ?_
      refine gf_X11_48 (v := .ref (ad 7)) hC hP kX_0 rfl dX11_caught_23 ?_
      refine lv_aload_n hx hb dX11_caught_26 rfl (lv_at hl 1 rfl) ?_
      obtain ⟨h10, hf⟩ := fxG_e hf
      refine gf_X11_28 (v := .ref (ad (σ.2.2 2))) hC hP kX_0 rfl dX11_caught_27 ?_
      refine lv_iload_n hx hb dX11_caught_30 rfl (lv_at hl 2 rfl) ?_
      obtain ⟨r12, hc11, hf⟩ := fxBP_e hf
      refine fx_ci hC hS (fx_runV (i := 7) (As := [.ref (ad (σ.2.2 2)), .int a1]) (rest := []) hC hP hS (ctX7_votesFor l hc11 D cy ad ec _) kX_7 (by decide) rfl kMV_X11_117 kC_X7_votesFor hd_X7_votesFor rfl ⟨(Nat.le_of_ble_eq_true rfl), (Nat.le_of_ble_eq_true rfl)⟩ ⟨Nat.le_refl 0, Nat.le_refl 0⟩ hl.1 (Nat.le_of_ble_eq_true rfl) rfl dX11_caught_31) (fun H locs hP hS => ?_)
      refine lv_istore_n (lv' := [(3, .int r12), (2, .int r8), (0, .ref (ad 0)), (1, .int a1)]) hx hb dX11_caught_34 rfl hl (by decide) rfl (fun ls hl => ?_)
      refine lv_aload_n hx hb dX11_caught_35 rfl (lv_at hl 2 rfl) ?_
      refine gf_X11_48 (v := .ref (ad 7)) hC hP kX_0 rfl dX11_caught_36 ?_
      refine gf_X11_110 (v := .ref (ad 8)) hC hP kX_7 rfl dX11_caught_39 ?_
      refine lv_iload_n hx hb dX11_caught_42 rfl (lv_at hl 3 rfl) ?_
      obtain ⟨h14, hf⟩ := fxG_e hf
      refine fx_iald hC hP kX_8 (fx_inp h14) dX11_caught_43 ?_
      obtain ⟨v15, ev15, hf⟩ := fxL_e hf
      refine fx_ti ev15 ?_
      refine lv_istore (lv' := [(4, .int v15), (3, .int r12), (2, .int r8), (0, .ref (ad 0)), (1, .int a1)]) hx hb dX11_caught_44 hl (by decide) rfl (fun ls hl => ?_)
      refine lv_iconst hx hb dX11_caught_46 ki_1 ?_
      refine lv_istore (lv' := [(5, .int 1), (4, .int v15), (3, .int r12), (2, .int r8), (0, .ref (ad 0)), (1, .int a1)]) hx hb dX11_caught_47 hl (by decide) rfl (fun ls hl => ?_)
      obtain ⟨K16, hK16, hf⟩ := fxL_e hf
      have k_K16 : ∀ (σ17 : FH) (H : Heap) (locs : List Loc) (ls : Array Slot), fx_P D cy LX ad σ17 H → va_S A s.heap H locs → lv_has ls 6 [] → K16 σ17 = some (v, σ') → W p l e (fx_R (4)) s m args below meth c H locs 0 0 (fx_Qi D cy LX ad A below args s v σ') (F0 m 108 ls []) := by
        intro σ17 H locs ls hP hS hl hf
        replace hf := fxk1 hK16 hf
        refine lv_iconst hx hb dX11_caught_108 ki_m1 ?_
        exact fx_iretf hf hC hr hk hP hS dX11_caught_109
      have L32 : ∀ (n22 : Nat) (w18 : Int32) (w19 : Int32) (σ20 : FH) (H : Heap) (locs : List Loc) (ls : Array Slot), fx_P D cy LX ad σ20 H → va_S A s.heap H locs → lv_has ls 6 [(0, .ref (ad 0)), (1, .int a1), (2, .int r8), (3, .int r12), (4, .int w18), (5, .int w19)] → fX11_caught_49 a1 r8 r12 K16 n22 w18 w19 σ20 = some (v, σ') → W p l e (fx_R (4)) s m args below meth c H locs 0 0 (fx_Qi D cy LX ad A below args s v σ') (F0 m 49 ls []) := by
        intro n22
        induction n22 with
        | zero =>
          intro w18 w19 σ20 H locs ls hP hS hl hf
          rw [fX11_caught_49] at hf
          cases hf
        | succ n22 ih21 =>
          intro w18 w19 σ20 H locs ls hP hS hl hf
          rw [fX11_caught_49] at hf
          refine lv_iload hx hb dX11_caught_49 (lv_at hl 5 rfl) ?_
          refine lv_bipush hx hb dX11_caught_51 kb_60 ?_
          refine lv_icmp_gt (tgt := 108) hx hb dX11_caught_53 (by decide) (fun c23 => ?_) (fun c23 => ?_)
          · replace hf := fx_it c23 hf
            exact k_K16 σ20 _ _ _ hP hS (lv_sub hl [] rfl) hf
          · replace hf := fx_ie c23 hf
            refine lv_iload hx hb dX11_caught_56 (lv_at hl 4 rfl) ?_
            refine lv_aload_n hx hb dX11_caught_58 rfl (lv_at hl 0 rfl) ?_
            obtain ⟨h24, hf⟩ := fxG_e hf
            refine gf_X11_28 (v := .ref (ad (σ20.2.2 2))) hC hP kX_0 rfl dX11_caught_59 ?_
            refine lv_aload_n hx hb dX11_caught_62 rfl (lv_at hl 0 rfl) ?_
            obtain ⟨h25, hf⟩ := fxG_e hf
            refine gf_X11_28 (v := .ref (ad (σ20.2.2 2))) hC hP kX_0 rfl dX11_caught_63 ?_
            refine gf_X11_103 (v := .ref (ad ((σ20.2.2 2) + 2))) hC hP h25 rfl dX11_caught_66 ?_
            refine lv_iload_n hx hb dX11_caught_69 rfl (lv_at hl 1 rfl) ?_
            obtain ⟨h26, hf⟩ := fxG_e hf
            refine fx_iald hC hP (lyX_5_2 h25) (fx_inp h26) dX11_caught_70 ?_
            refine lv_iload hx hb dX11_caught_71 (lv_at hl 4 rfl) ?_
            refine lv_iload_n hx hb dX11_caught_73 rfl (lv_at hl 2 rfl) ?_
            refine lv_iload_n hx hb dX11_caught_74 rfl (lv_at hl 3 rfl) ?_
            refine lv_aload_n hx hb dX11_caught_75 rfl (lv_at hl 0 rfl) ?_
            refine gf_X11_48 (v := .ref (ad 7)) hC hP kX_0 rfl dX11_caught_76 ?_
            refine gf_X11_203 (v := .int (σ20.1 7 2)) hC hP kX_7 rfl dX11_caught_79 ?_
            refine lv_iload hx hb dX11_caught_82 (lv_at hl 5 rfl) ?_
            refine lv_iadd hx hb dX11_caught_84 ?_
            refine lv_iconst hx hb dX11_caught_85 ki_1 ?_
            refine lv_isub hx hb dX11_caught_86 ?_
            obtain ⟨r28, σ29, hc27, hf⟩ := fxBI_e hf
            refine fx_ci hC hS (fx_runV (i := (σ20.2.2 2)) (As := [.int (σ20.1 ((σ20.2.2 2) + 2) (Int32.toNatClampNeg a1)), .int w18, .int r8, .int r12, .int (((σ20.1 7 2) + w19) - 1)]) (rest := [.int w18]) hC hP hS (ctX5_weekWork l hc27 D cy ad ec _) h24 (by decide) rfl kMV_X11_206 kC_X5_weekWork hd_X5_weekWork rfl ⟨(Nat.le_of_ble_eq_true rfl), (Nat.le_of_ble_eq_true rfl)⟩ ⟨Nat.le_refl 0, Nat.le_refl 0⟩ hl.1 (Nat.le_of_ble_eq_true rfl) rfl dX11_caught_87) (fun H locs hP hS => ?_)
            refine lv_iadd hx hb dX11_caught_90 ?_
            obtain ⟨v30, ev30, hf⟩ := fxL_e hf
            refine fx_ti ev30 ?_
            refine lv_istore (lv' := [(4, .int v30), (0, .ref (ad 0)), (1, .int a1), (2, .int r8), (3, .int r12), (5, .int w19)]) hx hb dX11_caught_91 hl (by decide) rfl (fun ls hl => ?_)
            refine lv_iload hx hb dX11_caught_93 (lv_at hl 0 rfl) ?_
            refine lv_iload_n hx hb dX11_caught_95 rfl (lv_at hl 3 rfl) ?_
            refine lv_icmp_le (tgt := 102) hx hb dX11_caught_96 (by decide) (fun c31 => ?_) (fun c31 => ?_)
            · replace hf := fx_it c31 hf
              refine lv_iinc (v := (w19 + 1)) (lv' := [(5, .int (w19 + 1)), (4, .int v30), (0, .ref (ad 0)), (1, .int a1), (2, .int r8), (3, .int r12)]) hx hb dX11_caught_102 hl (k := 5) rfl (congrArg (fun z => w19 + z) ki_1) (by decide) rfl (fun ls hl => ?_)
              refine lv_goto (tgt := 49) hx hb dX11_caught_105 (by decide) ?_
              exact ih21 v30 (w19 + 1) σ29 _ _ _ hP hS (lv_sub hl [2, 3, 4, 5, 1, 0] rfl) hf
            · replace hf := fx_ie c31 hf
              refine lv_iload hx hb dX11_caught_99 (lv_at hl 5 rfl) ?_
              exact fx_iretf hf hC hr hk hP hS dX11_caught_101
      exact L32 FU v15 1 σ _ _ _ hP hS (lv_sub hl [4, 5, 3, 2, 1, 0] rfl) hf
    · replace hf := fx_it c5 hf
      refine lv_iconst hx hb dX11_caught_11 ki_m1 ?_
      exact fx_iretf hf hC hr hk hP hS dX11_caught_12
  exact main _ _ _ hP hS hl

set_option maxHeartbeats 4000000 in
set_option maxRecDepth 100000 in
theorem ctX11_joined (l : Launch) {a1 : Int32} {a2 : Int32} {σ σ' : FH} {v : Int32} (hf : fX11_joined a1 a2 σ = some (v, σ')) : fx_Mi l yX11_joined cX11_joined 5 (some .int) (5) LX (fun ad ec => [.ref (ad 0), .int a1, .int a2]) σ v σ' := by
  unfold fX11_joined at hf
  refine fx_mi' (own := RX11) rfl (by decide +kernel) ?_
  intro p e s m args below meth c D cy ad ec A hC hr hk hP hS
  have hx := hC.1
  have hb := hC.2.1
  have hl := lv_entry ([.ref (ad 0), .int a1, .int a2]) (n := 5) (Nat.le_of_ble_eq_true rfl)
  show W _ _ _ _ _ _ _ _ _ _ _ _ _ _ _ (entryFrame m ([.ref (ad 0), .int a1, .int a2] : List Value).toArray 5)
  rw [lg_entry_eq]
  generalize (lg_sl ([.ref (ad 0), .int a1, .int a2]) ++ List.replicate (5 - (lg_sl ([.ref (ad 0), .int a1, .int a2])).length) Slot.unset).toArray = ls at hl ⊢
  have hl : lv_has ls 5 [(0, .ref (ad 0)), (1, .int a1), (2, .int a2)] := hl
  have main : ∀ (H : Heap) (locs : List Loc) (ls : Array Slot), fx_P D cy LX ad σ H → va_S A s.heap H locs → lv_has ls 5 [(0, .ref (ad 0)), (1, .int a1), (2, .int a2)] → W p l e (fx_R (5)) s m args below meth c H locs 0 0 (fx_Qi D cy LX ad A below args s v σ') (F0 m 0 ls []) := by
    intro H locs ls hP hS hl
    refine lv_aload_n hx hb dX11_joined_0 rfl (lv_at hl 0 rfl) ?_
    obtain ⟨h1, hf⟩ := fxG_e hf
    refine gf_X11_28 (v := .ref (ad (σ.2.2 2))) hC hP kX_0 rfl dX11_joined_1 ?_
    refine lv_iload_n hx hb dX11_joined_4 rfl (lv_at hl 1 rfl) ?_
    refine lv_iload_n hx hb dX11_joined_5 rfl (lv_at hl 2 rfl) ?_
    obtain ⟨r3, hc2, hf⟩ := fxBP_e hf
    refine fx_ci hC hS (fx_runV (i := (σ.2.2 2)) (As := [.int a1, .int a2]) (rest := []) hC hP hS (ctX5_couldPair l hc2 D cy ad ec _) h1 (by decide) rfl kMV_X11_210 kC_X5_couldPair hd_X5_couldPair rfl ⟨(Nat.le_of_ble_eq_true rfl), (Nat.le_of_ble_eq_true rfl)⟩ ⟨Nat.le_refl 0, Nat.le_refl 0⟩ hl.1 (Nat.le_of_ble_eq_true rfl) rfl dX11_joined_6) (fun H locs hP hS => ?_)
    refine lv_if_ne (tgt := 14) hx hb dX11_joined_9 (by decide) (fun c5 => ?_) (fun c5 => ?_)
    · replace hf := fx_ie c5 hf
      refine lv_aload_n hx hb dX11_joined_14 rfl (lv_at hl 0 rfl) ?_
      refine lv_iload_n hx hb dX11_joined_15 rfl (lv_at hl 1 rfl) ?_
      obtain ⟨r7, σ8, hc6, hf⟩ := fxBI_e hf
      refine fx_ci hC hS (fx_runV (i := 0) (As := [.int a1]) (rest := []) hC hP hS (ctX11_weeksToHalf l hc6 D cy ad ec _) kX_0 (by decide) rfl kMV_X11_200 kC_X11_weeksToHalf hd_X11_weeksToHalf rfl ⟨(Nat.le_of_ble_eq_true rfl), (Nat.le_of_ble_eq_true rfl)⟩ ⟨Nat.le_refl 0, Nat.le_refl 0⟩ hl.1 (Nat.le_of_ble_eq_true rfl) rfl dX11_joined_16) (fun H locs hP hS => ?_)
      refine lv_istore_n (lv' := [(3, .int r7), (0, .ref (ad 0)), (1, .int a1), (2, .int a2)]) hx hb dX11_joined_19 rfl hl (by decide) rfl (fun ls hl => ?_)
      refine lv_aload_n hx hb dX11_joined_20 rfl (lv_at hl 1 rfl) ?_
      refine lv_iload_n hx hb dX11_joined_21 rfl (lv_at hl 3 rfl) ?_
      obtain ⟨r10, σ11, hc9, hf⟩ := fxBI_e hf
      refine fx_ci hC hS (fx_runV (i := 0) (As := [.int a2]) (rest := []) hC hP hS (ctX11_weeksToHalf l hc9 D cy ad ec _) kX_0 (by decide) rfl kMV_X11_200 kC_X11_weeksToHalf hd_X11_weeksToHalf rfl ⟨(Nat.le_of_ble_eq_true rfl), (Nat.le_of_ble_eq_true rfl)⟩ ⟨Nat.le_refl 0, Nat.le_refl 0⟩ hl.1 (Nat.le_of_ble_eq_true rfl) rfl dX11_joined_22) (fun H locs hP hS => ?_)
      refine lv_istore (lv' := [(4, .int r10), (3, .int r7), (0, .ref (ad 0)), (1, .int a1), (2, .int a2)]) hx hb dX11_joined_25 hl (by decide) rfl (fun ls hl => ?_)
      refine lv_iload_n hx hb dX11_joined_27 rfl (lv_at hl 1 rfl) ?_
      refine lv_iconst hx hb dX11_joined_28 ki_m1 ?_
      refine lv_icmp_eq (tgt := 38) hx hb dX11_joined_29 (by decide) (fun c12 => ?_) (fun c12 => ?_)
      · replace hf := fx_it c12 hf
        refine lv_iconst hx hb dX11_joined_38 ki_m1 ?_
        refine lv_goto (tgt := 48) hx hb dX11_joined_39 (by decide) ?_
        exact fx_iretf hf hC hr hk hP hS dX11_joined_48
      · replace hf := fx_ie c12 hf
        refine lv_iload hx hb dX11_joined_32 (lv_at hl 0 rfl) ?_
        refine lv_iconst hx hb dX11_joined_34 ki_m1 ?_
        refine lv_icmp_ne (tgt := 42) hx hb dX11_joined_35 (by decide) (fun c13 => ?_) (fun c13 => ?_)
        · replace hf := fx_ie c13 hf
          refine lv_iload_n hx hb dX11_joined_42 rfl (lv_at hl 1 rfl) ?_
          refine lv_iload hx hb dX11_joined_43 (lv_at hl 0 rfl) ?_
          refine fx_max hC hl.1 kL_X11_214 kMt_max kMi kMc_max (Nat.le_of_ble_eq_true rfl) (Nat.le_of_ble_eq_true rfl) ⟨Nat.le_refl 0, Nat.le_refl 0⟩ dX11_joined_45 ?_
          exact fx_iretf hf hC hr hk hP hS dX11_joined_48
        · replace hf := fx_it c13 hf
          refine lv_iconst hx hb dX11_joined_38 ki_m1 ?_
          refine lv_goto (tgt := 48) hx hb dX11_joined_39 (by decide) ?_
          exact fx_iretf hf hC hr hk hP hS dX11_joined_48
    · replace hf := fx_it c5 hf
      refine lv_iconst hx hb dX11_joined_12 ki_m1 ?_
      exact fx_iretf hf hC hr hk hP hS dX11_joined_13
  exact main _ _ _ hP hS hl

set_option maxHeartbeats 4000000 in
set_option maxRecDepth 100000 in
theorem ctX11_fines (l : Launch) {a1 : Int32} {σ σ' : FH} {v : Int32} (hf : fX11_fines a1 σ = some (v, σ')) : fx_Mi l yX11_fines cX11_fines 4 (some .int) (5) LX (fun ad ec => [.ref (ad 0), .int a1]) σ v σ' := by
  unfold fX11_fines at hf
  refine fx_mi' (own := RX11) rfl (by decide +kernel) ?_
  intro p e s m args below meth c D cy ad ec A hC hr hk hP hS
  have hx := hC.1
  have hb := hC.2.1
  have hl := lv_entry ([.ref (ad 0), .int a1]) (n := 4) (Nat.le_of_ble_eq_true rfl)
  show W _ _ _ _ _ _ _ _ _ _ _ _ _ _ _ (entryFrame m ([.ref (ad 0), .int a1] : List Value).toArray 4)
  rw [lg_entry_eq]
  generalize (lg_sl ([.ref (ad 0), .int a1]) ++ List.replicate (4 - (lg_sl ([.ref (ad 0), .int a1])).length) Slot.unset).toArray = ls at hl ⊢
  have hl : lv_has ls 4 [(0, .ref (ad 0)), (1, .int a1)] := hl
  have main : ∀ (H : Heap) (locs : List Loc) (ls : Array Slot), fx_P D cy LX ad σ H → va_S A s.heap H locs → lv_has ls 4 [(0, .ref (ad 0)), (1, .int a1)] → W p l e (fx_R (5)) s m args below meth c H locs 0 0 (fx_Qi D cy LX ad A below args s v σ') (F0 m 0 ls []) := by
    intro H locs ls hP hS hl
    refine lv_iload_n hx hb dX11_fines_0 rfl (lv_at hl 1 rfl) ?_
    refine lv_iconst hx hb dX11_fines_1 ki_1 ?_
    refine lv_icmp_lt (tgt := 11) hx hb dX11_fines_2 (by decide) (fun c1 => ?_) (fun c1 => ?_)
    · replace hf := fx_it c1 hf
      refine lv_iconst hx hb dX11_fines_11 ki_m1 ?_
      exact fx_iretf hf hC hr hk hP hS dX11_fines_12
    · replace hf := fx_ie c1 hf
      refine lv_iload_n hx hb dX11_fines_5 rfl (lv_at hl 1 rfl) ?_
      refine lv_bipush hx hb dX11_fines_6 kb_60 ?_
      refine lv_icmp_le (tgt := 13) hx hb dX11_fines_8 (by decide) (fun c2 => ?_) (fun c2 => ?_)
      · replace hf := fx_it c2 hf
        refine lv_aload_n hx hb dX11_fines_13 rfl (lv_at hl 0 rfl) ?_
        refine gf_X11_52 (v := .ref (ad 10)) hC hP kX_0 rfl dX11_fines_14 ?_
        refine lv_aload_n hx hb dX11_fines_17 rfl (lv_at hl 0 rfl) ?_
        refine gf_X11_48 (v := .ref (ad 7)) hC hP kX_0 rfl dX11_fines_18 ?_
        obtain ⟨σ5, hc3, hf⟩ := fxBV_e hf
        refine fx_cv hC hS (fx_runV (i := 10) (As := [.ref (ad 7)]) (rest := []) hC hP hS (ctX7_copyOf l hc3 D cy ad ec _) kX_10 (by decide) rfl kMV_X11_182 kC_X7_copyOf hd_X7_copyOf rfl ⟨(Nat.le_of_ble_eq_true rfl), (Nat.le_of_ble_eq_true rfl)⟩ ⟨Nat.le_refl 0, Nat.le_refl 0⟩ hl.1 (Nat.le_of_ble_eq_true rfl) rfl dX11_fines_21) (fun H locs hP hS => ?_)
        refine lv_iconst hx hb dX11_fines_24 ki_0 ?_
        refine lv_istore_n (lv' := [(2, .int 0), (0, .ref (ad 0)), (1, .int a1)]) hx hb dX11_fines_25 rfl hl (by decide) rfl (fun ls hl => ?_)
        refine lv_iconst hx hb dX11_fines_26 ki_0 ?_
        refine lv_istore_n (lv' := [(3, .int 0), (2, .int 0), (0, .ref (ad 0)), (1, .int a1)]) hx hb dX11_fines_27 rfl hl (by decide) rfl (fun ls hl => ?_)
        obtain ⟨K6, hK6, hf⟩ := fxL_e hf
        have k_K6 : ∀ (x7 : Int32) (σ8 : FH) (H : Heap) (locs : List Loc) (ls : Array Slot), fx_P D cy LX ad σ8 H → va_S A s.heap H locs → lv_has ls 4 [(2, .int x7)] → K6 x7 σ8 = some (v, σ') → W p l e (fx_R (5)) s m args below meth c H locs 0 0 (fx_Qi D cy LX ad A below args s v σ') (F0 m 53 ls []) := by
          intro x7 σ8 H locs ls hP hS hl hf
          replace hf := fxk2 hK6 hf
          refine lv_iload_n hx hb dX11_fines_53 rfl (lv_at hl 0 rfl) ?_
          exact fx_iretf hf hC hr hk hP hS dX11_fines_54
        have L20 : ∀ (n13 : Nat) (w9 : Int32) (w10 : Int32) (σ11 : FH) (H : Heap) (locs : List Loc) (ls : Array Slot), fx_P D cy LX ad σ11 H → va_S A s.heap H locs → lv_has ls 4 [(0, .ref (ad 0)), (1, .int a1), (2, .int w9), (3, .int w10)] → fX11_fines_28 a1 K6 n13 w9 w10 σ11 = some (v, σ') → W p l e (fx_R (5)) s m args below meth c H locs 0 0 (fx_Qi D cy LX ad A below args s v σ') (F0 m 28 ls []) := by
          intro n13
          induction n13 with
          | zero =>
            intro w9 w10 σ11 H locs ls hP hS hl hf
            rw [fX11_fines_28] at hf
            cases hf
          | succ n13 ih12 =>
            intro w9 w10 σ11 H locs ls hP hS hl hf
            rw [fX11_fines_28] at hf
            refine lv_iload_n hx hb dX11_fines_28 rfl (lv_at hl 3 rfl) ?_
            refine lv_iload_n hx hb dX11_fines_29 rfl (lv_at hl 1 rfl) ?_
            refine lv_icmp_ge (tgt := 53) hx hb dX11_fines_30 (by decide) (fun c14 => ?_) (fun c14 => ?_)
            · replace hf := fx_it c14 hf
              exact k_K6 w9 σ11 _ _ _ hP hS (lv_sub hl [2] rfl) hf
            · replace hf := fx_ie c14 hf
              refine lv_iload_n hx hb dX11_fines_33 rfl (lv_at hl 2 rfl) ?_
              refine lv_aload_n hx hb dX11_fines_34 rfl (lv_at hl 0 rfl) ?_
              refine gf_X11_52 (v := .ref (ad 10)) hC hP kX_0 rfl dX11_fines_35 ?_
              refine lv_aload_n hx hb dX11_fines_38 rfl (lv_at hl 0 rfl) ?_
              obtain ⟨h15, hf⟩ := fxG_e hf
              refine gf_X11_28 (v := .ref (ad (σ11.2.2 2))) hC hP kX_0 rfl dX11_fines_39 ?_
              obtain ⟨r17, σ18, hc16, hf⟩ := fxBI_e hf
              refine fx_ci hC hS (fx_runV (i := 10) (As := [.ref (ad (σ11.2.2 2))]) (rest := [.int w9]) hC hP hS (ctX7_passWeek l hc16 D cy ad ec _) kX_10 (by decide) rfl kMV_X11_168 kC_X7_passWeek hd_X7_passWeek rfl ⟨(Nat.le_of_ble_eq_true rfl), (Nat.le_of_ble_eq_true rfl)⟩ ⟨Nat.le_refl 0, Nat.le_refl 0⟩ hl.1 (Nat.le_of_ble_eq_true rfl) rfl dX11_fines_42) (fun H locs hP hS => ?_)
              refine lv_iadd hx hb dX11_fines_45 ?_
              obtain ⟨v19, ev19, hf⟩ := fxL_e hf
              refine fx_ti ev19 ?_
              refine lv_istore_n (lv' := [(2, .int v19), (0, .ref (ad 0)), (1, .int a1), (3, .int w10)]) hx hb dX11_fines_46 rfl hl (by decide) rfl (fun ls hl => ?_)
              refine lv_iinc (v := (w10 + 1)) (lv' := [(3, .int (w10 + 1)), (2, .int v19), (0, .ref (ad 0)), (1, .int a1)]) hx hb dX11_fines_47 hl (k := 3) rfl (congrArg (fun z => w10 + z) ki_1) (by decide) rfl (fun ls hl => ?_)
              refine lv_goto (tgt := 28) hx hb dX11_fines_50 (by decide) ?_
              exact ih12 v19 (w10 + 1) σ18 _ _ _ hP hS (lv_sub hl [2, 3, 1, 0] rfl) hf
        exact L20 FU 0 0 σ5 _ _ _ hP hS (lv_sub hl [2, 3, 1, 0] rfl) hf
      · replace hf := fx_ie c2 hf
        refine lv_iconst hx hb dX11_fines_11 ki_m1 ?_
        exact fx_iretf hf hC hr hk hP hS dX11_fines_12
  exact main _ _ _ hP hS hl

set_option maxHeartbeats 4000000 in
set_option maxRecDepth 100000 in
theorem ctX11_round (l : Launch) {σ : FH} {v : Int32} (hf : fX11_round σ = some v) : fx_Mi l yX11_round cX11_round 4 (some .int) (3) LX (fun ad ec => [.ref (ad 0)]) σ v σ := by
  unfold fX11_round at hf
  refine fx_mi' (own := RX11) rfl (by decide +kernel) ?_
  intro p e s m args below meth c D cy ad ec A hC hr hk hP hS
  have hx := hC.1
  have hb := hC.2.1
  have hl := lv_entry ([.ref (ad 0)]) (n := 4) (Nat.le_of_ble_eq_true rfl)
  show W _ _ _ _ _ _ _ _ _ _ _ _ _ _ _ (entryFrame m ([.ref (ad 0)] : List Value).toArray 4)
  rw [lg_entry_eq]
  generalize (lg_sl ([.ref (ad 0)]) ++ List.replicate (4 - (lg_sl ([.ref (ad 0)])).length) Slot.unset).toArray = ls at hl ⊢
  have hl : lv_has ls 4 [(0, .ref (ad 0))] := hl
  have main : ∀ (H : Heap) (locs : List Loc) (ls : Array Slot), fx_P D cy LX ad σ H → va_S A s.heap H locs → lv_has ls 4 [(0, .ref (ad 0))] → W p l e (fx_R (3)) s m args below meth c H locs 0 0 (fx_Qi D cy LX ad A below args s v σ) (F0 m 0 ls []) := by
    intro H locs ls hP hS hl
    refine lv_iconst hx hb dX11_round_0 ki_0 ?_
    refine lv_istore_n (lv' := [(1, .int 0), (0, .ref (ad 0))]) hx hb dX11_round_1 rfl hl (by decide) rfl (fun ls hl => ?_)
    refine lv_iconst hx hb dX11_round_2 ki_0 ?_
    refine lv_istore_n (lv' := [(2, .int 0), (1, .int 0), (0, .ref (ad 0))]) hx hb dX11_round_3 rfl hl (by decide) rfl (fun ls hl => ?_)
    obtain ⟨K1, hK1, hf⟩ := fxL_e hf
    have k_K1 : ∀ (x2 : Int32) (H : Heap) (locs : List Loc) (ls : Array Slot), fx_P D cy LX ad σ H → va_S A s.heap H locs → lv_has ls 4 [(1, .int x2)] → K1 x2 = some v → W p l e (fx_R (3)) s m args below meth c H locs 0 0 (fx_Qi D cy LX ad A below args s v σ) (F0 m 61 ls []) := by
      intro x2 H locs ls hP hS hl hf
      replace hf := fxk1 hK1 hf
      refine lv_iload_n hx hb dX11_round_61 rfl (lv_at hl 0 rfl) ?_
      exact fx_iretp hf hC hr hk hP hS dX11_round_62
    have L26 : ∀ (n6 : Nat) (w3 : Int32) (w4 : Int32) (H : Heap) (locs : List Loc) (ls : Array Slot), fx_P D cy LX ad σ H → va_S A s.heap H locs → lv_has ls 4 [(0, .ref (ad 0)), (1, .int w3), (2, .int w4)] → fX11_round_4 σ K1 n6 w3 w4 = some v → W p l e (fx_R (3)) s m args below meth c H locs 0 0 (fx_Qi D cy LX ad A below args s v σ) (F0 m 4 ls []) := by
      intro n6
      induction n6 with
      | zero =>
        intro w3 w4 H locs ls hP hS hl hf
        rw [fX11_round_4] at hf
        cases hf
      | succ n6 ih5 =>
        intro w3 w4 H locs ls hP hS hl hf
        rw [fX11_round_4] at hf
        refine lv_iload_n hx hb dX11_round_4 rfl (lv_at hl 2 rfl) ?_
        refine lv_aload_n hx hb dX11_round_5 rfl (lv_at hl 0 rfl) ?_
        obtain ⟨h7, hf⟩ := fxG_e hf
        refine gf_X11_28 (v := .ref (ad (σ.2.2 2))) hC hP kX_0 rfl dX11_round_6 ?_
        refine gf_X11_217 (v := .int (σ.1 (σ.2.2 2) 0)) hC hP h7 rfl dX11_round_9 ?_
        refine lv_icmp_ge (tgt := 61) hx hb dX11_round_12 (by decide) (fun c8 => ?_) (fun c8 => ?_)
        · replace hf := fx_it c8 hf
          exact k_K1 w3 _ _ _ hP hS (lv_sub hl [1] rfl) hf
        · replace hf := fx_ie c8 hf
          refine lv_iload_n hx hb dX11_round_15 rfl (lv_at hl 2 rfl) ?_
          refine lv_iconst hx hb dX11_round_16 ki_1 ?_
          refine lv_iadd hx hb dX11_round_17 ?_
          obtain ⟨v9, ev9, hf⟩ := fxL_e hf
          refine fx_ti ev9 ?_
          refine lv_istore_n (lv' := [(3, .int v9), (0, .ref (ad 0)), (1, .int w3), (2, .int w4)]) hx hb dX11_round_18 rfl hl (by decide) rfl (fun ls hl => ?_)
          obtain ⟨K10, hK10, hf⟩ := fxL_e hf
          have k_K10 : ∀ (x11 : Int32) (H : Heap) (locs : List Loc) (ls : Array Slot), fx_P D cy LX ad σ H → va_S A s.heap H locs → lv_has ls 4 [(0, .ref (ad 0)), (1, .int x11), (2, .int w4)] → K10 x11 = some v → W p l e (fx_R (3)) s m args below meth c H locs 0 0 (fx_Qi D cy LX ad A below args s v σ) (F0 m 55 ls []) := by
            intro x11 H locs ls hP hS hl hf
            replace hf := fxk1 hK10 hf
            refine lv_iinc (v := (w4 + 1)) (lv' := [(2, .int (w4 + 1)), (0, .ref (ad 0)), (1, .int x11)]) hx hb dX11_round_55 hl (k := 2) rfl (congrArg (fun z => w4 + z) ki_1) (by decide) rfl (fun ls hl => ?_)
            refine lv_goto (tgt := 4) hx hb dX11_round_58 (by decide) ?_
            exact ih5 x11 (w4 + 1) _ _ _ hP hS (lv_sub hl [1, 2, 0] rfl) hf
          have L25 : ∀ (n15 : Nat) (w12 : Int32) (w13 : Int32) (H : Heap) (locs : List Loc) (ls : Array Slot), fx_P D cy LX ad σ H → va_S A s.heap H locs → lv_has ls 4 [(0, .ref (ad 0)), (1, .int w12), (2, .int w4), (3, .int w13)] → fX11_round_19 σ w4 K10 n15 w12 w13 = some v → W p l e (fx_R (3)) s m args below meth c H locs 0 0 (fx_Qi D cy LX ad A below args s v σ) (F0 m 19 ls []) := by
            intro n15
            induction n15 with
            | zero =>
              intro w12 w13 H locs ls hP hS hl hf
              rw [fX11_round_19] at hf
              cases hf
            | succ n15 ih14 =>
              intro w12 w13 H locs ls hP hS hl hf
              rw [fX11_round_19] at hf
              refine lv_iload_n hx hb dX11_round_19 rfl (lv_at hl 3 rfl) ?_
              refine lv_aload_n hx hb dX11_round_20 rfl (lv_at hl 0 rfl) ?_
              obtain ⟨h16, hf⟩ := fxG_e hf
              refine gf_X11_28 (v := .ref (ad (σ.2.2 2))) hC hP kX_0 rfl dX11_round_21 ?_
              refine gf_X11_217 (v := .int (σ.1 (σ.2.2 2) 0)) hC hP h16 rfl dX11_round_24 ?_
              refine lv_icmp_ge (tgt := 55) hx hb dX11_round_27 (by decide) (fun c17 => ?_) (fun c17 => ?_)
              · replace hf := fx_it c17 hf
                exact k_K10 w12 _ _ _ hP hS (lv_sub hl [0, 1, 2] rfl) hf
              · replace hf := fx_ie c17 hf
                refine lv_aload_n hx hb dX11_round_30 rfl (lv_at hl 0 rfl) ?_
                refine gf_X11_48 (v := .ref (ad 7)) hC hP kX_0 rfl dX11_round_31 ?_
                refine lv_aload_n hx hb dX11_round_34 rfl (lv_at hl 0 rfl) ?_
                obtain ⟨h18, hf⟩ := fxG_e hf
                refine gf_X11_28 (v := .ref (ad (σ.2.2 2))) hC hP kX_0 rfl dX11_round_35 ?_
                refine lv_iload_n hx hb dX11_round_38 rfl (lv_at hl 2 rfl) ?_
                refine lv_iload_n hx hb dX11_round_39 rfl (lv_at hl 3 rfl) ?_
                obtain ⟨r20, hc19, hf⟩ := fxBP_e hf
                refine fx_ci hC hS (fx_runV (i := 7) (As := [.ref (ad (σ.2.2 2)), .int w4, .int w13]) (rest := []) hC hP hS (ctX7_canJoin l hc19 D cy ad ec _) kX_7 (by decide) rfl kMV_X11_152 kC_X7_canJoin hd_X7_canJoin rfl ⟨(Nat.le_of_ble_eq_true rfl), (Nat.le_of_ble_eq_true rfl)⟩ ⟨Nat.le_refl 0, Nat.le_refl 0⟩ hl.1 (Nat.le_of_ble_eq_true rfl) rfl dX11_round_40) (fun H locs hP hS => ?_)
                obtain ⟨v22, ev22, hf⟩ := fxL_e hf
                have j_v22 : ∀ (z23 : Int32), z23 = ((if r20 = 0 then w12 else (w12 + 1)) : Int32) → ∀ (ls : Array Slot), lv_has ls 4 [(0, .ref (ad 0)), (1, .int z23), (2, .int w4), (3, .int w13)] → W p l e (fx_R (3)) s m args below meth c H locs 0 0 (fx_Qi D cy LX ad A below args s v σ) (F0 m 49 ls []) := by
                  intro z23 hz23 ls hl
                  obtain rfl : v22 = z23 := ev22.trans hz23.symm
                  refine lv_iinc (v := (w13 + 1)) (lv' := [(3, .int (w13 + 1)), (0, .ref (ad 0)), (1, .int v22), (2, .int w4)]) hx hb dX11_round_49 hl (k := 3) rfl (congrArg (fun z => w13 + z) ki_1) (by decide) rfl (fun ls hl => ?_)
                  refine lv_goto (tgt := 19) hx hb dX11_round_52 (by decide) ?_
                  exact ih14 v22 (w13 + 1) _ _ _ hP hS (lv_sub hl [1, 2, 3, 0] rfl) hf
                refine lv_if_eq (tgt := 49) hx hb dX11_round_43 (by decide) (fun c24 => ?_) (fun c24 => ?_)
                · exact j_v22 w12 (if_pos c24).symm ls (lv_sub hl [0, 1, 2, 3] rfl)
                · refine lv_iinc (v := (w12 + 1)) (lv' := [(1, .int (w12 + 1)), (0, .ref (ad 0)), (2, .int w4), (3, .int w13)]) hx hb dX11_round_46 hl (k := 1) rfl (congrArg (fun z => w12 + z) ki_1) (by decide) rfl (fun ls hl => ?_)
                  exact j_v22 (w12 + 1) (if_neg c24).symm ls (lv_sub hl [1, 0, 2, 3] rfl)
          exact L25 FU w3 v9 _ _ _ hP hS (lv_sub hl [1, 2, 3, 0] rfl) hf
    exact L26 FU 0 0 _ _ _ hP hS (lv_sub hl [2, 1, 0] rfl) hf
  exact main _ _ _ hP hS hl

set_option maxHeartbeats 4000000 in
set_option maxRecDepth 100000 in
theorem ctX11_isBetter (l : Launch) {a1 : Int32} {a2 : Int32} {σ : FH} {v : Int32} (hf : fX11_isBetter a1 a2 σ = some v) : fx_Mi l yX11_isBetter cX11_isBetter 4 (some .boolean) (2) LX (fun ad ec => [.ref (ad 0), .int a1, .int a2]) σ v σ := by
  unfold fX11_isBetter at hf
  refine fx_mi' (own := RX11) rfl (by decide +kernel) ?_
  intro p e s m args below meth c D cy ad ec A hC hr hk hP hS
  have hx := hC.1
  have hb := hC.2.1
  have hl := lv_entry ([.ref (ad 0), .int a1, .int a2]) (n := 4) (Nat.le_of_ble_eq_true rfl)
  show W _ _ _ _ _ _ _ _ _ _ _ _ _ _ _ (entryFrame m ([.ref (ad 0), .int a1, .int a2] : List Value).toArray 4)
  rw [lg_entry_eq]
  generalize (lg_sl ([.ref (ad 0), .int a1, .int a2]) ++ List.replicate (4 - (lg_sl ([.ref (ad 0), .int a1, .int a2])).length) Slot.unset).toArray = ls at hl ⊢
  have hl : lv_has ls 4 [(0, .ref (ad 0)), (1, .int a1), (2, .int a2)] := hl
  have main : ∀ (H : Heap) (locs : List Loc) (ls : Array Slot), fx_P D cy LX ad σ H → va_S A s.heap H locs → lv_has ls 4 [(0, .ref (ad 0)), (1, .int a1), (2, .int a2)] → W p l e (fx_R (2)) s m args below meth c H locs 0 0 (fx_Qi D cy LX ad A below args s v σ) (F0 m 0 ls []) := by
    intro H locs ls hP hS hl
    refine lv_iload_n hx hb dX11_isBetter_0 rfl (lv_at hl 1 rfl) ?_
    obtain ⟨r2, hc1, hf⟩ := fxBP_e hf
    refine fx_ci hC hS (fx_runS (As := [.int a1]) (rest := []) hC hP hS (ctJ6_bitCount_0f7a4 l hc1 D cy ad ec _) kMS_X11_229 kC_J6_bitCount_0f7a4 hd_J6_bitCount_0f7a4.2 rfl ⟨(Nat.le_of_ble_eq_true rfl), (Nat.le_of_ble_eq_true rfl)⟩ ⟨Nat.le_refl 0, Nat.le_refl 0⟩ hl.1 (Nat.le_of_ble_eq_true rfl) rfl dX11_isBetter_1) (fun H locs hP hS => ?_)
    refine lv_iload_n hx hb dX11_isBetter_4 rfl (lv_at hl 2 rfl) ?_
    obtain ⟨r5, hc4, hf⟩ := fxBP_e hf
    refine fx_ci hC hS (fx_runS (As := [.int a2]) (rest := [.int r2]) hC hP hS (ctJ6_bitCount_0f7a4 l hc4 D cy ad ec _) kMS_X11_229 kC_J6_bitCount_0f7a4 hd_J6_bitCount_0f7a4.2 rfl ⟨(Nat.le_of_ble_eq_true rfl), (Nat.le_of_ble_eq_true rfl)⟩ ⟨Nat.le_refl 0, Nat.le_refl 0⟩ hl.1 (Nat.le_of_ble_eq_true rfl) rfl dX11_isBetter_5) (fun H locs hP hS => ?_)
    refine lv_isub hx hb dX11_isBetter_8 ?_
    obtain ⟨v7, ev7, hf⟩ := fxL_e hf
    refine fx_ti ev7 ?_
    refine lv_istore_n (lv' := [(3, .int v7), (0, .ref (ad 0)), (1, .int a1), (2, .int a2)]) hx hb dX11_isBetter_9 rfl hl (by decide) rfl (fun ls hl => ?_)
    refine lv_iload_n hx hb dX11_isBetter_10 rfl (lv_at hl 0 rfl) ?_
    refine lv_if_gt (tgt := 45) hx hb dX11_isBetter_11 (by decide) (fun c8 => ?_) (fun c8 => ?_)
    · replace hf := fx_it c8 hf
      refine lv_iconst hx hb dX11_isBetter_45 ki_1 ?_
      refine lv_goto (tgt := 50) hx hb dX11_isBetter_46 (by decide) ?_
      exact fx_zretp rfl hf hC hr hk hP hS dX11_isBetter_50
    · replace hf := fx_ie c8 hf
      refine lv_iload_n hx hb dX11_isBetter_14 rfl (lv_at hl 0 rfl) ?_
      refine lv_if_ne (tgt := 49) hx hb dX11_isBetter_15 (by decide) (fun c9 => ?_) (fun c9 => ?_)
      · replace hf := fx_ie c9 hf
        refine lv_iconst hx hb dX11_isBetter_49 ki_0 ?_
        exact fx_zretp rfl hf hC hr hk hP hS dX11_isBetter_50
      · replace hf := fx_it c9 hf
        refine lv_aload_n hx hb dX11_isBetter_18 rfl (lv_at hl 1 rfl) ?_
        refine gf_X11_48 (v := .ref (ad 7)) hC hP kX_0 rfl dX11_isBetter_19 ?_
        refine lv_aload_n hx hb dX11_isBetter_22 rfl (lv_at hl 1 rfl) ?_
        obtain ⟨h10, hf⟩ := fxG_e hf
        refine gf_X11_28 (v := .ref (ad (σ.2.2 2))) hC hP kX_0 rfl dX11_isBetter_23 ?_
        refine lv_iload_n hx hb dX11_isBetter_26 rfl (lv_at hl 2 rfl) ?_
        obtain ⟨r12, hc11, hf⟩ := fxBP_e hf
        refine fx_ci hC hS (fx_runV (i := 7) (As := [.ref (ad (σ.2.2 2)), .int a1]) (rest := []) hC hP hS (ctX7_lackOf l hc11 D cy ad ec _) kX_7 (by decide) rfl kMV_X11_223 kC_X7_lackOf hd_X7_lackOf rfl ⟨(Nat.le_of_ble_eq_true rfl), (Nat.le_of_ble_eq_true rfl)⟩ ⟨Nat.le_refl 0, Nat.le_refl 0⟩ hl.1 (Nat.le_of_ble_eq_true rfl) rfl dX11_isBetter_27) (fun H locs hP hS => ?_)
        refine lv_aload_n hx hb dX11_isBetter_30 rfl (lv_at hl 1 rfl) ?_
        refine gf_X11_48 (v := .ref (ad 7)) hC hP kX_0 rfl dX11_isBetter_31 ?_
        refine lv_aload_n hx hb dX11_isBetter_34 rfl (lv_at hl 1 rfl) ?_
        obtain ⟨h14, hf⟩ := fxG_e hf
        refine gf_X11_28 (v := .ref (ad (σ.2.2 2))) hC hP kX_0 rfl dX11_isBetter_35 ?_
        refine lv_iload_n hx hb dX11_isBetter_38 rfl (lv_at hl 3 rfl) ?_
        obtain ⟨r16, hc15, hf⟩ := fxBP_e hf
        refine fx_ci hC hS (fx_runV (i := 7) (As := [.ref (ad (σ.2.2 2)), .int a2]) (rest := [.int r12]) hC hP hS (ctX7_lackOf l hc15 D cy ad ec _) kX_7 (by decide) rfl kMV_X11_223 kC_X7_lackOf hd_X7_lackOf rfl ⟨(Nat.le_of_ble_eq_true rfl), (Nat.le_of_ble_eq_true rfl)⟩ ⟨Nat.le_refl 0, Nat.le_refl 0⟩ hl.1 (Nat.le_of_ble_eq_true rfl) rfl dX11_isBetter_39) (fun H locs hP hS => ?_)
        refine lv_icmp_ge (tgt := 49) hx hb dX11_isBetter_42 (by decide) (fun c18 => ?_) (fun c18 => ?_)
        · replace hf := fx_it c18 hf
          refine lv_iconst hx hb dX11_isBetter_49 ki_0 ?_
          exact fx_zretp rfl hf hC hr hk hP hS dX11_isBetter_50
        · replace hf := fx_ie c18 hf
          refine lv_iconst hx hb dX11_isBetter_45 ki_1 ?_
          refine lv_goto (tgt := 50) hx hb dX11_isBetter_46 (by decide) ?_
          exact fx_zretp rfl hf hC hr hk hP hS dX11_isBetter_50
  exact main _ _ _ hP hS hl

set_option maxHeartbeats 4000000 in
set_option maxRecDepth 100000 in
theorem ctX11_most (l : Launch) {a1 : Int32} {a2 : Int32} {σ : FH} {v : Int32} (hf : fX11_most a1 a2 σ = some v) : fx_Mi l yX11_most cX11_most 7 (some .int) (3) LX (fun ad ec => [.ref (ad 0), .int a1, .int a2]) σ v σ := by
  unfold fX11_most at hf
  refine fx_mi' (own := RX11) rfl (by decide +kernel) ?_
  intro p e s m args below meth c D cy ad ec A hC hr hk hP hS
  have hx := hC.1
  have hb := hC.2.1
  have hl := lv_entry ([.ref (ad 0), .int a1, .int a2]) (n := 7) (Nat.le_of_ble_eq_true rfl)
  show W _ _ _ _ _ _ _ _ _ _ _ _ _ _ _ (entryFrame m ([.ref (ad 0), .int a1, .int a2] : List Value).toArray 7)
  rw [lg_entry_eq]
  generalize (lg_sl ([.ref (ad 0), .int a1, .int a2]) ++ List.replicate (7 - (lg_sl ([.ref (ad 0), .int a1, .int a2])).length) Slot.unset).toArray = ls at hl ⊢
  have hl : lv_has ls 7 [(0, .ref (ad 0)), (1, .int a1), (2, .int a2)] := hl
  have main : ∀ (H : Heap) (locs : List Loc) (ls : Array Slot), fx_P D cy LX ad σ H → va_S A s.heap H locs → lv_has ls 7 [(0, .ref (ad 0)), (1, .int a1), (2, .int a2)] → W p l e (fx_R (3)) s m args below meth c H locs 0 0 (fx_Qi D cy LX ad A below args s v σ) (F0 m 0 ls []) := by
    intro H locs ls hP hS hl
    refine lv_iload_n hx hb dX11_most_0 rfl (lv_at hl 1 rfl) ?_
    refine lv_if_lt (tgt := 20) hx hb dX11_most_1 (by decide) (fun c1 => ?_) (fun c1 => ?_)
    · replace hf := fx_it c1 hf
      refine lv_iconst hx hb dX11_most_20 ki_m1 ?_
      exact fx_iretp hf hC hr hk hP hS dX11_most_21
    · replace hf := fx_ie c1 hf
      refine lv_iload_n hx hb dX11_most_4 rfl (lv_at hl 1 rfl) ?_
      refine lv_sipush hx hb dX11_most_5 ks_200 ?_
      refine lv_icmp_gt (tgt := 20) hx hb dX11_most_8 (by decide) (fun c2 => ?_) (fun c2 => ?_)
      · replace hf := fx_it c2 hf
        refine lv_iconst hx hb dX11_most_20 ki_m1 ?_
        exact fx_iretp hf hC hr hk hP hS dX11_most_21
      · replace hf := fx_ie c2 hf
        refine lv_iload_n hx hb dX11_most_11 rfl (lv_at hl 2 rfl) ?_
        refine lv_if_lt (tgt := 20) hx hb dX11_most_12 (by decide) (fun c3 => ?_) (fun c3 => ?_)
        · replace hf := fx_it c3 hf
          refine lv_iconst hx hb dX11_most_20 ki_m1 ?_
          exact fx_iretp hf hC hr hk hP hS dX11_most_21
        · replace hf := fx_ie c3 hf
          refine lv_iload_n hx hb dX11_most_15 rfl (lv_at hl 2 rfl) ?_
          refine lv_iconst hx hb dX11_most_16 ki_2 ?_
          refine lv_icmp_le (tgt := 22) hx hb dX11_most_17 (by decide) (fun c4 => ?_) (fun c4 => ?_)
          · replace hf := fx_it c4 hf
            refine lv_aload_n hx hb dX11_most_22 rfl (lv_at hl 0 rfl) ?_
            refine gf_X11_48 (v := .ref (ad 7)) hC hP kX_0 rfl dX11_most_23 ?_
            refine lv_aload_n hx hb dX11_most_26 rfl (lv_at hl 0 rfl) ?_
            obtain ⟨h5, hf⟩ := fxG_e hf
            refine gf_X11_28 (v := .ref (ad (σ.2.2 2))) hC hP kX_0 rfl dX11_most_27 ?_
            obtain ⟨r7, hc6, hf⟩ := fxBP_e hf
            refine fx_ci hC hS (fx_runV (i := 7) (As := [.ref (ad (σ.2.2 2))]) (rest := []) hC hP hS (ctX7_halfDone l hc6 D cy ad ec _) kX_7 (by decide) rfl kMV_X11_220 kC_X7_halfDone hd_X7_halfDone rfl ⟨(Nat.le_of_ble_eq_true rfl), (Nat.le_of_ble_eq_true rfl)⟩ ⟨Nat.le_refl 0, Nat.le_refl 0⟩ hl.1 (Nat.le_of_ble_eq_true rfl) rfl dX11_most_30) (fun H locs hP hS => ?_)
            refine lv_istore_n (lv' := [(3, .int r7), (0, .ref (ad 0)), (1, .int a1), (2, .int a2)]) hx hb dX11_most_33 rfl hl (by decide) rfl (fun ls hl => ?_)
            refine lv_iload_n hx hb dX11_most_34 rfl (lv_at hl 0 rfl) ?_
            refine lv_istore (lv' := [(4, .int r7), (3, .int r7), (0, .ref (ad 0)), (1, .int a1), (2, .int a2)]) hx hb dX11_most_35 hl (by decide) rfl (fun ls hl => ?_)
            refine lv_iconst hx hb dX11_most_37 ki_0 ?_
            refine lv_istore (lv' := [(5, .int 0), (4, .int r7), (3, .int r7), (0, .ref (ad 0)), (1, .int a1), (2, .int a2)]) hx hb dX11_most_38 hl (by decide) rfl (fun ls hl => ?_)
            obtain ⟨K9, hK9, hf⟩ := fxL_e hf
            have k_K9 : ∀ (x10 : Int32) (H : Heap) (locs : List Loc) (ls : Array Slot), fx_P D cy LX ad σ H → va_S A s.heap H locs → lv_has ls 7 [(0, .ref (ad 0)), (2, .int a2), (4, .int x10)] → K9 x10 = some v → W p l e (fx_R (3)) s m args below meth c H locs 0 0 (fx_Qi D cy LX ad A below args s v σ) (F0 m 112 ls []) := by
              intro x10 H locs ls hP hS hl hf
              replace hf := fxk1 hK9 hf
              refine lv_iload_n hx hb dX11_most_112 rfl (lv_at hl 1 rfl) ?_
              refine lv_if_ne (tgt := 124) hx hb dX11_most_113 (by decide) (fun c11 => ?_) (fun c11 => ?_)
              · replace hf := fx_ie c11 hf
                refine lv_iload_n hx hb dX11_most_124 rfl (lv_at hl 1 rfl) ?_
                refine lv_iconst hx hb dX11_most_125 ki_1 ?_
                refine lv_icmp_ne (tgt := 145) hx hb dX11_most_126 (by decide) (fun c12 => ?_) (fun c12 => ?_)
                · replace hf := fx_ie c12 hf
                  refine lv_iload hx hb dX11_most_145 (lv_at hl 2 rfl) ?_
                  exact fx_iretp hf hC hr hk hP hS dX11_most_147
                · replace hf := fx_it c12 hf
                  refine lv_aload_n hx hb dX11_most_129 rfl (lv_at hl 0 rfl) ?_
                  refine gf_X11_48 (v := .ref (ad 7)) hC hP kX_0 rfl dX11_most_130 ?_
                  refine lv_aload_n hx hb dX11_most_133 rfl (lv_at hl 0 rfl) ?_
                  obtain ⟨h13, hf⟩ := fxG_e hf
                  refine gf_X11_28 (v := .ref (ad (σ.2.2 2))) hC hP kX_0 rfl dX11_most_134 ?_
                  refine lv_iload hx hb dX11_most_137 (lv_at hl 2 rfl) ?_
                  obtain ⟨r15, hc14, hf⟩ := fxBP_e hf
                  refine fx_ci hC hS (fx_runV (i := 7) (As := [.ref (ad (σ.2.2 2)), .int x10]) (rest := []) hC hP hS (ctX7_lackOf l hc14 D cy ad ec _) kX_7 (by decide) rfl kMV_X11_223 kC_X7_lackOf hd_X7_lackOf rfl ⟨(Nat.le_of_ble_eq_true rfl), (Nat.le_of_ble_eq_true rfl)⟩ ⟨Nat.le_refl 0, Nat.le_refl 0⟩ hl.1 (Nat.le_of_ble_eq_true rfl) rfl dX11_most_139) (fun H locs hP hS => ?_)
                  refine lv_goto (tgt := 147) hx hb dX11_most_142 (by decide) ?_
                  exact fx_iretp hf hC hr hk hP hS dX11_most_147
              · replace hf := fx_it c11 hf
                refine lv_iload hx hb dX11_most_116 (lv_at hl 2 rfl) ?_
                obtain ⟨r18, hc17, hf⟩ := fxBP_e hf
                refine fx_ci hC hS (fx_runS (As := [.int x10]) (rest := []) hC hP hS (ctJ6_bitCount_0f7a4 l hc17 D cy ad ec _) kMS_X11_229 kC_J6_bitCount_0f7a4 hd_J6_bitCount_0f7a4.2 rfl ⟨(Nat.le_of_ble_eq_true rfl), (Nat.le_of_ble_eq_true rfl)⟩ ⟨Nat.le_refl 0, Nat.le_refl 0⟩ hl.1 (Nat.le_of_ble_eq_true rfl) rfl dX11_most_118) (fun H locs hP hS => ?_)
                refine lv_goto (tgt := 147) hx hb dX11_most_121 (by decide) ?_
                exact fx_iretp hf hC hr hk hP hS dX11_most_147
            have L40 : ∀ (n23 : Nat) (w20 : Int32) (w21 : Int32) (H : Heap) (locs : List Loc) (ls : Array Slot), fx_P D cy LX ad σ H → va_S A s.heap H locs → lv_has ls 7 [(0, .ref (ad 0)), (1, .int a1), (2, .int a2), (3, .int r7), (4, .int w20), (5, .int w21)] → fX11_most_40 a1 σ r7 K9 n23 w20 w21 = some v → W p l e (fx_R (3)) s m args below meth c H locs 0 0 (fx_Qi D cy LX ad A below args s v σ) (F0 m 40 ls []) := by
              intro n23
              induction n23 with
              | zero =>
                intro w20 w21 H locs ls hP hS hl hf
                rw [fX11_most_40] at hf
                cases hf
              | succ n23 ih22 =>
                intro w20 w21 H locs ls hP hS hl hf
                rw [fX11_most_40] at hf
                refine lv_iload hx hb dX11_most_40 (lv_at hl 5 rfl) ?_
                refine lv_iconst hx hb dX11_most_42 ki_1 ?_
                refine lv_aload_n hx hb dX11_most_43 rfl (lv_at hl 0 rfl) ?_
                obtain ⟨h24, hf⟩ := fxG_e hf
                refine gf_X11_28 (v := .ref (ad (σ.2.2 2))) hC hP kX_0 rfl dX11_most_44 ?_
                refine gf_X11_217 (v := .int (σ.1 (σ.2.2 2) 0)) hC hP h24 rfl dX11_most_47 ?_
                refine lv_ishl hx hb dX11_most_50 ?_
                refine lv_icmp_ge (tgt := 112) hx hb dX11_most_51 (by decide) (fun c25 => ?_) (fun c25 => ?_)
                · replace hf := fx_it c25 hf
                  exact k_K9 w20 _ _ _ hP hS (lv_sub hl [0, 2, 4] rfl) hf
                · replace hf := fx_ie c25 hf
                  refine lv_iload hx hb dX11_most_54 (lv_at hl 5 rfl) ?_
                  refine lv_iload_n hx hb dX11_most_56 rfl (lv_at hl 3 rfl) ?_
                  refine lv_iand hx hb dX11_most_57 ?_
                  refine lv_iload_n hx hb dX11_most_58 rfl (lv_at hl 3 rfl) ?_
                  obtain ⟨J26, hJ26, hf⟩ := fxL_e hf
                  have j_J26 : ∀ (y27 : Int32) (H : Heap) (locs : List Loc) (ls : Array Slot), fx_P D cy LX ad σ H → va_S A s.heap H locs → lv_has ls 7 [(0, .ref (ad 0)), (1, .int a1), (2, .int a2), (3, .int r7), (4, .int w20), (5, .int w21)] → J26 y27 = some v → W p l e (fx_R (3)) s m args below meth c H locs 0 0 (fx_Qi D cy LX ad A below args s v σ) (F0 m 84 ls [.int y27]) := by
                    intro y27 H locs ls hP hS hl hf
                    replace hf := fxk1 hJ26 hf
                    refine lv_istore (lv' := [(6, .int y27), (0, .ref (ad 0)), (1, .int a1), (2, .int a2), (3, .int r7), (4, .int w20), (5, .int w21)]) hx hb dX11_most_84 hl (by decide) rfl (fun ls hl => ?_)
                    refine lv_iload hx hb dX11_most_86 (lv_at hl 0 rfl) ?_
                    refine lv_if_eq (tgt := 106) hx hb dX11_most_88 (by decide) (fun c28 => ?_) (fun c28 => ?_)
                    · replace hf := fx_it c28 hf
                      refine lv_iinc (v := (w21 + 1)) (lv' := [(5, .int (w21 + 1)), (6, .int y27), (0, .ref (ad 0)), (1, .int a1), (2, .int a2), (3, .int r7), (4, .int w20)]) hx hb dX11_most_106 hl (k := 6) rfl (congrArg (fun z => w21 + z) ki_1) (by decide) rfl (fun ls hl => ?_)
                      refine lv_goto (tgt := 40) hx hb dX11_most_109 (by decide) ?_
                      exact ih22 w20 (w21 + 1) _ _ _ hP hS (lv_sub hl [2, 3, 4, 5, 6, 0] rfl) hf
                    · replace hf := fx_ie c28 hf
                      refine lv_aload_n hx hb dX11_most_91 rfl (lv_at hl 1 rfl) ?_
                      refine lv_iload hx hb dX11_most_92 (lv_at hl 6 rfl) ?_
                      refine lv_iload hx hb dX11_most_94 (lv_at hl 5 rfl) ?_
                      obtain ⟨r30, hc29, hf⟩ := fxBP_e hf
                      refine fx_ci hC hS (fx_runV (i := 0) (As := [.int w21, .int w20]) (rest := []) hC hP hS (ctX11_isBetter l hc29 D cy ad ec _) kX_0 (by decide) rfl kMV_X11_226 kC_X11_isBetter hd_X11_isBetter rfl ⟨(Nat.le_of_ble_eq_true rfl), (Nat.le_of_ble_eq_true rfl)⟩ ⟨Nat.le_refl 0, Nat.le_refl 0⟩ hl.1 (Nat.le_of_ble_eq_true rfl) rfl dX11_most_96) (fun H locs hP hS => ?_)
                      refine lv_if_eq (tgt := 106) hx hb dX11_most_99 (by decide) (fun c32 => ?_) (fun c32 => ?_)
                      · replace hf := fx_it c32 hf
                        refine lv_iinc (v := (w21 + 1)) (lv' := [(5, .int (w21 + 1)), (6, .int y27), (0, .ref (ad 0)), (1, .int a1), (2, .int a2), (3, .int r7), (4, .int w20)]) hx hb dX11_most_106 hl (k := 6) rfl (congrArg (fun z => w21 + z) ki_1) (by decide) rfl (fun ls hl => ?_)
                        refine lv_goto (tgt := 40) hx hb dX11_most_109 (by decide) ?_
                        exact ih22 w20 (w21 + 1) _ _ _ hP hS (lv_sub hl [2, 3, 4, 5, 6, 0] rfl) hf
                      · replace hf := fx_ie c32 hf
                        refine lv_iload hx hb dX11_most_102 (lv_at hl 6 rfl) ?_
                        refine lv_istore (lv' := [(4, .int w21), (6, .int y27), (0, .ref (ad 0)), (1, .int a1), (2, .int a2), (3, .int r7), (5, .int w21)]) hx hb dX11_most_104 hl (by decide) rfl (fun ls hl => ?_)
                        refine lv_iinc (v := (w21 + 1)) (lv' := [(5, .int (w21 + 1)), (4, .int w21), (6, .int y27), (0, .ref (ad 0)), (1, .int a1), (2, .int a2), (3, .int r7)]) hx hb dX11_most_106 hl (k := 6) rfl (congrArg (fun z => w21 + z) ki_1) (by decide) rfl (fun ls hl => ?_)
                        refine lv_goto (tgt := 40) hx hb dX11_most_109 (by decide) ?_
                        exact ih22 w21 (w21 + 1) _ _ _ hP hS (lv_sub hl [3, 4, 5, 6, 1, 0] rfl) hf
                  obtain ⟨J33, hJ33, hf⟩ := fxL_e hf
                  have j_J33 : ∀  (H : Heap) (locs : List Loc) (ls : Array Slot), fx_P D cy LX ad σ H → va_S A s.heap H locs → lv_has ls 7 [(0, .ref (ad 0)), (1, .int a1), (2, .int a2), (3, .int r7), (4, .int w20), (5, .int w21)] → J33 = some v → W p l e (fx_R (3)) s m args below meth c H locs 0 0 (fx_Qi D cy LX ad A below args s v σ) (F0 m 83 ls []) := by
                    intro  H locs ls hP hS hl hf
                    replace hf := hJ33.symm.trans hf
                    refine lv_iconst hx hb dX11_most_83 ki_0 ?_
                    exact j_J26 0 _ _ _ hP hS (lv_sub hl [0, 1, 2, 3, 4, 5] rfl) hf
                  refine lv_icmp_ne (tgt := 83) hx hb dX11_most_59 (by decide) (fun c34 => ?_) (fun c34 => ?_)
                  · replace hf := fx_ie c34 hf
                    exact j_J33  _ _ _ hP hS (lv_sub hl [0, 1, 2, 3, 4, 5] rfl) hf
                  · replace hf := fx_it c34 hf
                    refine lv_aload_n hx hb dX11_most_62 rfl (lv_at hl 0 rfl) ?_
                    refine gf_X11_48 (v := .ref (ad 7)) hC hP kX_0 rfl dX11_most_63 ?_
                    refine lv_aload_n hx hb dX11_most_66 rfl (lv_at hl 0 rfl) ?_
                    obtain ⟨h35, hf⟩ := fxG_e hf
                    refine gf_X11_28 (v := .ref (ad (σ.2.2 2))) hC hP kX_0 rfl dX11_most_67 ?_
                    refine lv_iload hx hb dX11_most_70 (lv_at hl 5 rfl) ?_
                    obtain ⟨r37, hc36, hf⟩ := fxBP_e hf
                    refine fx_ci hC hS (fx_runV (i := 7) (As := [.ref (ad (σ.2.2 2)), .int w21]) (rest := []) hC hP hS (ctX7_lackOf l hc36 D cy ad ec _) kX_7 (by decide) rfl kMV_X11_223 kC_X7_lackOf hd_X7_lackOf rfl ⟨(Nat.le_of_ble_eq_true rfl), (Nat.le_of_ble_eq_true rfl)⟩ ⟨Nat.le_refl 0, Nat.le_refl 0⟩ hl.1 (Nat.le_of_ble_eq_true rfl) rfl dX11_most_72) (fun H locs hP hS => ?_)
                    refine lv_iload_n hx hb dX11_most_75 rfl (lv_at hl 1 rfl) ?_
                    refine lv_icmp_gt (tgt := 83) hx hb dX11_most_76 (by decide) (fun c39 => ?_) (fun c39 => ?_)
                    · replace hf := fx_it c39 hf
                      exact j_J33  _ _ _ hP hS (lv_sub hl [0, 1, 2, 3, 4, 5] rfl) hf
                    · replace hf := fx_ie c39 hf
                      refine lv_iconst hx hb dX11_most_79 ki_1 ?_
                      refine lv_goto (tgt := 84) hx hb dX11_most_80 (by decide) ?_
                      exact j_J26 1 _ _ _ hP hS (lv_sub hl [0, 1, 2, 3, 4, 5] rfl) hf
            exact L40 FU r7 0 _ _ _ hP hS (lv_sub hl [3, 4, 5, 2, 1, 0] rfl) hf
          · replace hf := fx_ie c4 hf
            refine lv_iconst hx hb dX11_most_20 ki_m1 ?_
            exact fx_iretp hf hC hr hk hP hS dX11_most_21
  exact main _ _ _ hP hS hl

set_option maxHeartbeats 4000000 in
set_option maxRecDepth 100000 in
theorem ctX11_ways (l : Launch) {a1 : Int32} {σ σ' : FH} {v : Int32} (hf : fX11_ways a1 σ = some (v, σ')) : fx_Mi l yX11_ways cX11_ways 2 (some .int) (1) LX (fun ad ec => [.ref (ad 0), .int a1]) σ v σ' := by
  unfold fX11_ways at hf
  refine fx_mi' (own := RX11) rfl (by decide +kernel) ?_
  intro p e s m args below meth c D cy ad ec A hC hr hk hP hS
  have hx := hC.1
  have hb := hC.2.1
  have hl := lv_entry ([.ref (ad 0), .int a1]) (n := 2) (Nat.le_of_ble_eq_true rfl)
  show W _ _ _ _ _ _ _ _ _ _ _ _ _ _ _ (entryFrame m ([.ref (ad 0), .int a1] : List Value).toArray 2)
  rw [lg_entry_eq]
  generalize (lg_sl ([.ref (ad 0), .int a1]) ++ List.replicate (2 - (lg_sl ([.ref (ad 0), .int a1])).length) Slot.unset).toArray = ls at hl ⊢
  have hl : lv_has ls 2 [(0, .ref (ad 0)), (1, .int a1)] := hl
  have main : ∀ (H : Heap) (locs : List Loc) (ls : Array Slot), fx_P D cy LX ad σ H → va_S A s.heap H locs → lv_has ls 2 [(0, .ref (ad 0)), (1, .int a1)] → W p l e (fx_R (1)) s m args below meth c H locs 0 0 (fx_Qi D cy LX ad A below args s v σ') (F0 m 0 ls []) := by
    intro H locs ls hP hS hl
    refine lv_iload_n hx hb dX11_ways_0 rfl (lv_at hl 1 rfl) ?_
    refine lv_if_lt (tgt := 11) hx hb dX11_ways_1 (by decide) (fun c1 => ?_) (fun c1 => ?_)
    · replace hf := fx_it c1 hf
      refine lv_iconst hx hb dX11_ways_11 ki_m1 ?_
      exact fx_iretf hf hC hr hk hP hS dX11_ways_12
    · replace hf := fx_ie c1 hf
      refine lv_iload_n hx hb dX11_ways_4 rfl (lv_at hl 1 rfl) ?_
      refine lv_sipush hx hb dX11_ways_5 ks_200 ?_
      refine lv_icmp_le (tgt := 13) hx hb dX11_ways_8 (by decide) (fun c2 => ?_) (fun c2 => ?_)
      · replace hf := fx_it c2 hf
        refine lv_aload_n hx hb dX11_ways_13 rfl (lv_at hl 0 rfl) ?_
        refine gf_X11_65 (v := .ref (ad 5)) hC hP kX_0 rfl dX11_ways_14 ?_
        refine lv_aload_n hx hb dX11_ways_17 rfl (lv_at hl 0 rfl) ?_
        obtain ⟨h3, hf⟩ := fxG_e hf
        refine gf_X11_28 (v := .ref (ad (σ.2.2 2))) hC hP kX_0 rfl dX11_ways_18 ?_
        refine gf_X11_234 (v := .int (σ.1 (σ.2.2 2) 5)) hC hP h3 rfl dX11_ways_21 ?_
        refine lv_aload_n hx hb dX11_ways_24 rfl (lv_at hl 0 rfl) ?_
        refine gf_X11_48 (v := .ref (ad 7)) hC hP kX_0 rfl dX11_ways_25 ?_
        refine gf_X11_132 (v := .ref (ad 9)) hC hP kX_7 rfl dX11_ways_28 ?_
        obtain ⟨σ6, hc4, hf⟩ := fxBV_e hf
        refine fx_cv hC hS (fx_runV (i := 5) (As := [.int (σ.1 (σ.2.2 2) 5), .ref (ad 9)]) (rest := []) hC hP hS (ctX0_meet l hc4 D cy ad ec _) kX_5 (by decide) rfl kMV_X11_237 kC_X0_meet hd_X0_meet rfl ⟨(Nat.le_of_ble_eq_true rfl), (Nat.le_of_ble_eq_true rfl)⟩ ⟨Nat.le_refl 0, Nat.le_refl 0⟩ hl.1 (Nat.le_of_ble_eq_true rfl) rfl dX11_ways_31) (fun H locs hP hS => ?_)
        refine lv_aload_n hx hb dX11_ways_34 rfl (lv_at hl 0 rfl) ?_
        refine gf_X11_65 (v := .ref (ad 5)) hC hP kX_0 rfl dX11_ways_35 ?_
        refine lv_iload_n hx hb dX11_ways_38 rfl (lv_at hl 1 rfl) ?_
        obtain ⟨r8, hc7, hf⟩ := fxBP_e hf
        refine fx_ci hC hS (fx_runV (i := 5) (As := [.int a1]) (rest := []) hC hP hS (ctX0_setsOf l hc7 D cy ad ec _) kX_5 (by decide) rfl kMV_X11_241 kC_X0_setsOf hd_X0_setsOf rfl ⟨(Nat.le_of_ble_eq_true rfl), (Nat.le_of_ble_eq_true rfl)⟩ ⟨Nat.le_refl 0, Nat.le_refl 0⟩ hl.1 (Nat.le_of_ble_eq_true rfl) rfl dX11_ways_39) (fun H locs hP hS => ?_)
        exact fx_iretf hf hC hr hk hP hS dX11_ways_42
      · replace hf := fx_ie c2 hf
        refine lv_iconst hx hb dX11_ways_11 ki_m1 ?_
        exact fx_iretf hf hC hr hk hP hS dX11_ways_12
  exact main _ _ _ hP hS hl

set_option maxHeartbeats 4000000 in
set_option maxRecDepth 100000 in
theorem ctX11_pivot (l : Launch) {a1 : Int32} {σ σ' : FH} {v : Int32} (hf : fX11_pivot a1 σ = some (v, σ')) : fx_Mi l yX11_pivot cX11_pivot 2 (some .int) (2) LX (fun ad ec => [.ref (ad 0), .int a1]) σ v σ' := by
  unfold fX11_pivot at hf
  refine fx_mi' (own := RX11) rfl (by decide +kernel) ?_
  intro p e s m args below meth c D cy ad ec A hC hr hk hP hS
  have hx := hC.1
  have hb := hC.2.1
  have hl := lv_entry ([.ref (ad 0), .int a1]) (n := 2) (Nat.le_of_ble_eq_true rfl)
  show W _ _ _ _ _ _ _ _ _ _ _ _ _ _ _ (entryFrame m ([.ref (ad 0), .int a1] : List Value).toArray 2)
  rw [lg_entry_eq]
  generalize (lg_sl ([.ref (ad 0), .int a1]) ++ List.replicate (2 - (lg_sl ([.ref (ad 0), .int a1])).length) Slot.unset).toArray = ls at hl ⊢
  have hl : lv_has ls 2 [(0, .ref (ad 0)), (1, .int a1)] := hl
  have main : ∀ (H : Heap) (locs : List Loc) (ls : Array Slot), fx_P D cy LX ad σ H → va_S A s.heap H locs → lv_has ls 2 [(0, .ref (ad 0)), (1, .int a1)] → W p l e (fx_R (2)) s m args below meth c H locs 0 0 (fx_Qi D cy LX ad A below args s v σ') (F0 m 0 ls []) := by
    intro H locs ls hP hS hl
    refine lv_aload_n hx hb dX11_pivot_0 rfl (lv_at hl 0 rfl) ?_
    obtain ⟨h1, hf⟩ := fxG_e hf
    refine gf_X11_28 (v := .ref (ad (σ.2.2 2))) hC hP kX_0 rfl dX11_pivot_1 ?_
    refine lv_iload_n hx hb dX11_pivot_4 rfl (lv_at hl 1 rfl) ?_
    obtain ⟨r3, hc2, hf⟩ := fxBP_e hf
    refine fx_ci hC hS (fx_runV (i := (σ.2.2 2)) (As := [.int a1]) (rest := []) hC hP hS (ctX5_hasParty l hc2 D cy ad ec _) h1 (by decide) rfl kMV_X11_129 kC_X5_hasParty hd_X5_hasParty rfl ⟨(Nat.le_of_ble_eq_true rfl), (Nat.le_of_ble_eq_true rfl)⟩ ⟨Nat.le_refl 0, Nat.le_refl 0⟩ hl.1 (Nat.le_of_ble_eq_true rfl) rfl dX11_pivot_5) (fun H locs hP hS => ?_)
    refine lv_if_ne (tgt := 13) hx hb dX11_pivot_8 (by decide) (fun c5 => ?_) (fun c5 => ?_)
    · replace hf := fx_ie c5 hf
      refine lv_aload_n hx hb dX11_pivot_13 rfl (lv_at hl 0 rfl) ?_
      refine gf_X11_65 (v := .ref (ad 5)) hC hP kX_0 rfl dX11_pivot_14 ?_
      refine lv_aload_n hx hb dX11_pivot_17 rfl (lv_at hl 0 rfl) ?_
      obtain ⟨h6, hf⟩ := fxG_e hf
      refine gf_X11_28 (v := .ref (ad (σ.2.2 2))) hC hP kX_0 rfl dX11_pivot_18 ?_
      refine gf_X11_234 (v := .int (σ.1 (σ.2.2 2) 5)) hC hP h6 rfl dX11_pivot_21 ?_
      refine lv_aload_n hx hb dX11_pivot_24 rfl (lv_at hl 0 rfl) ?_
      refine gf_X11_48 (v := .ref (ad 7)) hC hP kX_0 rfl dX11_pivot_25 ?_
      refine gf_X11_132 (v := .ref (ad 9)) hC hP kX_7 rfl dX11_pivot_28 ?_
      obtain ⟨σ9, hc7, hf⟩ := fxBV_e hf
      refine fx_cv hC hS (fx_runV (i := 5) (As := [.int (σ.1 (σ.2.2 2) 5), .ref (ad 9)]) (rest := []) hC hP hS (ctX0_meet l hc7 D cy ad ec _) kX_5 (by decide) rfl kMV_X11_237 kC_X0_meet hd_X0_meet rfl ⟨(Nat.le_of_ble_eq_true rfl), (Nat.le_of_ble_eq_true rfl)⟩ ⟨Nat.le_refl 0, Nat.le_refl 0⟩ hl.1 (Nat.le_of_ble_eq_true rfl) rfl dX11_pivot_31) (fun H locs hP hS => ?_)
      refine lv_aload_n hx hb dX11_pivot_34 rfl (lv_at hl 0 rfl) ?_
      refine gf_X11_65 (v := .ref (ad 5)) hC hP kX_0 rfl dX11_pivot_35 ?_
      refine lv_iload_n hx hb dX11_pivot_38 rfl (lv_at hl 1 rfl) ?_
      obtain ⟨r11, hc10, hf⟩ := fxBP_e hf
      refine fx_ci hC hS (fx_runV (i := 5) (As := [.int a1]) (rest := []) hC hP hS (ctX0_turnsBy l hc10 D cy ad ec _) kX_5 (by decide) rfl kMV_X11_244 kC_X0_turnsBy hd_X0_turnsBy rfl ⟨(Nat.le_of_ble_eq_true rfl), (Nat.le_of_ble_eq_true rfl)⟩ ⟨Nat.le_refl 0, Nat.le_refl 0⟩ hl.1 (Nat.le_of_ble_eq_true rfl) rfl dX11_pivot_39) (fun H locs hP hS => ?_)
      exact fx_iretf hf hC hr hk hP hS dX11_pivot_42
    · replace hf := fx_it c5 hf
      refine lv_iconst hx hb dX11_pivot_11 ki_m1 ?_
      exact fx_iretf hf hC hr hk hP hS dX11_pivot_12
  exact main _ _ _ hP hS hl

set_option maxHeartbeats 4000000 in
set_option maxRecDepth 100000 in
theorem ctX11_power (l : Launch) {a1 : Int32} {σ σ' : FH} {v : Int32} (hf : fX11_power a1 σ = some (v, σ')) : fx_Mi l yX11_power cX11_power 4 (some .int) (2) LX (fun ad ec => [.ref (ad 0), .int a1]) σ v σ' := by
  unfold fX11_power at hf
  refine fx_mi' (own := RX11) rfl (by decide +kernel) ?_
  intro p e s m args below meth c D cy ad ec A hC hr hk hP hS
  have hx := hC.1
  have hb := hC.2.1
  have hl := lv_entry ([.ref (ad 0), .int a1]) (n := 4) (Nat.le_of_ble_eq_true rfl)
  show W _ _ _ _ _ _ _ _ _ _ _ _ _ _ _ (entryFrame m ([.ref (ad 0), .int a1] : List Value).toArray 4)
  rw [lg_entry_eq]
  generalize (lg_sl ([.ref (ad 0), .int a1]) ++ List.replicate (4 - (lg_sl ([.ref (ad 0), .int a1])).length) Slot.unset).toArray = ls at hl ⊢
  have hl : lv_has ls 4 [(0, .ref (ad 0)), (1, .int a1)] := hl
  have main : ∀ (H : Heap) (locs : List Loc) (ls : Array Slot), fx_P D cy LX ad σ H → va_S A s.heap H locs → lv_has ls 4 [(0, .ref (ad 0)), (1, .int a1)] → W p l e (fx_R (2)) s m args below meth c H locs 0 0 (fx_Qi D cy LX ad A below args s v σ') (F0 m 0 ls []) := by
    intro H locs ls hP hS hl
    refine lv_aload_n hx hb dX11_power_0 rfl (lv_at hl 0 rfl) ?_
    obtain ⟨h1, hf⟩ := fxG_e hf
    refine gf_X11_28 (v := .ref (ad (σ.2.2 2))) hC hP kX_0 rfl dX11_power_1 ?_
    refine lv_iload_n hx hb dX11_power_4 rfl (lv_at hl 1 rfl) ?_
    obtain ⟨r3, hc2, hf⟩ := fxBP_e hf
    refine fx_ci hC hS (fx_runV (i := (σ.2.2 2)) (As := [.int a1]) (rest := []) hC hP hS (ctX5_hasParty l hc2 D cy ad ec _) h1 (by decide) rfl kMV_X11_129 kC_X5_hasParty hd_X5_hasParty rfl ⟨(Nat.le_of_ble_eq_true rfl), (Nat.le_of_ble_eq_true rfl)⟩ ⟨Nat.le_refl 0, Nat.le_refl 0⟩ hl.1 (Nat.le_of_ble_eq_true rfl) rfl dX11_power_5) (fun H locs hP hS => ?_)
    refine lv_if_ne (tgt := 13) hx hb dX11_power_8 (by decide) (fun c5 => ?_) (fun c5 => ?_)
    · replace hf := fx_ie c5 hf
      refine lv_aload_n hx hb dX11_power_13 rfl (lv_at hl 0 rfl) ?_
      refine gf_X11_65 (v := .ref (ad 5)) hC hP kX_0 rfl dX11_power_14 ?_
      refine lv_aload_n hx hb dX11_power_17 rfl (lv_at hl 0 rfl) ?_
      obtain ⟨h6, hf⟩ := fxG_e hf
      refine gf_X11_28 (v := .ref (ad (σ.2.2 2))) hC hP kX_0 rfl dX11_power_18 ?_
      refine gf_X11_234 (v := .int (σ.1 (σ.2.2 2) 5)) hC hP h6 rfl dX11_power_21 ?_
      refine lv_aload_n hx hb dX11_power_24 rfl (lv_at hl 0 rfl) ?_
      refine gf_X11_48 (v := .ref (ad 7)) hC hP kX_0 rfl dX11_power_25 ?_
      refine gf_X11_132 (v := .ref (ad 9)) hC hP kX_7 rfl dX11_power_28 ?_
      obtain ⟨σ9, hc7, hf⟩ := fxBV_e hf
      refine fx_cv hC hS (fx_runV (i := 5) (As := [.int (σ.1 (σ.2.2 2) 5), .ref (ad 9)]) (rest := []) hC hP hS (ctX0_meet l hc7 D cy ad ec _) kX_5 (by decide) rfl kMV_X11_237 kC_X0_meet hd_X0_meet rfl ⟨(Nat.le_of_ble_eq_true rfl), (Nat.le_of_ble_eq_true rfl)⟩ ⟨Nat.le_refl 0, Nat.le_refl 0⟩ hl.1 (Nat.le_of_ble_eq_true rfl) rfl dX11_power_31) (fun H locs hP hS => ?_)
      refine lv_iconst hx hb dX11_power_34 ki_0 ?_
      refine lv_istore_n (lv' := [(2, .int 0), (0, .ref (ad 0)), (1, .int a1)]) hx hb dX11_power_35 rfl hl (by decide) rfl (fun ls hl => ?_)
      refine lv_iconst hx hb dX11_power_36 ki_0 ?_
      refine lv_istore_n (lv' := [(3, .int 0), (2, .int 0), (0, .ref (ad 0)), (1, .int a1)]) hx hb dX11_power_37 rfl hl (by decide) rfl (fun ls hl => ?_)
      obtain ⟨K10, hK10, hf⟩ := fxL_e hf
      have k_K10 : ∀ (x11 : Int32) (H : Heap) (locs : List Loc) (ls : Array Slot), fx_P D cy LX ad σ9 H → va_S A s.heap H locs → lv_has ls 4 [(0, .ref (ad 0)), (1, .int a1), (2, .int x11)] → K10 x11 = some (v, σ') → W p l e (fx_R (2)) s m args below meth c H locs 0 0 (fx_Qi D cy LX ad A below args s v σ') (F0 m 66 ls []) := by
        intro x11 H locs ls hP hS hl hf
        replace hf := fxk1 hK10 hf
        refine lv_iload_n hx hb dX11_power_66 rfl (lv_at hl 2 rfl) ?_
        refine lv_if_gt (tgt := 74) hx hb dX11_power_67 (by decide) (fun c12 => ?_) (fun c12 => ?_)
        · replace hf := fx_it c12 hf
          refine lv_ldc (own := RX11) (v := 1000000) hx hb hC.2.2.2.1 (hC.2.2.2.2.1 _ kK_X11_247) dX11_power_74 ?_
          refine lv_aload_n hx hb dX11_power_76 rfl (lv_at hl 0 rfl) ?_
          refine gf_X11_65 (v := .ref (ad 5)) hC hP kX_0 rfl dX11_power_77 ?_
          refine lv_iload_n hx hb dX11_power_80 rfl (lv_at hl 1 rfl) ?_
          obtain ⟨r14, hc13, hf⟩ := fxBP_e hf
          refine fx_ci hC hS (fx_runV (i := 5) (As := [.int a1]) (rest := [.int 1000000]) hC hP hS (ctX0_turnsBy l hc13 D cy ad ec _) kX_5 (by decide) rfl kMV_X11_244 kC_X0_turnsBy hd_X0_turnsBy rfl ⟨(Nat.le_of_ble_eq_true rfl), (Nat.le_of_ble_eq_true rfl)⟩ ⟨Nat.le_refl 0, Nat.le_refl 0⟩ hl.1 (Nat.le_of_ble_eq_true rfl) rfl dX11_power_81) (fun H locs hP hS => ?_)
          refine lv_imul hx hb dX11_power_84 ?_
          refine lv_iload_n hx hb dX11_power_85 rfl (lv_at hl 2 rfl) ?_
          obtain ⟨h16, hf⟩ := fxG_e hf
          refine lv_idiv hx hb dX11_power_86 h16 ?_
          exact fx_iretf hf hC hr hk hP hS dX11_power_87
        · replace hf := fx_ie c12 hf
          refine lv_iconst hx hb dX11_power_70 ki_m1 ?_
          refine lv_goto (tgt := 87) hx hb dX11_power_71 (by decide) ?_
          exact fx_iretf hf hC hr hk hP hS dX11_power_87
      have L27 : ∀ (n20 : Nat) (w17 : Int32) (w18 : Int32) (H : Heap) (locs : List Loc) (ls : Array Slot), fx_P D cy LX ad σ9 H → va_S A s.heap H locs → lv_has ls 4 [(0, .ref (ad 0)), (1, .int a1), (2, .int w17), (3, .int w18)] → fX11_power_38 σ9 K10 n20 w17 w18 = some (v, σ') → W p l e (fx_R (2)) s m args below meth c H locs 0 0 (fx_Qi D cy LX ad A below args s v σ') (F0 m 38 ls []) := by
        intro n20
        induction n20 with
        | zero =>
          intro w17 w18 H locs ls hP hS hl hf
          rw [fX11_power_38] at hf
          cases hf
        | succ n20 ih19 =>
          intro w17 w18 H locs ls hP hS hl hf
          rw [fX11_power_38] at hf
          refine lv_iload_n hx hb dX11_power_38 rfl (lv_at hl 3 rfl) ?_
          refine lv_aload_n hx hb dX11_power_39 rfl (lv_at hl 0 rfl) ?_
          obtain ⟨h21, hf⟩ := fxG_e hf
          refine gf_X11_28 (v := .ref (ad (σ9.2.2 2))) hC hP kX_0 rfl dX11_power_40 ?_
          refine gf_X11_234 (v := .int (σ9.1 (σ9.2.2 2) 5)) hC hP h21 rfl dX11_power_43 ?_
          refine lv_icmp_ge (tgt := 66) hx hb dX11_power_46 (by decide) (fun c22 => ?_) (fun c22 => ?_)
          · replace hf := fx_it c22 hf
            exact k_K10 w17 _ _ _ hP hS (lv_sub hl [0, 1, 2] rfl) hf
          · replace hf := fx_ie c22 hf
            refine lv_iload_n hx hb dX11_power_49 rfl (lv_at hl 2 rfl) ?_
            refine lv_aload_n hx hb dX11_power_50 rfl (lv_at hl 0 rfl) ?_
            refine gf_X11_65 (v := .ref (ad 5)) hC hP kX_0 rfl dX11_power_51 ?_
            refine lv_iload_n hx hb dX11_power_54 rfl (lv_at hl 3 rfl) ?_
            obtain ⟨r24, hc23, hf⟩ := fxBP_e hf
            refine fx_ci hC hS (fx_runV (i := 5) (As := [.int w18]) (rest := [.int w17]) hC hP hS (ctX0_turnsBy l hc23 D cy ad ec _) kX_5 (by decide) rfl kMV_X11_244 kC_X0_turnsBy hd_X0_turnsBy rfl ⟨(Nat.le_of_ble_eq_true rfl), (Nat.le_of_ble_eq_true rfl)⟩ ⟨Nat.le_refl 0, Nat.le_refl 0⟩ hl.1 (Nat.le_of_ble_eq_true rfl) rfl dX11_power_55) (fun H locs hP hS => ?_)
            refine lv_iadd hx hb dX11_power_58 ?_
            obtain ⟨v26, ev26, hf⟩ := fxL_e hf
            refine fx_ti ev26 ?_
            refine lv_istore_n (lv' := [(2, .int v26), (0, .ref (ad 0)), (1, .int a1), (3, .int w18)]) hx hb dX11_power_59 rfl hl (by decide) rfl (fun ls hl => ?_)
            refine lv_iinc (v := (w18 + 1)) (lv' := [(3, .int (w18 + 1)), (2, .int v26), (0, .ref (ad 0)), (1, .int a1)]) hx hb dX11_power_60 hl (k := 3) rfl (congrArg (fun z => w18 + z) ki_1) (by decide) rfl (fun ls hl => ?_)
            refine lv_goto (tgt := 38) hx hb dX11_power_63 (by decide) ?_
            exact ih19 v26 (w18 + 1) _ _ _ hP hS (lv_sub hl [2, 3, 1, 0] rfl) hf
      exact L27 FU 0 0 _ _ _ hP hS (lv_sub hl [2, 3, 1, 0] rfl) hf
    · replace hf := fx_it c5 hf
      refine lv_iconst hx hb dX11_power_11 ki_m1 ?_
      exact fx_iretf hf hC hr hk hP hS dX11_power_12
  exact main _ _ _ hP hS hl

set_option maxHeartbeats 4000000 in
set_option maxRecDepth 100000 in
theorem ctX11_core (l : Launch) {σ σ' : FH} {v : Int32} (hf : fX11_core σ = some (v, σ')) : fx_Mi l yX11_core cX11_core 1 (some .int) (2) LX (fun ad ec => [.ref (ad 0)]) σ v σ' := by
  unfold fX11_core at hf
  refine fx_mi' (own := RX11) rfl (by decide +kernel) ?_
  intro p e s m args below meth c D cy ad ec A hC hr hk hP hS
  have hx := hC.1
  have hb := hC.2.1
  have hl := lv_entry ([.ref (ad 0)]) (n := 1) (Nat.le_of_ble_eq_true rfl)
  show W _ _ _ _ _ _ _ _ _ _ _ _ _ _ _ (entryFrame m ([.ref (ad 0)] : List Value).toArray 1)
  rw [lg_entry_eq]
  generalize (lg_sl ([.ref (ad 0)]) ++ List.replicate (1 - (lg_sl ([.ref (ad 0)])).length) Slot.unset).toArray = ls at hl ⊢
  have hl : lv_has ls 1 [(0, .ref (ad 0))] := hl
  have main : ∀ (H : Heap) (locs : List Loc) (ls : Array Slot), fx_P D cy LX ad σ H → va_S A s.heap H locs → lv_has ls 1 [(0, .ref (ad 0))] → W p l e (fx_R (2)) s m args below meth c H locs 0 0 (fx_Qi D cy LX ad A below args s v σ') (F0 m 0 ls []) := by
    intro H locs ls hP hS hl
    refine lv_aload_n hx hb dX11_core_0 rfl (lv_at hl 0 rfl) ?_
    refine gf_X11_65 (v := .ref (ad 5)) hC hP kX_0 rfl dX11_core_1 ?_
    refine lv_aload_n hx hb dX11_core_4 rfl (lv_at hl 0 rfl) ?_
    obtain ⟨h1, hf⟩ := fxG_e hf
    refine gf_X11_28 (v := .ref (ad (σ.2.2 2))) hC hP kX_0 rfl dX11_core_5 ?_
    refine gf_X11_234 (v := .int (σ.1 (σ.2.2 2) 5)) hC hP h1 rfl dX11_core_8 ?_
    refine lv_aload_n hx hb dX11_core_11 rfl (lv_at hl 0 rfl) ?_
    refine gf_X11_48 (v := .ref (ad 7)) hC hP kX_0 rfl dX11_core_12 ?_
    refine gf_X11_132 (v := .ref (ad 9)) hC hP kX_7 rfl dX11_core_15 ?_
    obtain ⟨σ4, hc2, hf⟩ := fxBV_e hf
    refine fx_cv hC hS (fx_runV (i := 5) (As := [.int (σ.1 (σ.2.2 2) 5), .ref (ad 9)]) (rest := []) hC hP hS (ctX0_meet l hc2 D cy ad ec _) kX_5 (by decide) rfl kMV_X11_237 kC_X0_meet hd_X0_meet rfl ⟨(Nat.le_of_ble_eq_true rfl), (Nat.le_of_ble_eq_true rfl)⟩ ⟨Nat.le_refl 0, Nat.le_refl 0⟩ hl.1 (Nat.le_of_ble_eq_true rfl) rfl dX11_core_18) (fun H locs hP hS => ?_)
    refine lv_aload_n hx hb dX11_core_21 rfl (lv_at hl 0 rfl) ?_
    refine gf_X11_65 (v := .ref (ad 5)) hC hP kX_0 rfl dX11_core_22 ?_
    obtain ⟨r6, hc5, hf⟩ := fxBP_e hf
    refine fx_ci hC hS (fx_runV (i := 5) (As := []) (rest := []) hC hP hS (ctX0_inEveryMajority l hc5 D cy ad ec _) kX_5 (by decide) rfl kMV_X11_248 kC_X0_inEveryMajority hd_X0_inEveryMajority rfl ⟨(Nat.le_of_ble_eq_true rfl), (Nat.le_of_ble_eq_true rfl)⟩ ⟨Nat.le_refl 0, Nat.le_refl 0⟩ hl.1 (Nat.le_of_ble_eq_true rfl) rfl dX11_core_25) (fun H locs hP hS => ?_)
    exact fx_iretf hf hC hr hk hP hS dX11_core_28
  exact main _ _ _ hP hS hl

set_option maxHeartbeats 4000000 in
set_option maxRecDepth 100000 in
theorem ctX11_lean (l : Launch) {σ σ' : FH} {v : Int32} (hf : fX11_lean σ = some (v, σ')) : fx_Mi l yX11_lean cX11_lean 1 (some .int) (2) LX (fun ad ec => [.ref (ad 0)]) σ v σ' := by
  unfold fX11_lean at hf
  refine fx_mi' (own := RX11) rfl (by decide +kernel) ?_
  intro p e s m args below meth c D cy ad ec A hC hr hk hP hS
  have hx := hC.1
  have hb := hC.2.1
  have hl := lv_entry ([.ref (ad 0)]) (n := 1) (Nat.le_of_ble_eq_true rfl)
  show W _ _ _ _ _ _ _ _ _ _ _ _ _ _ _ (entryFrame m ([.ref (ad 0)] : List Value).toArray 1)
  rw [lg_entry_eq]
  generalize (lg_sl ([.ref (ad 0)]) ++ List.replicate (1 - (lg_sl ([.ref (ad 0)])).length) Slot.unset).toArray = ls at hl ⊢
  have hl : lv_has ls 1 [(0, .ref (ad 0))] := hl
  have main : ∀ (H : Heap) (locs : List Loc) (ls : Array Slot), fx_P D cy LX ad σ H → va_S A s.heap H locs → lv_has ls 1 [(0, .ref (ad 0))] → W p l e (fx_R (2)) s m args below meth c H locs 0 0 (fx_Qi D cy LX ad A below args s v σ') (F0 m 0 ls []) := by
    intro H locs ls hP hS hl
    refine lv_aload_n hx hb dX11_lean_0 rfl (lv_at hl 0 rfl) ?_
    refine gf_X11_65 (v := .ref (ad 5)) hC hP kX_0 rfl dX11_lean_1 ?_
    refine lv_aload_n hx hb dX11_lean_4 rfl (lv_at hl 0 rfl) ?_
    obtain ⟨h1, hf⟩ := fxG_e hf
    refine gf_X11_28 (v := .ref (ad (σ.2.2 2))) hC hP kX_0 rfl dX11_lean_5 ?_
    refine gf_X11_234 (v := .int (σ.1 (σ.2.2 2) 5)) hC hP h1 rfl dX11_lean_8 ?_
    refine lv_aload_n hx hb dX11_lean_11 rfl (lv_at hl 0 rfl) ?_
    refine gf_X11_48 (v := .ref (ad 7)) hC hP kX_0 rfl dX11_lean_12 ?_
    refine gf_X11_132 (v := .ref (ad 9)) hC hP kX_7 rfl dX11_lean_15 ?_
    obtain ⟨σ4, hc2, hf⟩ := fxBV_e hf
    refine fx_cv hC hS (fx_runV (i := 5) (As := [.int (σ.1 (σ.2.2 2) 5), .ref (ad 9)]) (rest := []) hC hP hS (ctX0_meet l hc2 D cy ad ec _) kX_5 (by decide) rfl kMV_X11_237 kC_X0_meet hd_X0_meet rfl ⟨(Nat.le_of_ble_eq_true rfl), (Nat.le_of_ble_eq_true rfl)⟩ ⟨Nat.le_refl 0, Nat.le_refl 0⟩ hl.1 (Nat.le_of_ble_eq_true rfl) rfl dX11_lean_18) (fun H locs hP hS => ?_)
    refine lv_aload_n hx hb dX11_lean_21 rfl (lv_at hl 0 rfl) ?_
    refine gf_X11_65 (v := .ref (ad 5)) hC hP kX_0 rfl dX11_lean_22 ?_
    obtain ⟨r6, hc5, hf⟩ := fxBP_e hf
    refine fx_ci hC hS (fx_runV (i := 5) (As := []) (rest := []) hC hP hS (ctX0_leastMajority l hc5 D cy ad ec _) kX_5 (by decide) rfl kMV_X11_251 kC_X0_leastMajority hd_X0_leastMajority rfl ⟨(Nat.le_of_ble_eq_true rfl), (Nat.le_of_ble_eq_true rfl)⟩ ⟨Nat.le_refl 0, Nat.le_refl 0⟩ hl.1 (Nat.le_of_ble_eq_true rfl) rfl dX11_lean_25) (fun H locs hP hS => ?_)
    exact fx_iretf hf hC hr hk hP hS dX11_lean_28
  exact main _ _ _ hP hS hl

set_option maxHeartbeats 4000000 in
set_option maxRecDepth 100000 in
theorem ctX11_shift (l : Launch) {a1 : Int32} {a2 : Int32} {σ : FH} {v : Int32} (hf : fX11_shift a1 a2 σ = some v) : fx_Mi l yX11_shift cX11_shift 6 (some .int) (3) LX (fun ad ec => [.ref (ad 0), .int a1, .int a2]) σ v σ := by
  unfold fX11_shift at hf
  refine fx_mi' (own := RX11) rfl (by decide +kernel) ?_
  intro p e s m args below meth c D cy ad ec A hC hr hk hP hS
  have hx := hC.1
  have hb := hC.2.1
  have hl := lv_entry ([.ref (ad 0), .int a1, .int a2]) (n := 6) (Nat.le_of_ble_eq_true rfl)
  show W _ _ _ _ _ _ _ _ _ _ _ _ _ _ _ (entryFrame m ([.ref (ad 0), .int a1, .int a2] : List Value).toArray 6)
  rw [lg_entry_eq]
  generalize (lg_sl ([.ref (ad 0), .int a1, .int a2]) ++ List.replicate (6 - (lg_sl ([.ref (ad 0), .int a1, .int a2])).length) Slot.unset).toArray = ls at hl ⊢
  have hl : lv_has ls 6 [(0, .ref (ad 0)), (1, .int a1), (2, .int a2)] := hl
  have main : ∀ (H : Heap) (locs : List Loc) (ls : Array Slot), fx_P D cy LX ad σ H → va_S A s.heap H locs → lv_has ls 6 [(0, .ref (ad 0)), (1, .int a1), (2, .int a2)] → W p l e (fx_R (3)) s m args below meth c H locs 0 0 (fx_Qi D cy LX ad A below args s v σ) (F0 m 0 ls []) := by
    intro H locs ls hP hS hl
    refine lv_aload_n hx hb dX11_shift_0 rfl (lv_at hl 0 rfl) ?_
    obtain ⟨h1, hf⟩ := fxG_e hf
    refine gf_X11_28 (v := .ref (ad (σ.2.2 2))) hC hP kX_0 rfl dX11_shift_1 ?_
    refine lv_iload_n hx hb dX11_shift_4 rfl (lv_at hl 1 rfl) ?_
    obtain ⟨r3, hc2, hf⟩ := fxBP_e hf
    refine fx_ci hC hS (fx_runV (i := (σ.2.2 2)) (As := [.int a1]) (rest := []) hC hP hS (ctX5_hasWare l hc2 D cy ad ec _) h1 (by decide) rfl kMV_X11_99 kC_X5_hasWare hd_X5_hasWare rfl ⟨(Nat.le_of_ble_eq_true rfl), (Nat.le_of_ble_eq_true rfl)⟩ ⟨Nat.le_refl 0, Nat.le_refl 0⟩ hl.1 (Nat.le_of_ble_eq_true rfl) rfl dX11_shift_5) (fun H locs hP hS => ?_)
    refine lv_if_eq (tgt := 20) hx hb dX11_shift_8 (by decide) (fun c5 => ?_) (fun c5 => ?_)
    · replace hf := fx_it c5 hf
      refine lv_bipush hx hb dX11_shift_20 kb_m2 ?_
      exact fx_iretp hf hC hr hk hP hS dX11_shift_22
    · replace hf := fx_ie c5 hf
      refine lv_iload_n hx hb dX11_shift_11 rfl (lv_at hl 2 rfl) ?_
      refine lv_if_lt (tgt := 20) hx hb dX11_shift_12 (by decide) (fun c6 => ?_) (fun c6 => ?_)
      · replace hf := fx_it c6 hf
        refine lv_bipush hx hb dX11_shift_20 kb_m2 ?_
        exact fx_iretp hf hC hr hk hP hS dX11_shift_22
      · replace hf := fx_ie c6 hf
        refine lv_iload_n hx hb dX11_shift_15 rfl (lv_at hl 2 rfl) ?_
        refine lv_iconst hx hb dX11_shift_16 ki_2 ?_
        refine lv_icmp_le (tgt := 23) hx hb dX11_shift_17 (by decide) (fun c7 => ?_) (fun c7 => ?_)
        · replace hf := fx_it c7 hf
          refine lv_aload_n hx hb dX11_shift_23 rfl (lv_at hl 0 rfl) ?_
          refine gf_X11_48 (v := .ref (ad 7)) hC hP kX_0 rfl dX11_shift_24 ?_
          refine lv_aload_n hx hb dX11_shift_27 rfl (lv_at hl 0 rfl) ?_
          obtain ⟨h8, hf⟩ := fxG_e hf
          refine gf_X11_28 (v := .ref (ad (σ.2.2 2))) hC hP kX_0 rfl dX11_shift_28 ?_
          refine lv_iload_n hx hb dX11_shift_31 rfl (lv_at hl 1 rfl) ?_
          obtain ⟨r10, hc9, hf⟩ := fxBP_e hf
          refine fx_ci hC hS (fx_runV (i := 7) (As := [.ref (ad (σ.2.2 2)), .int a1]) (rest := []) hC hP hS (ctX7_votesFor l hc9 D cy ad ec _) kX_7 (by decide) rfl kMV_X11_117 kC_X7_votesFor hd_X7_votesFor rfl ⟨(Nat.le_of_ble_eq_true rfl), (Nat.le_of_ble_eq_true rfl)⟩ ⟨Nat.le_refl 0, Nat.le_refl 0⟩ hl.1 (Nat.le_of_ble_eq_true rfl) rfl dX11_shift_32) (fun H locs hP hS => ?_)
          refine lv_aload_n hx hb dX11_shift_35 rfl (lv_at hl 0 rfl) ?_
          refine gf_X11_48 (v := .ref (ad 7)) hC hP kX_0 rfl dX11_shift_36 ?_
          obtain ⟨r13, hc12, hf⟩ := fxBP_e hf
          refine fx_ci hC hS (fx_runV (i := 7) (As := []) (rest := [.int r10]) hC hP hS (ctX7_allSeats l hc12 D cy ad ec _) kX_7 (by decide) rfl kMV_X11_121 kC_X7_allSeats hd_X7_allSeats rfl ⟨(Nat.le_of_ble_eq_true rfl), (Nat.le_of_ble_eq_true rfl)⟩ ⟨Nat.le_refl 0, Nat.le_refl 0⟩ hl.1 (Nat.le_of_ble_eq_true rfl) rfl dX11_shift_39) (fun H locs hP hS => ?_)
          obtain ⟨r16, hc15, hf⟩ := fxBP_e hf
          refine fx_ci hC hS (fx_runS (As := [.int r10, .int r13]) (rest := []) hC hP hS (ctX11_standing l hc15 D cy ad ec _) kMS_X11_125 kC_X11_standing hd_X11_standing.2 rfl ⟨(Nat.le_of_ble_eq_true rfl), (Nat.le_of_ble_eq_true rfl)⟩ ⟨Nat.le_refl 0, Nat.le_refl 0⟩ hl.1 (Nat.le_of_ble_eq_true rfl) rfl dX11_shift_42) (fun H locs hP hS => ?_)
          refine lv_iconst hx hb dX11_shift_45 ki_1 ?_
          refine lv_icmp_ne (tgt := 59) hx hb dX11_shift_46 (by decide) (fun c18 => ?_) (fun c18 => ?_)
          · replace hf := fx_ie c18 hf
            refine lv_iconst hx hb dX11_shift_59 ki_1 ?_
            refine lv_istore_n (lv' := [(3, .int 1), (0, .ref (ad 0)), (1, .int a1), (2, .int a2)]) hx hb dX11_shift_60 rfl hl (by decide) rfl (fun ls hl => ?_)
            obtain ⟨K19, hK19, hf⟩ := fxL_e hf
            have k_K19 : ∀  (H : Heap) (locs : List Loc) (ls : Array Slot), fx_P D cy LX ad σ H → va_S A s.heap H locs → lv_has ls 6 [] → K19 = some v → W p l e (fx_R (3)) s m args below meth c H locs 0 0 (fx_Qi D cy LX ad A below args s v σ) (F0 m 156 ls []) := by
              intro  H locs ls hP hS hl hf
              replace hf := hK19.symm.trans hf
              refine lv_bipush hx hb dX11_shift_156 kb_m2 ?_
              exact fx_iretp hf hC hr hk hP hS dX11_shift_158
            have L47 : ∀ (n22 : Nat) (w20 : Int32) (H : Heap) (locs : List Loc) (ls : Array Slot), fx_P D cy LX ad σ H → va_S A s.heap H locs → lv_has ls 6 [(0, .ref (ad 0)), (1, .int a1), (2, .int a2), (3, .int w20)] → fX11_shift_61 a1 a2 σ K19 n22 w20 = some v → W p l e (fx_R (3)) s m args below meth c H locs 0 0 (fx_Qi D cy LX ad A below args s v σ) (F0 m 61 ls []) := by
              intro n22
              induction n22 with
              | zero =>
                intro w20 H locs ls hP hS hl hf
                rw [fX11_shift_61] at hf
                cases hf
              | succ n22 ih21 =>
                intro w20 H locs ls hP hS hl hf
                rw [fX11_shift_61] at hf
                refine lv_iload_n hx hb dX11_shift_61 rfl (lv_at hl 3 rfl) ?_
                refine lv_bipush hx hb dX11_shift_62 kb_20 ?_
                refine lv_icmp_gt (tgt := 156) hx hb dX11_shift_64 (by decide) (fun c23 => ?_) (fun c23 => ?_)
                · replace hf := fx_it c23 hf
                  exact k_K19  _ _ _ hP hS (lv_sub hl [] rfl) hf
                · replace hf := fx_ie c23 hf
                  refine lv_iconst hx hb dX11_shift_67 ki_0 ?_
                  refine lv_istore (lv' := [(4, .int 0), (0, .ref (ad 0)), (1, .int a1), (2, .int a2), (3, .int w20)]) hx hb dX11_shift_68 hl (by decide) rfl (fun ls hl => ?_)
                  obtain ⟨K24, hK24, hf⟩ := fxL_e hf
                  have k_K24 : ∀  (H : Heap) (locs : List Loc) (ls : Array Slot), fx_P D cy LX ad σ H → va_S A s.heap H locs → lv_has ls 6 [(0, .ref (ad 0)), (1, .int a1), (2, .int a2), (3, .int w20)] → K24 = some v → W p l e (fx_R (3)) s m args below meth c H locs 0 0 (fx_Qi D cy LX ad A below args s v σ) (F0 m 150 ls []) := by
                    intro  H locs ls hP hS hl hf
                    replace hf := hK24.symm.trans hf
                    refine lv_iinc (v := (w20 + 1)) (lv' := [(3, .int (w20 + 1)), (0, .ref (ad 0)), (1, .int a1), (2, .int a2)]) hx hb dX11_shift_150 hl (k := 3) rfl (congrArg (fun z => w20 + z) ki_1) (by decide) rfl (fun ls hl => ?_)
                    refine lv_goto (tgt := 61) hx hb dX11_shift_153 (by decide) ?_
                    exact ih21 (w20 + 1) _ _ _ hP hS (lv_sub hl [1, 2, 3, 0] rfl) hf
                  have L46 : ∀ (n27 : Nat) (w25 : Int32) (H : Heap) (locs : List Loc) (ls : Array Slot), fx_P D cy LX ad σ H → va_S A s.heap H locs → lv_has ls 6 [(0, .ref (ad 0)), (1, .int a1), (2, .int a2), (3, .int w20), (4, .int w25)] → fX11_shift_70 a1 a2 σ w20 K24 n27 w25 = some v → W p l e (fx_R (3)) s m args below meth c H locs 0 0 (fx_Qi D cy LX ad A below args s v σ) (F0 m 70 ls []) := by
                    intro n27
                    induction n27 with
                    | zero =>
                      intro w25 H locs ls hP hS hl hf
                      rw [fX11_shift_70] at hf
                      cases hf
                    | succ n27 ih26 =>
                      intro w25 H locs ls hP hS hl hf
                      rw [fX11_shift_70] at hf
                      refine lv_iload hx hb dX11_shift_70 (lv_at hl 4 rfl) ?_
                      refine lv_aload_n hx hb dX11_shift_72 rfl (lv_at hl 0 rfl) ?_
                      obtain ⟨h28, hf⟩ := fxG_e hf
                      refine gf_X11_28 (v := .ref (ad (σ.2.2 2))) hC hP kX_0 rfl dX11_shift_73 ?_
                      refine gf_X11_234 (v := .int (σ.1 (σ.2.2 2) 5)) hC hP h28 rfl dX11_shift_76 ?_
                      refine lv_icmp_ge (tgt := 150) hx hb dX11_shift_79 (by decide) (fun c29 => ?_) (fun c29 => ?_)
                      · replace hf := fx_it c29 hf
                        exact k_K24  _ _ _ hP hS (lv_sub hl [0, 1, 2, 3] rfl) hf
                      · replace hf := fx_ie c29 hf
                        refine lv_iconst hx hb dX11_shift_82 ki_0 ?_
                        refine lv_istore (lv' := [(5, .int 0), (0, .ref (ad 0)), (1, .int a1), (2, .int a2), (3, .int w20), (4, .int w25)]) hx hb dX11_shift_83 hl (by decide) rfl (fun ls hl => ?_)
                        obtain ⟨K30, hK30, hf⟩ := fxL_e hf
                        have k_K30 : ∀  (H : Heap) (locs : List Loc) (ls : Array Slot), fx_P D cy LX ad σ H → va_S A s.heap H locs → lv_has ls 6 [(0, .ref (ad 0)), (1, .int a1), (2, .int a2), (3, .int w20), (4, .int w25)] → K30 = some v → W p l e (fx_R (3)) s m args below meth c H locs 0 0 (fx_Qi D cy LX ad A below args s v σ) (F0 m 144 ls []) := by
                          intro  H locs ls hP hS hl hf
                          replace hf := hK30.symm.trans hf
                          refine lv_iinc (v := (w25 + 1)) (lv' := [(4, .int (w25 + 1)), (0, .ref (ad 0)), (1, .int a1), (2, .int a2), (3, .int w20)]) hx hb dX11_shift_144 hl (k := 4) rfl (congrArg (fun z => w25 + z) ki_1) (by decide) rfl (fun ls hl => ?_)
                          refine lv_goto (tgt := 70) hx hb dX11_shift_147 (by decide) ?_
                          exact ih26 (w25 + 1) _ _ _ hP hS (lv_sub hl [1, 2, 3, 4, 0] rfl) hf
                        have L45 : ∀ (n33 : Nat) (w31 : Int32) (H : Heap) (locs : List Loc) (ls : Array Slot), fx_P D cy LX ad σ H → va_S A s.heap H locs → lv_has ls 6 [(0, .ref (ad 0)), (1, .int a1), (2, .int a2), (3, .int w20), (4, .int w25), (5, .int w31)] → fX11_shift_85 a1 a2 σ w20 w25 K30 n33 w31 = some v → W p l e (fx_R (3)) s m args below meth c H locs 0 0 (fx_Qi D cy LX ad A below args s v σ) (F0 m 85 ls []) := by
                          intro n33
                          induction n33 with
                          | zero =>
                            intro w31 H locs ls hP hS hl hf
                            rw [fX11_shift_85] at hf
                            cases hf
                          | succ n33 ih32 =>
                            intro w31 H locs ls hP hS hl hf
                            rw [fX11_shift_85] at hf
                            refine lv_iload hx hb dX11_shift_85 (lv_at hl 5 rfl) ?_
                            refine lv_aload_n hx hb dX11_shift_87 rfl (lv_at hl 0 rfl) ?_
                            obtain ⟨h34, hf⟩ := fxG_e hf
                            refine gf_X11_28 (v := .ref (ad (σ.2.2 2))) hC hP kX_0 rfl dX11_shift_88 ?_
                            refine gf_X11_234 (v := .int (σ.1 (σ.2.2 2) 5)) hC hP h34 rfl dX11_shift_91 ?_
                            refine lv_icmp_ge (tgt := 144) hx hb dX11_shift_94 (by decide) (fun c35 => ?_) (fun c35 => ?_)
                            · replace hf := fx_it c35 hf
                              exact k_K30  _ _ _ hP hS (lv_sub hl [0, 1, 2, 3, 4] rfl) hf
                            · replace hf := fx_ie c35 hf
                              refine lv_aload_n hx hb dX11_shift_97 rfl (lv_at hl 0 rfl) ?_
                              refine gf_X11_48 (v := .ref (ad 7)) hC hP kX_0 rfl dX11_shift_98 ?_
                              refine lv_aload_n hx hb dX11_shift_101 rfl (lv_at hl 0 rfl) ?_
                              obtain ⟨h36, hf⟩ := fxG_e hf
                              refine gf_X11_28 (v := .ref (ad (σ.2.2 2))) hC hP kX_0 rfl dX11_shift_102 ?_
                              refine lv_iload_n hx hb dX11_shift_105 rfl (lv_at hl 1 rfl) ?_
                              refine lv_iload hx hb dX11_shift_106 (lv_at hl 4 rfl) ?_
                              refine lv_iload hx hb dX11_shift_108 (lv_at hl 5 rfl) ?_
                              refine lv_iload_n hx hb dX11_shift_110 rfl (lv_at hl 3 rfl) ?_
                              obtain ⟨r38, hc37, hf⟩ := fxBP_e hf
                              refine fx_ci hC hS (fx_runV (i := 7) (As := [.ref (ad (σ.2.2 2)), .int a1, .int w25, .int w31, .int w20]) (rest := []) hC hP hS (ctX7_wouldHalve l hc37 D cy ad ec _) kX_7 (by decide) rfl kMV_X11_254 kC_X7_wouldHalve hd_X7_wouldHalve rfl ⟨(Nat.le_of_ble_eq_true rfl), (Nat.le_of_ble_eq_true rfl)⟩ ⟨Nat.le_refl 0, Nat.le_refl 0⟩ hl.1 (Nat.le_of_ble_eq_true rfl) rfl dX11_shift_111) (fun H locs hP hS => ?_)
                              refine lv_if_eq (tgt := 138) hx hb dX11_shift_114 (by decide) (fun c40 => ?_) (fun c40 => ?_)
                              · replace hf := fx_it c40 hf
                                refine lv_iinc (v := (w31 + 1)) (lv' := [(5, .int (w31 + 1)), (0, .ref (ad 0)), (1, .int a1), (2, .int a2), (3, .int w20), (4, .int w25)]) hx hb dX11_shift_138 hl (k := 5) rfl (congrArg (fun z => w31 + z) ki_1) (by decide) rfl (fun ls hl => ?_)
                                refine lv_goto (tgt := 85) hx hb dX11_shift_141 (by decide) ?_
                                exact ih32 (w31 + 1) _ _ _ hP hS (lv_sub hl [1, 2, 3, 4, 5, 0] rfl) hf
                              · replace hf := fx_ie c40 hf
                                refine lv_iload_n hx hb dX11_shift_117 rfl (lv_at hl 2 rfl) ?_
                                obtain ⟨v41, ev41, hf⟩ := fxL_e hf
                                have j_v41 : ∀ (z42 : Int32), z42 = ((if a2 = 0 then w20 else (if a2 = 1 then w25 else w31)) : Int32) → ∀ (ls : Array Slot), lv_has ls 6 [] → W p l e (fx_R (3)) s m args below meth c H locs 0 0 (fx_Qi D cy LX ad A below args s v σ) (F0 m 137 ls [.int z42]) := by
                                  intro z42 hz42 ls hl
                                  obtain rfl : v41 = z42 := ev41.trans hz42.symm
                                  exact fx_iretp hf hC hr hk hP hS dX11_shift_137
                                refine lv_if_ne (tgt := 125) hx hb dX11_shift_118 (by decide) (fun c43 => ?_) (fun c43 => ?_)
                                · refine lv_iload_n hx hb dX11_shift_125 rfl (lv_at hl 2 rfl) ?_
                                  refine lv_iconst hx hb dX11_shift_126 ki_1 ?_
                                  refine lv_icmp_ne (tgt := 135) hx hb dX11_shift_127 (by decide) (fun c44 => ?_) (fun c44 => ?_)
                                  · refine lv_iload hx hb dX11_shift_135 (lv_at hl 5 rfl) ?_
                                    exact j_v41 w31 ((if_neg c43).trans (if_neg c44)).symm ls (lv_sub hl [] rfl)
                                  · refine lv_iload hx hb dX11_shift_130 (lv_at hl 4 rfl) ?_
                                    refine lv_goto (tgt := 137) hx hb dX11_shift_132 (by decide) ?_
                                    exact j_v41 w25 ((if_neg c43).trans (if_pos c44)).symm ls (lv_sub hl [] rfl)
                                · refine lv_iload_n hx hb dX11_shift_121 rfl (lv_at hl 3 rfl) ?_
                                  refine lv_goto (tgt := 137) hx hb dX11_shift_122 (by decide) ?_
                                  exact j_v41 w20 (if_pos c43).symm ls (lv_sub hl [] rfl)
                        exact L45 FU 0 _ _ _ hP hS (lv_sub hl [1, 2, 3, 4, 5, 0] rfl) hf
                  exact L46 FU 0 _ _ _ hP hS (lv_sub hl [1, 2, 3, 4, 0] rfl) hf
            exact L47 FU 1 _ _ _ hP hS (lv_sub hl [1, 2, 3, 0] rfl) hf
          · replace hf := fx_it c18 hf
            refine lv_iload_n hx hb dX11_shift_49 rfl (lv_at hl 2 rfl) ?_
            obtain ⟨v48, ev48, hf⟩ := fxL_e hf
            have j_v48 : ∀ (z49 : Int32), z49 = ((if a2 = 0 then 0 else (-1)) : Int32) → ∀ (ls : Array Slot), lv_has ls 6 [] → W p l e (fx_R (3)) s m args below meth c H locs 0 0 (fx_Qi D cy LX ad A below args s v σ) (F0 m 58 ls [.int z49]) := by
              intro z49 hz49 ls hl
              obtain rfl : v48 = z49 := ev48.trans hz49.symm
              exact fx_iretp hf hC hr hk hP hS dX11_shift_58
            refine lv_if_ne (tgt := 57) hx hb dX11_shift_50 (by decide) (fun c50 => ?_) (fun c50 => ?_)
            · refine lv_iconst hx hb dX11_shift_57 ki_m1 ?_
              exact j_v48 (-1) (if_neg c50).symm ls (lv_sub hl [] rfl)
            · refine lv_iconst hx hb dX11_shift_53 ki_0 ?_
              refine lv_goto (tgt := 58) hx hb dX11_shift_54 (by decide) ?_
              exact j_v48 0 (if_pos c50).symm ls (lv_sub hl [] rfl)
        · replace hf := fx_ie c7 hf
          refine lv_bipush hx hb dX11_shift_20 kb_m2 ?_
          exact fx_iretp hf hC hr hk hP hS dX11_shift_22
  exact main _ _ _ hP hS hl

set_option maxHeartbeats 4000000 in
set_option maxRecDepth 100000 in
theorem ctX11_rival (l : Launch) {a1 : Int32} {σ : FH} {v : Int32} (hf : fX11_rival a1 σ = some v) : fx_Mi l yX11_rival cX11_rival 6 (some .int) (2) LX (fun ad ec => [.ref (ad 0), .int a1]) σ v σ := by
  unfold fX11_rival at hf
  refine fx_mi' (own := RX11) rfl (by decide +kernel) ?_
  intro p e s m args below meth c D cy ad ec A hC hr hk hP hS
  have hx := hC.1
  have hb := hC.2.1
  have hl := lv_entry ([.ref (ad 0), .int a1]) (n := 6) (Nat.le_of_ble_eq_true rfl)
  show W _ _ _ _ _ _ _ _ _ _ _ _ _ _ _ (entryFrame m ([.ref (ad 0), .int a1] : List Value).toArray 6)
  rw [lg_entry_eq]
  generalize (lg_sl ([.ref (ad 0), .int a1]) ++ List.replicate (6 - (lg_sl ([.ref (ad 0), .int a1])).length) Slot.unset).toArray = ls at hl ⊢
  have hl : lv_has ls 6 [(0, .ref (ad 0)), (1, .int a1)] := hl
  have main : ∀ (H : Heap) (locs : List Loc) (ls : Array Slot), fx_P D cy LX ad σ H → va_S A s.heap H locs → lv_has ls 6 [(0, .ref (ad 0)), (1, .int a1)] → W p l e (fx_R (2)) s m args below meth c H locs 0 0 (fx_Qi D cy LX ad A below args s v σ) (F0 m 0 ls []) := by
    intro H locs ls hP hS hl
    refine lv_aload_n hx hb dX11_rival_0 rfl (lv_at hl 0 rfl) ?_
    obtain ⟨h1, hf⟩ := fxG_e hf
    refine gf_X11_28 (v := .ref (ad (σ.2.2 2))) hC hP kX_0 rfl dX11_rival_1 ?_
    refine lv_iload_n hx hb dX11_rival_4 rfl (lv_at hl 1 rfl) ?_
    obtain ⟨r3, hc2, hf⟩ := fxBP_e hf
    refine fx_ci hC hS (fx_runV (i := (σ.2.2 2)) (As := [.int a1]) (rest := []) hC hP hS (ctX5_hasParty l hc2 D cy ad ec _) h1 (by decide) rfl kMV_X11_129 kC_X5_hasParty hd_X5_hasParty rfl ⟨(Nat.le_of_ble_eq_true rfl), (Nat.le_of_ble_eq_true rfl)⟩ ⟨Nat.le_refl 0, Nat.le_refl 0⟩ hl.1 (Nat.le_of_ble_eq_true rfl) rfl dX11_rival_5) (fun H locs hP hS => ?_)
    refine lv_if_ne (tgt := 13) hx hb dX11_rival_8 (by decide) (fun c5 => ?_) (fun c5 => ?_)
    · replace hf := fx_ie c5 hf
      refine lv_iconst hx hb dX11_rival_13 ki_m1 ?_
      refine lv_istore_n (lv' := [(2, .int (-1)), (0, .ref (ad 0)), (1, .int a1)]) hx hb dX11_rival_14 rfl hl (by decide) rfl (fun ls hl => ?_)
      refine lv_iconst hx hb dX11_rival_15 ki_0 ?_
      refine lv_istore_n (lv' := [(3, .int 0), (2, .int (-1)), (0, .ref (ad 0)), (1, .int a1)]) hx hb dX11_rival_16 rfl hl (by decide) rfl (fun ls hl => ?_)
      refine lv_iconst hx hb dX11_rival_17 ki_0 ?_
      refine lv_istore (lv' := [(4, .int 0), (3, .int 0), (2, .int (-1)), (0, .ref (ad 0)), (1, .int a1)]) hx hb dX11_rival_18 hl (by decide) rfl (fun ls hl => ?_)
      obtain ⟨K6, hK6, hf⟩ := fxL_e hf
      have k_K6 : ∀ (x7 : Int32) (H : Heap) (locs : List Loc) (ls : Array Slot), fx_P D cy LX ad σ H → va_S A s.heap H locs → lv_has ls 6 [(2, .int x7)] → K6 x7 = some v → W p l e (fx_R (2)) s m args below meth c H locs 0 0 (fx_Qi D cy LX ad A below args s v σ) (F0 m 73 ls []) := by
        intro x7 H locs ls hP hS hl hf
        replace hf := fxk1 hK6 hf
        refine lv_iload_n hx hb dX11_rival_73 rfl (lv_at hl 0 rfl) ?_
        exact fx_iretp hf hC hr hk hP hS dX11_rival_74
      have L22 : ∀ (n12 : Nat) (w8 : Int32) (w9 : Int32) (w10 : Int32) (H : Heap) (locs : List Loc) (ls : Array Slot), fx_P D cy LX ad σ H → va_S A s.heap H locs → lv_has ls 6 [(0, .ref (ad 0)), (1, .int a1), (2, .int w8), (3, .int w9), (4, .int w10)] → fX11_rival_20 a1 σ K6 n12 w8 w9 w10 = some v → W p l e (fx_R (2)) s m args below meth c H locs 0 0 (fx_Qi D cy LX ad A below args s v σ) (F0 m 20 ls []) := by
        intro n12
        induction n12 with
        | zero =>
          intro w8 w9 w10 H locs ls hP hS hl hf
          rw [fX11_rival_20] at hf
          cases hf
        | succ n12 ih11 =>
          intro w8 w9 w10 H locs ls hP hS hl hf
          rw [fX11_rival_20] at hf
          refine lv_iload hx hb dX11_rival_20 (lv_at hl 4 rfl) ?_
          refine lv_aload_n hx hb dX11_rival_22 rfl (lv_at hl 0 rfl) ?_
          obtain ⟨h13, hf⟩ := fxG_e hf
          refine gf_X11_28 (v := .ref (ad (σ.2.2 2))) hC hP kX_0 rfl dX11_rival_23 ?_
          refine gf_X11_234 (v := .int (σ.1 (σ.2.2 2) 5)) hC hP h13 rfl dX11_rival_26 ?_
          refine lv_icmp_ge (tgt := 73) hx hb dX11_rival_29 (by decide) (fun c14 => ?_) (fun c14 => ?_)
          · replace hf := fx_it c14 hf
            exact k_K6 w8 _ _ _ hP hS (lv_sub hl [2] rfl) hf
          · replace hf := fx_ie c14 hf
            refine lv_aload_n hx hb dX11_rival_32 rfl (lv_at hl 0 rfl) ?_
            obtain ⟨h15, hf⟩ := fxG_e hf
            refine gf_X11_28 (v := .ref (ad (σ.2.2 2))) hC hP kX_0 rfl dX11_rival_33 ?_
            refine lv_iload_n hx hb dX11_rival_36 rfl (lv_at hl 1 rfl) ?_
            refine lv_iload hx hb dX11_rival_37 (lv_at hl 4 rfl) ?_
            obtain ⟨r17, hc16, hf⟩ := fxBP_e hf
            refine fx_ci hC hS (fx_runV (i := (σ.2.2 2)) (As := [.int a1, .int w10]) (rest := []) hC hP hS (ctX5_agreement l hc16 D cy ad ec _) h15 (by decide) rfl kMV_X11_258 kC_X5_agreement hd_X5_agreement rfl ⟨(Nat.le_of_ble_eq_true rfl), (Nat.le_of_ble_eq_true rfl)⟩ ⟨Nat.le_refl 0, Nat.le_refl 0⟩ hl.1 (Nat.le_of_ble_eq_true rfl) rfl dX11_rival_39) (fun H locs hP hS => ?_)
            refine lv_istore (lv' := [(5, .int r17), (0, .ref (ad 0)), (1, .int a1), (2, .int w8), (3, .int w9), (4, .int w10)]) hx hb dX11_rival_42 hl (by decide) rfl (fun ls hl => ?_)
            refine lv_iload hx hb dX11_rival_44 (lv_at hl 5 rfl) ?_
            refine lv_iload_n hx hb dX11_rival_46 rfl (lv_at hl 2 rfl) ?_
            refine lv_icmp_eq (tgt := 67) hx hb dX11_rival_47 (by decide) (fun c19 => ?_) (fun c19 => ?_)
            · replace hf := fx_it c19 hf
              refine lv_iinc (v := (w10 + 1)) (lv' := [(4, .int (w10 + 1)), (5, .int r17), (0, .ref (ad 0)), (1, .int a1), (2, .int w8), (3, .int w9)]) hx hb dX11_rival_67 hl (k := 5) rfl (congrArg (fun z => w10 + z) ki_1) (by decide) rfl (fun ls hl => ?_)
              refine lv_goto (tgt := 20) hx hb dX11_rival_70 (by decide) ?_
              exact ih11 w8 w9 (w10 + 1) _ _ _ hP hS (lv_sub hl [2, 3, 4, 5, 0] rfl) hf
            · replace hf := fx_ie c19 hf
              refine lv_iload_n hx hb dX11_rival_50 rfl (lv_at hl 3 rfl) ?_
              refine lv_iconst hx hb dX11_rival_51 ki_m1 ?_
              refine lv_icmp_eq (tgt := 61) hx hb dX11_rival_52 (by decide) (fun c20 => ?_) (fun c20 => ?_)
              · replace hf := fx_it c20 hf
                refine lv_iload hx hb dX11_rival_61 (lv_at hl 5 rfl) ?_
                refine lv_istore_n (lv' := [(2, .int w10), (5, .int r17), (0, .ref (ad 0)), (1, .int a1), (3, .int w9), (4, .int w10)]) hx hb dX11_rival_63 rfl hl (by decide) rfl (fun ls hl => ?_)
                refine lv_iload hx hb dX11_rival_64 (lv_at hl 1 rfl) ?_
                refine lv_istore_n (lv' := [(3, .int r17), (2, .int w10), (5, .int r17), (0, .ref (ad 0)), (1, .int a1), (4, .int w10)]) hx hb dX11_rival_66 rfl hl (by decide) rfl (fun ls hl => ?_)
                refine lv_iinc (v := (w10 + 1)) (lv' := [(4, .int (w10 + 1)), (3, .int r17), (2, .int w10), (5, .int r17), (0, .ref (ad 0)), (1, .int a1)]) hx hb dX11_rival_67 hl (k := 5) rfl (congrArg (fun z => w10 + z) ki_1) (by decide) rfl (fun ls hl => ?_)
                refine lv_goto (tgt := 20) hx hb dX11_rival_70 (by decide) ?_
                exact ih11 w10 r17 (w10 + 1) _ _ _ hP hS (lv_sub hl [4, 5, 2, 1, 0] rfl) hf
              · replace hf := fx_ie c20 hf
                refine lv_iload hx hb dX11_rival_55 (lv_at hl 0 rfl) ?_
                refine lv_iload_n hx hb dX11_rival_57 rfl (lv_at hl 4 rfl) ?_
                refine lv_icmp_ge (tgt := 67) hx hb dX11_rival_58 (by decide) (fun c21 => ?_) (fun c21 => ?_)
                · replace hf := fx_it c21 hf
                  refine lv_iinc (v := (w10 + 1)) (lv' := [(4, .int (w10 + 1)), (5, .int r17), (0, .ref (ad 0)), (1, .int a1), (2, .int w8), (3, .int w9)]) hx hb dX11_rival_67 hl (k := 5) rfl (congrArg (fun z => w10 + z) ki_1) (by decide) rfl (fun ls hl => ?_)
                  refine lv_goto (tgt := 20) hx hb dX11_rival_70 (by decide) ?_
                  exact ih11 w8 w9 (w10 + 1) _ _ _ hP hS (lv_sub hl [2, 3, 4, 5, 0] rfl) hf
                · replace hf := fx_ie c21 hf
                  refine lv_iload hx hb dX11_rival_61 (lv_at hl 5 rfl) ?_
                  refine lv_istore_n (lv' := [(2, .int w10), (5, .int r17), (0, .ref (ad 0)), (1, .int a1), (3, .int w9), (4, .int w10)]) hx hb dX11_rival_63 rfl hl (by decide) rfl (fun ls hl => ?_)
                  refine lv_iload hx hb dX11_rival_64 (lv_at hl 1 rfl) ?_
                  refine lv_istore_n (lv' := [(3, .int r17), (2, .int w10), (5, .int r17), (0, .ref (ad 0)), (1, .int a1), (4, .int w10)]) hx hb dX11_rival_66 rfl hl (by decide) rfl (fun ls hl => ?_)
                  refine lv_iinc (v := (w10 + 1)) (lv' := [(4, .int (w10 + 1)), (3, .int r17), (2, .int w10), (5, .int r17), (0, .ref (ad 0)), (1, .int a1)]) hx hb dX11_rival_67 hl (k := 5) rfl (congrArg (fun z => w10 + z) ki_1) (by decide) rfl (fun ls hl => ?_)
                  refine lv_goto (tgt := 20) hx hb dX11_rival_70 (by decide) ?_
                  exact ih11 w10 r17 (w10 + 1) _ _ _ hP hS (lv_sub hl [4, 5, 2, 1, 0] rfl) hf
      exact L22 FU (-1) 0 0 _ _ _ hP hS (lv_sub hl [3, 4, 2, 1, 0] rfl) hf
    · replace hf := fx_it c5 hf
      refine lv_iconst hx hb dX11_rival_11 ki_m1 ?_
      exact fx_iretp hf hC hr hk hP hS dX11_rival_12
  exact main _ _ _ hP hS hl

set_option maxHeartbeats 4000000 in
set_option maxRecDepth 100000 in
theorem ctX11_friends (l : Launch) {σ : FH} {v : Int32} (hf : fX11_friends σ = some v) : fx_Mi l yX11_friends cX11_friends 4 (some .int) (0) LX (fun ad ec => [.ref (ad 0)]) σ v σ := by
  unfold fX11_friends at hf
  refine fx_mi' (own := RX11) rfl (by decide +kernel) ?_
  intro p e s m args below meth c D cy ad ec A hC hr hk hP hS
  have hx := hC.1
  have hb := hC.2.1
  have hl := lv_entry ([.ref (ad 0)]) (n := 4) (Nat.le_of_ble_eq_true rfl)
  show W _ _ _ _ _ _ _ _ _ _ _ _ _ _ _ (entryFrame m ([.ref (ad 0)] : List Value).toArray 4)
  rw [lg_entry_eq]
  generalize (lg_sl ([.ref (ad 0)]) ++ List.replicate (4 - (lg_sl ([.ref (ad 0)])).length) Slot.unset).toArray = ls at hl ⊢
  have hl : lv_has ls 4 [(0, .ref (ad 0))] := hl
  have main : ∀ (H : Heap) (locs : List Loc) (ls : Array Slot), fx_P D cy LX ad σ H → va_S A s.heap H locs → lv_has ls 4 [(0, .ref (ad 0))] → W p l e (fx_R (0)) s m args below meth c H locs 0 0 (fx_Qi D cy LX ad A below args s v σ) (F0 m 0 ls []) := by
    intro H locs ls hP hS hl
    refine lv_iconst hx hb dX11_friends_0 ki_0 ?_
    refine lv_istore_n (lv' := [(1, .int 0), (0, .ref (ad 0))]) hx hb dX11_friends_1 rfl hl (by decide) rfl (fun ls hl => ?_)
    refine lv_iconst hx hb dX11_friends_2 ki_0 ?_
    refine lv_istore_n (lv' := [(2, .int 0), (1, .int 0), (0, .ref (ad 0))]) hx hb dX11_friends_3 rfl hl (by decide) rfl (fun ls hl => ?_)
    obtain ⟨K1, hK1, hf⟩ := fxL_e hf
    have k_K1 : ∀ (x2 : Int32) (H : Heap) (locs : List Loc) (ls : Array Slot), fx_P D cy LX ad σ H → va_S A s.heap H locs → lv_has ls 4 [(1, .int x2)] → K1 x2 = some v → W p l e (fx_R (0)) s m args below meth c H locs 0 0 (fx_Qi D cy LX ad A below args s v σ) (F0 m 66 ls []) := by
      intro x2 H locs ls hP hS hl hf
      replace hf := fxk1 hK1 hf
      refine lv_iload_n hx hb dX11_friends_66 rfl (lv_at hl 0 rfl) ?_
      exact fx_iretp hf hC hr hk hP hS dX11_friends_67
    have L26 : ∀ (n6 : Nat) (w3 : Int32) (w4 : Int32) (H : Heap) (locs : List Loc) (ls : Array Slot), fx_P D cy LX ad σ H → va_S A s.heap H locs → lv_has ls 4 [(0, .ref (ad 0)), (1, .int w3), (2, .int w4)] → fX11_friends_4 σ K1 n6 w3 w4 = some v → W p l e (fx_R (0)) s m args below meth c H locs 0 0 (fx_Qi D cy LX ad A below args s v σ) (F0 m 4 ls []) := by
      intro n6
      induction n6 with
      | zero =>
        intro w3 w4 H locs ls hP hS hl hf
        rw [fX11_friends_4] at hf
        cases hf
      | succ n6 ih5 =>
        intro w3 w4 H locs ls hP hS hl hf
        rw [fX11_friends_4] at hf
        refine lv_iload_n hx hb dX11_friends_4 rfl (lv_at hl 2 rfl) ?_
        refine lv_aload_n hx hb dX11_friends_5 rfl (lv_at hl 0 rfl) ?_
        obtain ⟨h7, hf⟩ := fxG_e hf
        refine gf_X11_28 (v := .ref (ad (σ.2.2 2))) hC hP kX_0 rfl dX11_friends_6 ?_
        refine gf_X11_234 (v := .int (σ.1 (σ.2.2 2) 5)) hC hP h7 rfl dX11_friends_9 ?_
        refine lv_icmp_ge (tgt := 66) hx hb dX11_friends_12 (by decide) (fun c8 => ?_) (fun c8 => ?_)
        · replace hf := fx_it c8 hf
          exact k_K1 w3 _ _ _ hP hS (lv_sub hl [1] rfl) hf
        · replace hf := fx_ie c8 hf
          refine lv_iload_n hx hb dX11_friends_15 rfl (lv_at hl 2 rfl) ?_
          refine lv_iconst hx hb dX11_friends_16 ki_1 ?_
          refine lv_iadd hx hb dX11_friends_17 ?_
          obtain ⟨v9, ev9, hf⟩ := fxL_e hf
          refine fx_ti ev9 ?_
          refine lv_istore_n (lv' := [(3, .int v9), (0, .ref (ad 0)), (1, .int w3), (2, .int w4)]) hx hb dX11_friends_18 rfl hl (by decide) rfl (fun ls hl => ?_)
          obtain ⟨K10, hK10, hf⟩ := fxL_e hf
          have k_K10 : ∀ (x11 : Int32) (H : Heap) (locs : List Loc) (ls : Array Slot), fx_P D cy LX ad σ H → va_S A s.heap H locs → lv_has ls 4 [(0, .ref (ad 0)), (1, .int x11), (2, .int w4)] → K10 x11 = some v → W p l e (fx_R (0)) s m args below meth c H locs 0 0 (fx_Qi D cy LX ad A below args s v σ) (F0 m 60 ls []) := by
            intro x11 H locs ls hP hS hl hf
            replace hf := fxk1 hK10 hf
            refine lv_iinc (v := (w4 + 1)) (lv' := [(2, .int (w4 + 1)), (0, .ref (ad 0)), (1, .int x11)]) hx hb dX11_friends_60 hl (k := 2) rfl (congrArg (fun z => w4 + z) ki_1) (by decide) rfl (fun ls hl => ?_)
            refine lv_goto (tgt := 4) hx hb dX11_friends_63 (by decide) ?_
            exact ih5 x11 (w4 + 1) _ _ _ hP hS (lv_sub hl [1, 2, 0] rfl) hf
          have L25 : ∀ (n15 : Nat) (w12 : Int32) (w13 : Int32) (H : Heap) (locs : List Loc) (ls : Array Slot), fx_P D cy LX ad σ H → va_S A s.heap H locs → lv_has ls 4 [(0, .ref (ad 0)), (1, .int w12), (2, .int w4), (3, .int w13)] → fX11_friends_19 σ w4 K10 n15 w12 w13 = some v → W p l e (fx_R (0)) s m args below meth c H locs 0 0 (fx_Qi D cy LX ad A below args s v σ) (F0 m 19 ls []) := by
            intro n15
            induction n15 with
            | zero =>
              intro w12 w13 H locs ls hP hS hl hf
              rw [fX11_friends_19] at hf
              cases hf
            | succ n15 ih14 =>
              intro w12 w13 H locs ls hP hS hl hf
              rw [fX11_friends_19] at hf
              refine lv_iload_n hx hb dX11_friends_19 rfl (lv_at hl 3 rfl) ?_
              refine lv_aload_n hx hb dX11_friends_20 rfl (lv_at hl 0 rfl) ?_
              obtain ⟨h16, hf⟩ := fxG_e hf
              refine gf_X11_28 (v := .ref (ad (σ.2.2 2))) hC hP kX_0 rfl dX11_friends_21 ?_
              refine gf_X11_234 (v := .int (σ.1 (σ.2.2 2) 5)) hC hP h16 rfl dX11_friends_24 ?_
              refine lv_icmp_ge (tgt := 60) hx hb dX11_friends_27 (by decide) (fun c17 => ?_) (fun c17 => ?_)
              · replace hf := fx_it c17 hf
                exact k_K10 w12 _ _ _ hP hS (lv_sub hl [0, 1, 2] rfl) hf
              · replace hf := fx_ie c17 hf
                refine lv_aload_n hx hb dX11_friends_30 rfl (lv_at hl 0 rfl) ?_
                obtain ⟨h18, hf⟩ := fxG_e hf
                refine gf_X11_28 (v := .ref (ad (σ.2.2 2))) hC hP kX_0 rfl dX11_friends_31 ?_
                refine gf_X11_135 (v := .ref (ad ((σ.2.2 2) + 7))) hC hP h18 rfl dX11_friends_34 ?_
                refine lv_iload_n hx hb dX11_friends_37 rfl (lv_at hl 2 rfl) ?_
                obtain ⟨h19, hf⟩ := fxG_e hf
                refine fx_iald hC hP (lyX_5_8 h18) (fx_inp h19) dX11_friends_38 ?_
                refine lv_aload_n hx hb dX11_friends_39 rfl (lv_at hl 0 rfl) ?_
                obtain ⟨h20, hf⟩ := fxG_e hf
                refine gf_X11_28 (v := .ref (ad (σ.2.2 2))) hC hP kX_0 rfl dX11_friends_40 ?_
                refine gf_X11_135 (v := .ref (ad ((σ.2.2 2) + 7))) hC hP h20 rfl dX11_friends_43 ?_
                refine lv_iload_n hx hb dX11_friends_46 rfl (lv_at hl 3 rfl) ?_
                obtain ⟨h21, hf⟩ := fxG_e hf
                refine fx_iald hC hP (lyX_5_8 h20) (fx_inp h21) dX11_friends_47 ?_
                obtain ⟨v22, ev22, hf⟩ := fxL_e hf
                have j_v22 : ∀ (z23 : Int32), z23 = ((if (σ.1 ((σ.2.2 2) + 7) (Int32.toNatClampNeg w4)) = (σ.1 ((σ.2.2 2) + 7) (Int32.toNatClampNeg w13)) then (w12 + 1) else w12) : Int32) → ∀ (ls : Array Slot), lv_has ls 4 [(0, .ref (ad 0)), (1, .int z23), (2, .int w4), (3, .int w13)] → W p l e (fx_R (0)) s m args below meth c H locs 0 0 (fx_Qi D cy LX ad A below args s v σ) (F0 m 54 ls []) := by
                  intro z23 hz23 ls hl
                  obtain rfl : v22 = z23 := ev22.trans hz23.symm
                  refine lv_iinc (v := (w13 + 1)) (lv' := [(3, .int (w13 + 1)), (0, .ref (ad 0)), (1, .int v22), (2, .int w4)]) hx hb dX11_friends_54 hl (k := 3) rfl (congrArg (fun z => w13 + z) ki_1) (by decide) rfl (fun ls hl => ?_)
                  refine lv_goto (tgt := 19) hx hb dX11_friends_57 (by decide) ?_
                  exact ih14 v22 (w13 + 1) _ _ _ hP hS (lv_sub hl [1, 2, 3, 0] rfl) hf
                refine lv_icmp_ne (tgt := 54) hx hb dX11_friends_48 (by decide) (fun c24 => ?_) (fun c24 => ?_)
                · exact j_v22 w12 (if_neg c24).symm ls (lv_sub hl [0, 1, 2, 3] rfl)
                · refine lv_iinc (v := (w12 + 1)) (lv' := [(1, .int (w12 + 1)), (0, .ref (ad 0)), (2, .int w4), (3, .int w13)]) hx hb dX11_friends_51 hl (k := 1) rfl (congrArg (fun z => w12 + z) ki_1) (by decide) rfl (fun ls hl => ?_)
                  exact j_v22 (w12 + 1) (if_pos c24).symm ls (lv_sub hl [1, 0, 2, 3] rfl)
          exact L25 FU w3 v9 _ _ _ hP hS (lv_sub hl [1, 2, 3, 0] rfl) hf
    exact L26 FU 0 0 _ _ _ hP hS (lv_sub hl [2, 1, 0] rfl) hf
  exact main _ _ _ hP hS hl

set_option maxHeartbeats 4000000 in
set_option maxRecDepth 100000 in
theorem ctX11_bloc (l : Launch) {a1 : Int32} {σ : FH} {v : Int32} (hf : fX11_bloc a1 σ = some v) : fx_Mi l yX11_bloc cX11_bloc 4 (some .int) (1) LX (fun ad ec => [.ref (ad 0), .int a1]) σ v σ := by
  unfold fX11_bloc at hf
  refine fx_mi' (own := RX11) rfl (by decide +kernel) ?_
  intro p e s m args below meth c D cy ad ec A hC hr hk hP hS
  have hx := hC.1
  have hb := hC.2.1
  have hl := lv_entry ([.ref (ad 0), .int a1]) (n := 4) (Nat.le_of_ble_eq_true rfl)
  show W _ _ _ _ _ _ _ _ _ _ _ _ _ _ _ (entryFrame m ([.ref (ad 0), .int a1] : List Value).toArray 4)
  rw [lg_entry_eq]
  generalize (lg_sl ([.ref (ad 0), .int a1]) ++ List.replicate (4 - (lg_sl ([.ref (ad 0), .int a1])).length) Slot.unset).toArray = ls at hl ⊢
  have hl : lv_has ls 4 [(0, .ref (ad 0)), (1, .int a1)] := hl
  have main : ∀ (H : Heap) (locs : List Loc) (ls : Array Slot), fx_P D cy LX ad σ H → va_S A s.heap H locs → lv_has ls 4 [(0, .ref (ad 0)), (1, .int a1)] → W p l e (fx_R (1)) s m args below meth c H locs 0 0 (fx_Qi D cy LX ad A below args s v σ) (F0 m 0 ls []) := by
    intro H locs ls hP hS hl
    refine lv_aload_n hx hb dX11_bloc_0 rfl (lv_at hl 0 rfl) ?_
    obtain ⟨h1, hf⟩ := fxG_e hf
    refine gf_X11_28 (v := .ref (ad (σ.2.2 2))) hC hP kX_0 rfl dX11_bloc_1 ?_
    refine lv_iload_n hx hb dX11_bloc_4 rfl (lv_at hl 1 rfl) ?_
    obtain ⟨r3, hc2, hf⟩ := fxBP_e hf
    refine fx_ci hC hS (fx_runV (i := (σ.2.2 2)) (As := [.int a1]) (rest := []) hC hP hS (ctX5_hasWare l hc2 D cy ad ec _) h1 (by decide) rfl kMV_X11_99 kC_X5_hasWare hd_X5_hasWare rfl ⟨(Nat.le_of_ble_eq_true rfl), (Nat.le_of_ble_eq_true rfl)⟩ ⟨Nat.le_refl 0, Nat.le_refl 0⟩ hl.1 (Nat.le_of_ble_eq_true rfl) rfl dX11_bloc_5) (fun H locs hP hS => ?_)
    refine lv_if_ne (tgt := 13) hx hb dX11_bloc_8 (by decide) (fun c5 => ?_) (fun c5 => ?_)
    · replace hf := fx_ie c5 hf
      refine lv_iconst hx hb dX11_bloc_13 ki_0 ?_
      refine lv_istore_n (lv' := [(2, .int 0), (0, .ref (ad 0)), (1, .int a1)]) hx hb dX11_bloc_14 rfl hl (by decide) rfl (fun ls hl => ?_)
      refine lv_iconst hx hb dX11_bloc_15 ki_0 ?_
      refine lv_istore_n (lv' := [(3, .int 0), (2, .int 0), (0, .ref (ad 0)), (1, .int a1)]) hx hb dX11_bloc_16 rfl hl (by decide) rfl (fun ls hl => ?_)
      obtain ⟨K6, hK6, hf⟩ := fxL_e hf
      have k_K6 : ∀ (x7 : Int32) (H : Heap) (locs : List Loc) (ls : Array Slot), fx_P D cy LX ad σ H → va_S A s.heap H locs → lv_has ls 4 [(2, .int x7)] → K6 x7 = some v → W p l e (fx_R (1)) s m args below meth c H locs 0 0 (fx_Qi D cy LX ad A below args s v σ) (F0 m 52 ls []) := by
        intro x7 H locs ls hP hS hl hf
        replace hf := fxk1 hK6 hf
        refine lv_iload_n hx hb dX11_bloc_52 rfl (lv_at hl 0 rfl) ?_
        exact fx_iretp hf hC hr hk hP hS dX11_bloc_53
      have L21 : ∀ (n11 : Nat) (w8 : Int32) (w9 : Int32) (H : Heap) (locs : List Loc) (ls : Array Slot), fx_P D cy LX ad σ H → va_S A s.heap H locs → lv_has ls 4 [(0, .ref (ad 0)), (1, .int a1), (2, .int w8), (3, .int w9)] → fX11_bloc_17 a1 σ K6 n11 w8 w9 = some v → W p l e (fx_R (1)) s m args below meth c H locs 0 0 (fx_Qi D cy LX ad A below args s v σ) (F0 m 17 ls []) := by
        intro n11
        induction n11 with
        | zero =>
          intro w8 w9 H locs ls hP hS hl hf
          rw [fX11_bloc_17] at hf
          cases hf
        | succ n11 ih10 =>
          intro w8 w9 H locs ls hP hS hl hf
          rw [fX11_bloc_17] at hf
          refine lv_iload_n hx hb dX11_bloc_17 rfl (lv_at hl 3 rfl) ?_
          refine lv_aload_n hx hb dX11_bloc_18 rfl (lv_at hl 0 rfl) ?_
          obtain ⟨h12, hf⟩ := fxG_e hf
          refine gf_X11_28 (v := .ref (ad (σ.2.2 2))) hC hP kX_0 rfl dX11_bloc_19 ?_
          refine gf_X11_234 (v := .int (σ.1 (σ.2.2 2) 5)) hC hP h12 rfl dX11_bloc_22 ?_
          refine lv_icmp_ge (tgt := 52) hx hb dX11_bloc_25 (by decide) (fun c13 => ?_) (fun c13 => ?_)
          · replace hf := fx_it c13 hf
            exact k_K6 w8 _ _ _ hP hS (lv_sub hl [2] rfl) hf
          · replace hf := fx_ie c13 hf
            refine lv_aload_n hx hb dX11_bloc_28 rfl (lv_at hl 0 rfl) ?_
            obtain ⟨h14, hf⟩ := fxG_e hf
            refine gf_X11_28 (v := .ref (ad (σ.2.2 2))) hC hP kX_0 rfl dX11_bloc_29 ?_
            refine lv_iload_n hx hb dX11_bloc_32 rfl (lv_at hl 3 rfl) ?_
            refine lv_iload_n hx hb dX11_bloc_33 rfl (lv_at hl 1 rfl) ?_
            obtain ⟨r16, hc15, hf⟩ := fxBP_e hf
            refine fx_ci hC hS (fx_runV (i := (σ.2.2 2)) (As := [.int w9, .int a1]) (rest := []) hC hP hS (ctX5_isFor l hc15 D cy ad ec _) h14 (by decide) rfl kMV_X11_261 kC_X5_isFor hd_X5_isFor rfl ⟨(Nat.le_of_ble_eq_true rfl), (Nat.le_of_ble_eq_true rfl)⟩ ⟨Nat.le_refl 0, Nat.le_refl 0⟩ hl.1 (Nat.le_of_ble_eq_true rfl) rfl dX11_bloc_34) (fun H locs hP hS => ?_)
            obtain ⟨v18, ev18, hf⟩ := fxL_e hf
            have j_v18 : ∀ (z19 : Int32), z19 = ((if r16 = 0 then w8 else (w8 ||| (1 <<< (w9 &&& 31)))) : Int32) → ∀ (ls : Array Slot), lv_has ls 4 [(0, .ref (ad 0)), (1, .int a1), (2, .int z19), (3, .int w9)] → W p l e (fx_R (1)) s m args below meth c H locs 0 0 (fx_Qi D cy LX ad A below args s v σ) (F0 m 46 ls []) := by
              intro z19 hz19 ls hl
              obtain rfl : v18 = z19 := ev18.trans hz19.symm
              refine lv_iinc (v := (w9 + 1)) (lv' := [(3, .int (w9 + 1)), (0, .ref (ad 0)), (1, .int a1), (2, .int v18)]) hx hb dX11_bloc_46 hl (k := 3) rfl (congrArg (fun z => w9 + z) ki_1) (by decide) rfl (fun ls hl => ?_)
              refine lv_goto (tgt := 17) hx hb dX11_bloc_49 (by decide) ?_
              exact ih10 v18 (w9 + 1) _ _ _ hP hS (lv_sub hl [1, 2, 3, 0] rfl) hf
            refine lv_if_eq (tgt := 46) hx hb dX11_bloc_37 (by decide) (fun c20 => ?_) (fun c20 => ?_)
            · exact j_v18 w8 (if_pos c20).symm ls (lv_sub hl [0, 1, 2, 3] rfl)
            · refine lv_iload_n hx hb dX11_bloc_40 rfl (lv_at hl 2 rfl) ?_
              refine lv_iconst hx hb dX11_bloc_41 ki_1 ?_
              refine lv_iload_n hx hb dX11_bloc_42 rfl (lv_at hl 3 rfl) ?_
              refine lv_ishl hx hb dX11_bloc_43 ?_
              refine lv_ior hx hb dX11_bloc_44 ?_
              refine lv_istore_n (lv' := [(2, .int (w8 ||| (1 <<< (w9 &&& 31)))), (0, .ref (ad 0)), (1, .int a1), (3, .int w9)]) hx hb dX11_bloc_45 rfl hl (by decide) rfl (fun ls hl => ?_)
              exact j_v18 (w8 ||| (1 <<< (w9 &&& 31))) (if_neg c20).symm ls (lv_sub hl [1, 2, 0, 3] rfl)
      exact L21 FU 0 0 _ _ _ hP hS (lv_sub hl [2, 3, 1, 0] rfl) hf
    · replace hf := fx_it c5 hf
      refine lv_iconst hx hb dX11_bloc_11 ki_m1 ?_
      exact fx_iretp hf hC hr hk hP hS dX11_bloc_12
  exact main _ _ _ hP hS hl

set_option maxHeartbeats 4000000 in
set_option maxRecDepth 100000 in
theorem ctX11_orphans (l : Launch) {σ : FH} {v : Int32} (hf : fX11_orphans σ = some v) : fx_Mi l yX11_orphans cX11_orphans 3 (some .int) (2) LX (fun ad ec => [.ref (ad 0)]) σ v σ := by
  unfold fX11_orphans at hf
  refine fx_mi' (own := RX11) rfl (by decide +kernel) ?_
  intro p e s m args below meth c D cy ad ec A hC hr hk hP hS
  have hx := hC.1
  have hb := hC.2.1
  have hl := lv_entry ([.ref (ad 0)]) (n := 3) (Nat.le_of_ble_eq_true rfl)
  show W _ _ _ _ _ _ _ _ _ _ _ _ _ _ _ (entryFrame m ([.ref (ad 0)] : List Value).toArray 3)
  rw [lg_entry_eq]
  generalize (lg_sl ([.ref (ad 0)]) ++ List.replicate (3 - (lg_sl ([.ref (ad 0)])).length) Slot.unset).toArray = ls at hl ⊢
  have hl : lv_has ls 3 [(0, .ref (ad 0))] := hl
  have main : ∀ (H : Heap) (locs : List Loc) (ls : Array Slot), fx_P D cy LX ad σ H → va_S A s.heap H locs → lv_has ls 3 [(0, .ref (ad 0))] → W p l e (fx_R (2)) s m args below meth c H locs 0 0 (fx_Qi D cy LX ad A below args s v σ) (F0 m 0 ls []) := by
    intro H locs ls hP hS hl
    refine lv_iconst hx hb dX11_orphans_0 ki_0 ?_
    refine lv_istore_n (lv' := [(1, .int 0), (0, .ref (ad 0))]) hx hb dX11_orphans_1 rfl hl (by decide) rfl (fun ls hl => ?_)
    refine lv_iconst hx hb dX11_orphans_2 ki_0 ?_
    refine lv_istore_n (lv' := [(2, .int 0), (1, .int 0), (0, .ref (ad 0))]) hx hb dX11_orphans_3 rfl hl (by decide) rfl (fun ls hl => ?_)
    obtain ⟨K1, hK1, hf⟩ := fxL_e hf
    have k_K1 : ∀ (x2 : Int32) (H : Heap) (locs : List Loc) (ls : Array Slot), fx_P D cy LX ad σ H → va_S A s.heap H locs → lv_has ls 3 [(1, .int x2)] → K1 x2 = some v → W p l e (fx_R (2)) s m args below meth c H locs 0 0 (fx_Qi D cy LX ad A below args s v σ) (F0 m 42 ls []) := by
      intro x2 H locs ls hP hS hl hf
      replace hf := fxk1 hK1 hf
      refine lv_iload_n hx hb dX11_orphans_42 rfl (lv_at hl 0 rfl) ?_
      exact fx_iretp hf hC hr hk hP hS dX11_orphans_43
    have L16 : ∀ (n6 : Nat) (w3 : Int32) (w4 : Int32) (H : Heap) (locs : List Loc) (ls : Array Slot), fx_P D cy LX ad σ H → va_S A s.heap H locs → lv_has ls 3 [(0, .ref (ad 0)), (1, .int w3), (2, .int w4)] → fX11_orphans_4 σ K1 n6 w3 w4 = some v → W p l e (fx_R (2)) s m args below meth c H locs 0 0 (fx_Qi D cy LX ad A below args s v σ) (F0 m 4 ls []) := by
      intro n6
      induction n6 with
      | zero =>
        intro w3 w4 H locs ls hP hS hl hf
        rw [fX11_orphans_4] at hf
        cases hf
      | succ n6 ih5 =>
        intro w3 w4 H locs ls hP hS hl hf
        rw [fX11_orphans_4] at hf
        refine lv_iload_n hx hb dX11_orphans_4 rfl (lv_at hl 2 rfl) ?_
        refine lv_aload_n hx hb dX11_orphans_5 rfl (lv_at hl 0 rfl) ?_
        obtain ⟨h7, hf⟩ := fxG_e hf
        refine gf_X11_28 (v := .ref (ad (σ.2.2 2))) hC hP kX_0 rfl dX11_orphans_6 ?_
        refine gf_X11_217 (v := .int (σ.1 (σ.2.2 2) 0)) hC hP h7 rfl dX11_orphans_9 ?_
        refine lv_icmp_ge (tgt := 42) hx hb dX11_orphans_12 (by decide) (fun c8 => ?_) (fun c8 => ?_)
        · replace hf := fx_it c8 hf
          exact k_K1 w3 _ _ _ hP hS (lv_sub hl [1] rfl) hf
        · replace hf := fx_ie c8 hf
          refine lv_aload_n hx hb dX11_orphans_15 rfl (lv_at hl 0 rfl) ?_
          refine gf_X11_48 (v := .ref (ad 7)) hC hP kX_0 rfl dX11_orphans_16 ?_
          refine lv_aload_n hx hb dX11_orphans_19 rfl (lv_at hl 0 rfl) ?_
          obtain ⟨h9, hf⟩ := fxG_e hf
          refine gf_X11_28 (v := .ref (ad (σ.2.2 2))) hC hP kX_0 rfl dX11_orphans_20 ?_
          refine lv_iload_n hx hb dX11_orphans_23 rfl (lv_at hl 2 rfl) ?_
          obtain ⟨r11, hc10, hf⟩ := fxBP_e hf
          refine fx_ci hC hS (fx_runV (i := 7) (As := [.ref (ad (σ.2.2 2)), .int w4]) (rest := []) hC hP hS (ctX7_votesFor l hc10 D cy ad ec _) kX_7 (by decide) rfl kMV_X11_117 kC_X7_votesFor hd_X7_votesFor rfl ⟨(Nat.le_of_ble_eq_true rfl), (Nat.le_of_ble_eq_true rfl)⟩ ⟨Nat.le_refl 0, Nat.le_refl 0⟩ hl.1 (Nat.le_of_ble_eq_true rfl) rfl dX11_orphans_24) (fun H locs hP hS => ?_)
          obtain ⟨v13, ev13, hf⟩ := fxL_e hf
          have j_v13 : ∀ (z14 : Int32), z14 = ((if r11 = 0 then (w3 ||| (1 <<< (w4 &&& 31))) else w3) : Int32) → ∀ (ls : Array Slot), lv_has ls 3 [(0, .ref (ad 0)), (1, .int z14), (2, .int w4)] → W p l e (fx_R (2)) s m args below meth c H locs 0 0 (fx_Qi D cy LX ad A below args s v σ) (F0 m 36 ls []) := by
            intro z14 hz14 ls hl
            obtain rfl : v13 = z14 := ev13.trans hz14.symm
            refine lv_iinc (v := (w4 + 1)) (lv' := [(2, .int (w4 + 1)), (0, .ref (ad 0)), (1, .int v13)]) hx hb dX11_orphans_36 hl (k := 2) rfl (congrArg (fun z => w4 + z) ki_1) (by decide) rfl (fun ls hl => ?_)
            refine lv_goto (tgt := 4) hx hb dX11_orphans_39 (by decide) ?_
            exact ih5 v13 (w4 + 1) _ _ _ hP hS (lv_sub hl [1, 2, 0] rfl) hf
          refine lv_if_ne (tgt := 36) hx hb dX11_orphans_27 (by decide) (fun c15 => ?_) (fun c15 => ?_)
          · exact j_v13 w3 (if_neg c15).symm ls (lv_sub hl [0, 1, 2] rfl)
          · refine lv_iload_n hx hb dX11_orphans_30 rfl (lv_at hl 1 rfl) ?_
            refine lv_iconst hx hb dX11_orphans_31 ki_1 ?_
            refine lv_iload_n hx hb dX11_orphans_32 rfl (lv_at hl 2 rfl) ?_
            refine lv_ishl hx hb dX11_orphans_33 ?_
            refine lv_ior hx hb dX11_orphans_34 ?_
            refine lv_istore_n (lv' := [(1, .int (w3 ||| (1 <<< (w4 &&& 31)))), (0, .ref (ad 0)), (2, .int w4)]) hx hb dX11_orphans_35 rfl hl (by decide) rfl (fun ls hl => ?_)
            exact j_v13 (w3 ||| (1 <<< (w4 &&& 31))) (if_pos c15).symm ls (lv_sub hl [1, 0, 2] rfl)
    exact L16 FU 0 0 _ _ _ hP hS (lv_sub hl [2, 1, 0] rfl) hf
  exact main _ _ _ hP hS hl

set_option maxHeartbeats 4000000 in
set_option maxRecDepth 100000 in
theorem ctX11_say (l : Launch) {a1 : Int32} {a2 : Int32} {σ σ' : FH} {v : Int32} (hf : fX11_say a1 a2 σ = some (v, σ')) : fx_Mi l yX11_say cX11_say 3 (some .boolean) (1) LX (fun ad ec => [.ref (ad 0), .int a1, .int a2]) σ v σ' := by
  unfold fX11_say at hf
  refine fx_mi' (own := RX11) rfl (by decide +kernel) ?_
  intro p e s m args below meth c D cy ad ec A hC hr hk hP hS
  have hx := hC.1
  have hb := hC.2.1
  have hl := lv_entry ([.ref (ad 0), .int a1, .int a2]) (n := 3) (Nat.le_of_ble_eq_true rfl)
  show W _ _ _ _ _ _ _ _ _ _ _ _ _ _ _ (entryFrame m ([.ref (ad 0), .int a1, .int a2] : List Value).toArray 3)
  rw [lg_entry_eq]
  generalize (lg_sl ([.ref (ad 0), .int a1, .int a2]) ++ List.replicate (3 - (lg_sl ([.ref (ad 0), .int a1, .int a2])).length) Slot.unset).toArray = ls at hl ⊢
  have hl : lv_has ls 3 [(0, .ref (ad 0)), (1, .int a1), (2, .int a2)] := hl
  have main : ∀ (H : Heap) (locs : List Loc) (ls : Array Slot), fx_P D cy LX ad σ H → va_S A s.heap H locs → lv_has ls 3 [(0, .ref (ad 0)), (1, .int a1), (2, .int a2)] → W p l e (fx_R (1)) s m args below meth c H locs 0 0 (fx_Qi D cy LX ad A below args s v σ') (F0 m 0 ls []) := by
    intro H locs ls hP hS hl
    refine lv_iload_n hx hb dX11_say_0 rfl (lv_at hl 1 rfl) ?_
    refine lv_if_lt (tgt := 10) hx hb dX11_say_1 (by decide) (fun c1 => ?_) (fun c1 => ?_)
    · replace hf := fx_it c1 hf
      refine lv_iconst hx hb dX11_say_10 ki_0 ?_
      exact fx_zretf rfl hf hC hr hk hP hS dX11_say_11
    · replace hf := fx_ie c1 hf
      refine lv_iload_n hx hb dX11_say_4 rfl (lv_at hl 1 rfl) ?_
      refine lv_bipush hx hb dX11_say_5 kb_30 ?_
      refine lv_icmp_le (tgt := 12) hx hb dX11_say_7 (by decide) (fun c2 => ?_) (fun c2 => ?_)
      · replace hf := fx_it c2 hf
        refine lv_aload_n hx hb dX11_say_12 rfl (lv_at hl 0 rfl) ?_
        refine gf_X11_58 (v := .ref (ad 13)) hC hP kX_0 rfl dX11_say_13 ?_
        refine lv_iload_n hx hb dX11_say_16 rfl (lv_at hl 1 rfl) ?_
        refine lv_iload_n hx hb dX11_say_17 rfl (lv_at hl 2 rfl) ?_
        obtain ⟨r4, σ5, hc3, hf⟩ := fxBI_e hf
        refine fx_ci hC hS (fx_runV (i := 13) (As := [.int a1, .int a2]) (rest := []) hC hP hS (ctX6_put l hc3 D cy ad ec _) kX_13 (by decide) rfl kMV_X11_264 kC_X6_put hd_X6_put rfl ⟨(Nat.le_of_ble_eq_true rfl), (Nat.le_of_ble_eq_true rfl)⟩ ⟨Nat.le_refl 0, Nat.le_refl 0⟩ hl.1 (Nat.le_of_ble_eq_true rfl) rfl dX11_say_18) (fun H locs hP hS => ?_)
        obtain ⟨h6, hf⟩ := fxG_e hf
        exact fx_zretf (fx_bon h6) hf hC hr hk hP hS dX11_say_21
      · replace hf := fx_ie c2 hf
        refine lv_iconst hx hb dX11_say_10 ki_0 ?_
        exact fx_zretf rfl hf hC hr hk hP hS dX11_say_11
  exact main _ _ _ hP hS hl

set_option maxHeartbeats 4000000 in
set_option maxRecDepth 100000 in
theorem ctX11_wholes (l : Launch) {a1 : Int32} {σ σ' : FH} {v : Int32} (hf : fX11_wholes a1 σ = some (v, σ')) : fx_Mi l yX11_wholes cX11_wholes 6 (some .int) (6) LX (fun ad ec => [.ref (ad 0), .int a1]) σ v σ' := by
  unfold fX11_wholes at hf
  refine fx_mi' (own := RX11) rfl (by decide +kernel) ?_
  intro p e s m args below meth c D cy ad ec A hC hr hk hP hS
  have hx := hC.1
  have hb := hC.2.1
  have hl := lv_entry ([.ref (ad 0), .int a1]) (n := 6) (Nat.le_of_ble_eq_true rfl)
  show W _ _ _ _ _ _ _ _ _ _ _ _ _ _ _ (entryFrame m ([.ref (ad 0), .int a1] : List Value).toArray 6)
  rw [lg_entry_eq]
  generalize (lg_sl ([.ref (ad 0), .int a1]) ++ List.replicate (6 - (lg_sl ([.ref (ad 0), .int a1])).length) Slot.unset).toArray = ls at hl ⊢
  have hl : lv_has ls 6 [(0, .ref (ad 0)), (1, .int a1)] := hl
  have main : ∀ (H : Heap) (locs : List Loc) (ls : Array Slot), fx_P D cy LX ad σ H → va_S A s.heap H locs → lv_has ls 6 [(0, .ref (ad 0)), (1, .int a1)] → W p l e (fx_R (6)) s m args below meth c H locs 0 0 (fx_Qi D cy LX ad A below args s v σ') (F0 m 0 ls []) := by
    intro H locs ls hP hS hl
    refine lv_iload_n hx hb dX11_wholes_0 rfl (lv_at hl 1 rfl) ?_
    refine lv_if_lt (tgt := 9) hx hb dX11_wholes_1 (by decide) (fun c1 => ?_) (fun c1 => ?_)
    · replace hf := fx_it c1 hf
      refine lv_iconst hx hb dX11_wholes_9 ki_m1 ?_
      exact fx_iretf hf hC hr hk hP hS dX11_wholes_10
    · replace hf := fx_ie c1 hf
      refine lv_iload_n hx hb dX11_wholes_4 rfl (lv_at hl 1 rfl) ?_
      refine lv_iconst hx hb dX11_wholes_5 ki_2 ?_
      refine lv_icmp_le (tgt := 11) hx hb dX11_wholes_6 (by decide) (fun c2 => ?_) (fun c2 => ?_)
      · replace hf := fx_it c2 hf
        refine lv_aload_n hx hb dX11_wholes_11 rfl (lv_at hl 0 rfl) ?_
        refine gf_X11_58 (v := .ref (ad 13)) hC hP kX_0 rfl dX11_wholes_12 ?_
        refine lv_aload_n hx hb dX11_wholes_15 rfl (lv_at hl 0 rfl) ?_
        obtain ⟨h3, hf⟩ := fxG_e hf
        refine gf_X11_28 (v := .ref (ad (σ.2.2 2))) hC hP kX_0 rfl dX11_wholes_16 ?_
        refine lv_aload_n hx hb dX11_wholes_19 rfl (lv_at hl 0 rfl) ?_
        refine gf_X11_48 (v := .ref (ad 7)) hC hP kX_0 rfl dX11_wholes_20 ?_
        refine gf_X11_203 (v := .int (σ.1 7 2)) hC hP kX_7 rfl dX11_wholes_23 ?_
        obtain ⟨σ6, hc4, hf⟩ := fxBV_e hf
        refine fx_cv hC hS (fx_runV (i := 13) (As := [.ref (ad (σ.2.2 2)), .int (σ.1 7 2)]) (rest := []) hC hP hS (ctX6_lookAhead l hc4 D cy ad ec _) kX_13 (by decide) rfl kMV_X11_268 kC_X6_lookAhead hd_X6_lookAhead rfl ⟨(Nat.le_of_ble_eq_true rfl), (Nat.le_of_ble_eq_true rfl)⟩ ⟨Nat.le_refl 0, Nat.le_refl 0⟩ hl.1 (Nat.le_of_ble_eq_true rfl) rfl dX11_wholes_26) (fun H locs hP hS => ?_)
        refine lv_iconst hx hb dX11_wholes_29 ki_0 ?_
        refine lv_istore_n (lv' := [(2, .int 0), (0, .ref (ad 0)), (1, .int a1)]) hx hb dX11_wholes_30 rfl hl (by decide) rfl (fun ls hl => ?_)
        refine lv_iconst hx hb dX11_wholes_31 ki_m1 ?_
        refine lv_istore_n (lv' := [(3, .int (-1)), (2, .int 0), (0, .ref (ad 0)), (1, .int a1)]) hx hb dX11_wholes_32 rfl hl (by decide) rfl (fun ls hl => ?_)
        refine lv_iconst hx hb dX11_wholes_33 ki_m1 ?_
        refine lv_istore (lv' := [(4, .int (-1)), (3, .int (-1)), (2, .int 0), (0, .ref (ad 0)), (1, .int a1)]) hx hb dX11_wholes_34 hl (by decide) rfl (fun ls hl => ?_)
        refine lv_iconst hx hb dX11_wholes_36 ki_2 ?_
        refine lv_istore (lv' := [(5, .int 2), (4, .int (-1)), (3, .int (-1)), (2, .int 0), (0, .ref (ad 0)), (1, .int a1)]) hx hb dX11_wholes_37 hl (by decide) rfl (fun ls hl => ?_)
        obtain ⟨K7, hK7, hf⟩ := fxL_e hf
        have k_K7 : ∀ (x8 : Int32) (x9 : Int32) (x10 : Int32) (H : Heap) (locs : List Loc) (ls : Array Slot), fx_P D cy LX ad σ6 H → va_S A s.heap H locs → lv_has ls 6 [(1, .int a1), (2, .int x8), (3, .int x9), (4, .int x10)] → K7 x8 x9 x10 = some (v, σ') → W p l e (fx_R (6)) s m args below meth c H locs 0 0 (fx_Qi D cy LX ad A below args s v σ') (F0 m 85 ls []) := by
          intro x8 x9 x10 H locs ls hP hS hl hf
          replace hf := fxk3 hK7 hf
          refine lv_iload_n hx hb dX11_wholes_85 rfl (lv_at hl 0 rfl) ?_
          obtain ⟨v11, ev11, hf⟩ := fxL_e hf
          have j_v11 : ∀ (z12 : Int32), z12 = ((if a1 = 0 then x8 else (if a1 = 1 then x9 else x10)) : Int32) → ∀ (ls : Array Slot), lv_has ls 6 [] → W p l e (fx_R (6)) s m args below meth c H locs 0 0 (fx_Qi D cy LX ad A below args s v σ') (F0 m 104 ls [.int z12]) := by
            intro z12 hz12 ls hl
            obtain rfl : v11 = z12 := ev11.trans hz12.symm
            exact fx_iretf hf hC hr hk hP hS dX11_wholes_104
          refine lv_if_ne (tgt := 93) hx hb dX11_wholes_86 (by decide) (fun c13 => ?_) (fun c13 => ?_)
          · refine lv_iload_n hx hb dX11_wholes_93 rfl (lv_at hl 0 rfl) ?_
            refine lv_iconst hx hb dX11_wholes_94 ki_1 ?_
            refine lv_icmp_ne (tgt := 102) hx hb dX11_wholes_95 (by decide) (fun c14 => ?_) (fun c14 => ?_)
            · refine lv_iload hx hb dX11_wholes_102 (lv_at hl 3 rfl) ?_
              exact j_v11 x10 ((if_neg c13).trans (if_neg c14)).symm ls (lv_sub hl [] rfl)
            · refine lv_iload_n hx hb dX11_wholes_98 rfl (lv_at hl 2 rfl) ?_
              refine lv_goto (tgt := 104) hx hb dX11_wholes_99 (by decide) ?_
              exact j_v11 x9 ((if_neg c13).trans (if_pos c14)).symm ls (lv_sub hl [] rfl)
          · refine lv_iload_n hx hb dX11_wholes_89 rfl (lv_at hl 1 rfl) ?_
            refine lv_goto (tgt := 104) hx hb dX11_wholes_90 (by decide) ?_
            exact j_v11 x8 (if_pos c13).symm ls (lv_sub hl [] rfl)
        have L29 : ∀ (n20 : Nat) (w15 : Int32) (w16 : Int32) (w17 : Int32) (w18 : Int32) (H : Heap) (locs : List Loc) (ls : Array Slot), fx_P D cy LX ad σ6 H → va_S A s.heap H locs → lv_has ls 6 [(0, .ref (ad 0)), (1, .int a1), (2, .int w15), (3, .int w16), (4, .int w17), (5, .int w18)] → fX11_wholes_39 σ6 K7 n20 w15 w16 w17 w18 = some (v, σ') → W p l e (fx_R (6)) s m args below meth c H locs 0 0 (fx_Qi D cy LX ad A below args s v σ') (F0 m 39 ls []) := by
          intro n20
          induction n20 with
          | zero =>
            intro w15 w16 w17 w18 H locs ls hP hS hl hf
            rw [fX11_wholes_39] at hf
            cases hf
          | succ n20 ih19 =>
            intro w15 w16 w17 w18 H locs ls hP hS hl hf
            rw [fX11_wholes_39] at hf
            refine lv_iload hx hb dX11_wholes_39 (lv_at hl 5 rfl) ?_
            refine lv_bipush hx hb dX11_wholes_41 kb_60 ?_
            refine lv_icmp_gt (tgt := 85) hx hb dX11_wholes_43 (by decide) (fun c21 => ?_) (fun c21 => ?_)
            · replace hf := fx_it c21 hf
              exact k_K7 w15 w16 w17 _ _ _ hP hS (lv_sub hl [1, 2, 3, 4] rfl) hf
            · replace hf := fx_ie c21 hf
              refine lv_aload_n hx hb dX11_wholes_46 rfl (lv_at hl 0 rfl) ?_
              refine gf_X11_58 (v := .ref (ad 13)) hC hP kX_0 rfl dX11_wholes_47 ?_
              refine lv_iload hx hb dX11_wholes_50 (lv_at hl 5 rfl) ?_
              refine lv_iconst hx hb dX11_wholes_52 ki_2 ?_
              refine lv_idiv hx hb dX11_wholes_53 (by decide) ?_
              obtain ⟨r23, hc22, hf⟩ := fxBP_e hf
              refine fx_ci hC hS (fx_runV (i := 13) (As := [.int (w18 / 2)]) (rest := []) hC hP hS (ctX6_allows l hc22 D cy ad ec _) kX_13 (by decide) rfl kMV_X11_272 kC_X6_allows hd_X6_allows rfl ⟨(Nat.le_of_ble_eq_true rfl), (Nat.le_of_ble_eq_true rfl)⟩ ⟨Nat.le_refl 0, Nat.le_refl 0⟩ hl.1 (Nat.le_of_ble_eq_true rfl) rfl dX11_wholes_54) (fun H locs hP hS => ?_)
              refine lv_if_eq (tgt := 79) hx hb dX11_wholes_57 (by decide) (fun c25 => ?_) (fun c25 => ?_)
              · replace hf := fx_it c25 hf
                refine lv_iinc (v := (w18 + 1)) (lv' := [(5, .int (w18 + 1)), (0, .ref (ad 0)), (1, .int a1), (2, .int w15), (3, .int w16), (4, .int w17)]) hx hb dX11_wholes_79 hl (k := 5) rfl (congrArg (fun z => w18 + z) ki_1) (by decide) rfl (fun ls hl => ?_)
                refine lv_goto (tgt := 39) hx hb dX11_wholes_82 (by decide) ?_
                exact ih19 w15 w16 w17 (w18 + 1) _ _ _ hP hS (lv_sub hl [1, 2, 3, 4, 5, 0] rfl) hf
              · replace hf := fx_ie c25 hf
                refine lv_iinc (v := (w15 + 1)) (lv' := [(2, .int (w15 + 1)), (0, .ref (ad 0)), (1, .int a1), (3, .int w16), (4, .int w17), (5, .int w18)]) hx hb dX11_wholes_60 hl (k := 2) rfl (congrArg (fun z => w15 + z) ki_1) (by decide) rfl (fun ls hl => ?_)
                refine lv_iload_n hx hb dX11_wholes_63 rfl (lv_at hl 3 rfl) ?_
                refine lv_iconst hx hb dX11_wholes_64 ki_m1 ?_
                obtain ⟨v26, ev26, hf⟩ := fxL_e hf
                have j_v26 : ∀ (z27 : Int32), z27 = ((if w16 = (-1) then w18 else w16) : Int32) → ∀ (ls : Array Slot), lv_has ls 6 [(0, .ref (ad 0)), (1, .int a1), (2, .int (w15 + 1)), (5, .int w18)] → W p l e (fx_R (6)) s m args below meth c H locs 0 0 (fx_Qi D cy LX ad A below args s v σ') (F0 m 74 ls [.int z27]) := by
                  intro z27 hz27 ls hl
                  obtain rfl : v26 = z27 := ev26.trans hz27.symm
                  refine lv_istore_n (lv' := [(3, .int v26), (0, .ref (ad 0)), (1, .int a1), (2, .int (w15 + 1)), (5, .int w18)]) hx hb dX11_wholes_74 rfl hl (by decide) rfl (fun ls hl => ?_)
                  refine lv_iload hx hb dX11_wholes_75 (lv_at hl 4 rfl) ?_
                  refine lv_istore (lv' := [(4, .int w18), (3, .int v26), (0, .ref (ad 0)), (1, .int a1), (2, .int (w15 + 1)), (5, .int w18)]) hx hb dX11_wholes_77 hl (by decide) rfl (fun ls hl => ?_)
                  refine lv_iinc (v := (w18 + 1)) (lv' := [(5, .int (w18 + 1)), (4, .int w18), (3, .int v26), (0, .ref (ad 0)), (1, .int a1), (2, .int (w15 + 1))]) hx hb dX11_wholes_79 hl (k := 5) rfl (congrArg (fun z => w18 + z) ki_1) (by decide) rfl (fun ls hl => ?_)
                  refine lv_goto (tgt := 39) hx hb dX11_wholes_82 (by decide) ?_
                  exact ih19 (w15 + 1) v26 w18 (w18 + 1) _ _ _ hP hS (lv_sub hl [3, 4, 5, 2, 1, 0] rfl) hf
                refine lv_icmp_ne (tgt := 73) hx hb dX11_wholes_65 (by decide) (fun c28 => ?_) (fun c28 => ?_)
                · refine lv_iload_n hx hb dX11_wholes_73 rfl (lv_at hl 3 rfl) ?_
                  exact j_v26 w16 (if_neg c28).symm ls (lv_sub hl [1, 2, 0, 5] rfl)
                · refine lv_iload hx hb dX11_wholes_68 (lv_at hl 5 rfl) ?_
                  refine lv_goto (tgt := 74) hx hb dX11_wholes_70 (by decide) ?_
                  exact j_v26 w18 (if_pos c28).symm ls (lv_sub hl [1, 2, 0, 5] rfl)
        exact L29 FU 0 (-1) (-1) 2 _ _ _ hP hS (lv_sub hl [4, 5, 3, 2, 1, 0] rfl) hf
      · replace hf := fx_ie c2 hf
        refine lv_iconst hx hb dX11_wholes_9 ki_m1 ?_
        exact fx_iretf hf hC hr hk hP hS dX11_wholes_10
  exact main _ _ _ hP hS hl

set_option maxHeartbeats 4000000 in
set_option maxRecDepth 100000 in
theorem ctX11_ask (l : Launch) {σ σ' : FH} {v : Int32} (hf : fX11_ask σ = some (v, σ')) : fx_Mi l yX11_ask cX11_ask 1 (some .int) (6) LX (fun ad ec => [.ref (ad 0)]) σ v σ' := by
  unfold fX11_ask at hf
  refine fx_mi' (own := RX11) rfl (by decide +kernel) ?_
  intro p e s m args below meth c D cy ad ec A hC hr hk hP hS
  have hx := hC.1
  have hb := hC.2.1
  have hl := lv_entry ([.ref (ad 0)]) (n := 1) (Nat.le_of_ble_eq_true rfl)
  show W _ _ _ _ _ _ _ _ _ _ _ _ _ _ _ (entryFrame m ([.ref (ad 0)] : List Value).toArray 1)
  rw [lg_entry_eq]
  generalize (lg_sl ([.ref (ad 0)]) ++ List.replicate (1 - (lg_sl ([.ref (ad 0)])).length) Slot.unset).toArray = ls at hl ⊢
  have hl : lv_has ls 1 [(0, .ref (ad 0))] := hl
  have main : ∀ (H : Heap) (locs : List Loc) (ls : Array Slot), fx_P D cy LX ad σ H → va_S A s.heap H locs → lv_has ls 1 [(0, .ref (ad 0))] → W p l e (fx_R (6)) s m args below meth c H locs 0 0 (fx_Qi D cy LX ad A below args s v σ') (F0 m 0 ls []) := by
    intro H locs ls hP hS hl
    refine lv_aload_n hx hb dX11_ask_0 rfl (lv_at hl 0 rfl) ?_
    refine gf_X11_58 (v := .ref (ad 13)) hC hP kX_0 rfl dX11_ask_1 ?_
    refine lv_aload_n hx hb dX11_ask_4 rfl (lv_at hl 0 rfl) ?_
    obtain ⟨h1, hf⟩ := fxG_e hf
    refine gf_X11_28 (v := .ref (ad (σ.2.2 2))) hC hP kX_0 rfl dX11_ask_5 ?_
    refine lv_aload_n hx hb dX11_ask_8 rfl (lv_at hl 0 rfl) ?_
    refine gf_X11_48 (v := .ref (ad 7)) hC hP kX_0 rfl dX11_ask_9 ?_
    refine gf_X11_203 (v := .int (σ.1 7 2)) hC hP kX_7 rfl dX11_ask_12 ?_
    obtain ⟨σ4, hc2, hf⟩ := fxBV_e hf
    refine fx_cv hC hS (fx_runV (i := 13) (As := [.ref (ad (σ.2.2 2)), .int (σ.1 7 2)]) (rest := []) hC hP hS (ctX6_lookAhead l hc2 D cy ad ec _) kX_13 (by decide) rfl kMV_X11_268 kC_X6_lookAhead hd_X6_lookAhead rfl ⟨(Nat.le_of_ble_eq_true rfl), (Nat.le_of_ble_eq_true rfl)⟩ ⟨Nat.le_refl 0, Nat.le_refl 0⟩ hl.1 (Nat.le_of_ble_eq_true rfl) rfl dX11_ask_15) (fun H locs hP hS => ?_)
    refine lv_aload_n hx hb dX11_ask_18 rfl (lv_at hl 0 rfl) ?_
    refine gf_X11_58 (v := .ref (ad 13)) hC hP kX_0 rfl dX11_ask_19 ?_
    obtain ⟨r6, hc5, hf⟩ := fxBP_e hf
    refine fx_ci hC hS (fx_runV (i := 13) (As := []) (rest := []) hC hP hS (ctX6_bestQuestion l hc5 D cy ad ec _) kX_13 (by decide) rfl kMV_X11_275 kC_X6_bestQuestion hd_X6_bestQuestion rfl ⟨(Nat.le_of_ble_eq_true rfl), (Nat.le_of_ble_eq_true rfl)⟩ ⟨Nat.le_refl 0, Nat.le_refl 0⟩ hl.1 (Nat.le_of_ble_eq_true rfl) rfl dX11_ask_22) (fun H locs hP hS => ?_)
    exact fx_iretf hf hC hr hk hP hS dX11_ask_25
  exact main _ _ _ hP hS hl

set_option maxHeartbeats 4000000 in
set_option maxRecDepth 100000 in
theorem cbX11_finedWays (l : Launch) (rc_finedWays : Int32 → Int32 → Int32 → Int32 → Int32 → FH → Option (Int32 × FH)) (d : Nat) (hrc_finedWays : ∀ {b0 : Int32} {b1 : Int32} {b2 : Int32} {b3 : Int32} {b4 : Int32} {s0 : FH} {s1 : FH} {u : Int32}, rc_finedWays b0 b1 b2 b3 b4 s0 = some (u, s1) → fx_Mi l yX11_finedWays cX11_finedWays 11 (some .int) (d + 5) LX (fun ad ec => [.ref (ad 0), .int b0, .int b1, .int b2, .int b3, .int b4]) s0 u s1) {a1 : Int32} {a2 : Int32} {a3 : Int32} {a4 : Int32} {a5 : Int32} {σ σ' : FH} {v : Int32} (hf : bX11_finedWays rc_finedWays a1 a2 a3 a4 a5 σ = some (v, σ')) : fx_Mi l yX11_finedWays cX11_finedWays 11 (some .int) (d + 1 + 5) LX (fun ad ec => [.ref (ad 0), .int a1, .int a2, .int a3, .int a4, .int a5]) σ v σ' := by
  unfold bX11_finedWays at hf
  refine fx_mi' (own := RX11) rfl (by decide +kernel) ?_
  intro p e s m args below meth c D cy ad ec A hC hr hk hP hS
  have hx := hC.1
  have hb := hC.2.1
  have hl := lv_entry ([.ref (ad 0), .int a1, .int a2, .int a3, .int a4, .int a5]) (n := 11) (Nat.le_of_ble_eq_true rfl)
  show W _ _ _ _ _ _ _ _ _ _ _ _ _ _ _ (entryFrame m ([.ref (ad 0), .int a1, .int a2, .int a3, .int a4, .int a5] : List Value).toArray 11)
  rw [lg_entry_eq]
  generalize (lg_sl ([.ref (ad 0), .int a1, .int a2, .int a3, .int a4, .int a5]) ++ List.replicate (11 - (lg_sl ([.ref (ad 0), .int a1, .int a2, .int a3, .int a4, .int a5])).length) Slot.unset).toArray = ls at hl ⊢
  have hl : lv_has ls 11 [(0, .ref (ad 0)), (1, .int a1), (2, .int a2), (3, .int a3), (4, .int a4), (5, .int a5)] := hl
  have main : ∀ (H : Heap) (locs : List Loc) (ls : Array Slot), fx_P D cy LX ad σ H → va_S A s.heap H locs → lv_has ls 11 [(0, .ref (ad 0)), (1, .int a1), (2, .int a2), (3, .int a3), (4, .int a4), (5, .int a5)] → W p l e (fx_R (d + 1 + 5)) s m args below meth c H locs 0 0 (fx_Qi D cy LX ad A below args s v σ') (F0 m 0 ls []) := by
    intro H locs ls hP hS hl
    refine lv_iload hx hb dX11_finedWays_0 (lv_at hl 4 rfl) ?_
    refine lv_if_gt (tgt := 7) hx hb dX11_finedWays_2 (by decide) (fun c1 => ?_) (fun c1 => ?_)
    · replace hf := fx_it c1 hf
      refine lv_aload_n hx hb dX11_finedWays_7 rfl (lv_at hl 0 rfl) ?_
      obtain ⟨h2, hf⟩ := fxG_e hf
      refine gf_X11_28 (v := .ref (ad (σ.2.2 2))) hC hP kX_0 rfl dX11_finedWays_8 ?_
      refine lv_iload_n hx hb dX11_finedWays_11 rfl (lv_at hl 1 rfl) ?_
      obtain ⟨r4, hc3, hf⟩ := fxBP_e hf
      refine fx_ci hC hS (fx_runV (i := (σ.2.2 2)) (As := [.int a1]) (rest := []) hC hP hS (ctX5_halfOf l hc3 D cy ad ec _) h2 (by decide) rfl kMV_X11_113 kC_X5_halfOf hd_X5_halfOf rfl ⟨(show 0 + 1 ≤ d + 1 + 5 from by omega), (show 8 + (2 + 11) + 64 * (0) ≤ 64 * (d + 1 + 5) from by omega)⟩ ⟨Nat.le_refl 0, Nat.le_refl 0⟩ hl.1 (Nat.le_of_ble_eq_true rfl) rfl dX11_finedWays_12) (fun H locs hP hS => ?_)
      refine lv_istore (lv' := [(6, .int r4), (0, .ref (ad 0)), (1, .int a1), (2, .int a2), (3, .int a3), (4, .int a4), (5, .int a5)]) hx hb dX11_finedWays_15 hl (by decide) rfl (fun ls hl => ?_)
      refine lv_aload_n hx hb dX11_finedWays_17 rfl (lv_at hl 1 rfl) ?_
      refine lv_iload_n hx hb dX11_finedWays_18 rfl (lv_at hl 2 rfl) ?_
      refine lv_iload_n hx hb dX11_finedWays_19 rfl (lv_at hl 3 rfl) ?_
      refine lv_iload_n hx hb dX11_finedWays_20 rfl (lv_at hl 4 rfl) ?_
      refine lv_iconst hx hb dX11_finedWays_21 ki_1 ?_
      refine lv_iadd hx hb dX11_finedWays_22 ?_
      refine lv_iload hx hb dX11_finedWays_23 (lv_at hl 5 rfl) ?_
      refine lv_iconst hx hb dX11_finedWays_25 ki_1 ?_
      refine lv_isub hx hb dX11_finedWays_26 ?_
      refine lv_iload hx hb dX11_finedWays_27 (lv_at hl 6 rfl) ?_
      obtain ⟨r7, σ8, hc6, hf⟩ := fxBI_e hf
      refine fx_ci hC hS (fx_runV (i := 0) (As := [.int a1, .int a2, .int (a3 + 1), .int (a4 - 1), .int a5]) (rest := []) hC hP hS (hrc_finedWays hc6 D cy ad ec _) kX_0 (by decide) rfl kMV_X11_278 kC_X11_finedWays hd_X11_finedWays rfl ⟨(show d + 5 + 1 ≤ d + 1 + 5 from by omega), (show 8 + (11 + 11) + 64 * (d + 5) ≤ 64 * (d + 1 + 5) from by omega)⟩ ⟨Nat.le_refl 0, Nat.le_refl 0⟩ hl.1 (Nat.le_of_ble_eq_true rfl) rfl dX11_finedWays_29) (fun H locs hP hS => ?_)
      refine lv_istore (lv' := [(7, .int r7), (6, .int r4), (0, .ref (ad 0)), (1, .int a1), (2, .int a2), (3, .int a3), (4, .int a4), (5, .int a5)]) hx hb dX11_finedWays_32 hl (by decide) rfl (fun ls hl => ?_)
      refine lv_iload_n hx hb dX11_finedWays_34 rfl (lv_at hl 4 rfl) ?_
      refine lv_aload_n hx hb dX11_finedWays_35 rfl (lv_at hl 2 rfl) ?_
      obtain ⟨h9, hf⟩ := fxG_e hf
      refine gf_X11_28 (v := .ref (ad (σ8.2.2 2))) hC hP kX_0 rfl dX11_finedWays_36 ?_
      refine lv_aload_n hx hb dX11_finedWays_39 rfl (lv_at hl 2 rfl) ?_
      obtain ⟨h10, hf⟩ := fxG_e hf
      refine gf_X11_28 (v := .ref (ad (σ8.2.2 2))) hC hP kX_0 rfl dX11_finedWays_40 ?_
      refine gf_X11_103 (v := .ref (ad ((σ8.2.2 2) + 2))) hC hP h10 rfl dX11_finedWays_43 ?_
      refine lv_iload_n hx hb dX11_finedWays_46 rfl (lv_at hl 3 rfl) ?_
      obtain ⟨h11, hf⟩ := fxG_e hf
      refine fx_iald hC hP (lyX_5_2 h10) (fx_inp h11) dX11_finedWays_47 ?_
      refine lv_iload_n hx hb dX11_finedWays_48 rfl (lv_at hl 4 rfl) ?_
      refine lv_iload hx hb dX11_finedWays_49 (lv_at hl 1 rfl) ?_
      refine lv_aload_n hx hb dX11_finedWays_51 rfl (lv_at hl 2 rfl) ?_
      refine gf_X11_48 (v := .ref (ad 7)) hC hP kX_0 rfl dX11_finedWays_52 ?_
      refine lv_aload_n hx hb dX11_finedWays_55 rfl (lv_at hl 2 rfl) ?_
      obtain ⟨h12, hf⟩ := fxG_e hf
      refine gf_X11_28 (v := .ref (ad (σ8.2.2 2))) hC hP kX_0 rfl dX11_finedWays_56 ?_
      refine lv_iload_n hx hb dX11_finedWays_59 rfl (lv_at hl 3 rfl) ?_
      obtain ⟨r14, hc13, hf⟩ := fxBP_e hf
      refine fx_ci hC hS (fx_runV (i := 7) (As := [.ref (ad (σ8.2.2 2)), .int a1]) (rest := [.int r4, .int a2, .int (σ8.1 ((σ8.2.2 2) + 2) (Int32.toNatClampNeg a1)), .ref (ad (σ8.2.2 2)), .int a2]) hC hP hS (ctX7_votesFor l hc13 D cy ad ec _) kX_7 (by decide) rfl kMV_X11_117 kC_X7_votesFor hd_X7_votesFor rfl ⟨(show 1 + 1 ≤ d + 1 + 5 from by omega), (show 8 + (5 + 11) + 64 * (1) ≤ 64 * (d + 1 + 5) from by omega)⟩ ⟨Nat.le_refl 0, Nat.le_refl 0⟩ hl.1 (Nat.le_of_ble_eq_true rfl) rfl dX11_finedWays_60) (fun H locs hP hS => ?_)
      refine lv_iload_n hx hb dX11_finedWays_63 rfl (lv_at hl 5 rfl) ?_
      obtain ⟨r17, σ18, hc16, hf⟩ := fxBI_e hf
      refine fx_ci hC hS (fx_runV (i := (σ8.2.2 2)) (As := [.int (σ8.1 ((σ8.2.2 2) + 2) (Int32.toNatClampNeg a1)), .int a2, .int r4, .int r14, .int a3]) (rest := [.int a2]) hC hP hS (ctX5_weekWork l hc16 D cy ad ec _) h9 (by decide) rfl kMV_X11_206 kC_X5_weekWork hd_X5_weekWork rfl ⟨(show 3 + 1 ≤ d + 1 + 5 from by omega), (show 8 + (7 + 11) + 64 * (3) ≤ 64 * (d + 1 + 5) from by omega)⟩ ⟨Nat.le_refl 0, Nat.le_refl 0⟩ hl.1 (Nat.le_of_ble_eq_true rfl) rfl dX11_finedWays_64) (fun H locs hP hS => ?_)
      refine lv_iadd hx hb dX11_finedWays_67 ?_
      obtain ⟨v19, ev19, hf⟩ := fxL_e hf
      refine fx_ti ev19 ?_
      refine lv_istore (lv' := [(8, .int v19), (7, .int r7), (6, .int r4), (0, .ref (ad 0)), (1, .int a1), (2, .int a2), (3, .int a3), (4, .int a4), (5, .int a5)]) hx hb dX11_finedWays_68 hl (by decide) rfl (fun ls hl => ?_)
      refine lv_iconst hx hb dX11_finedWays_70 ki_1 ?_
      refine lv_istore (lv' := [(9, .int 1), (8, .int v19), (7, .int r7), (6, .int r4), (0, .ref (ad 0)), (1, .int a1), (2, .int a2), (3, .int a3), (4, .int a4), (5, .int a5)]) hx hb dX11_finedWays_71 hl (by decide) rfl (fun ls hl => ?_)
      refine lv_iload hx hb dX11_finedWays_73 (lv_at hl 1 rfl) ?_
      refine lv_iload hx hb dX11_finedWays_75 (lv_at hl 3 rfl) ?_
      obtain ⟨J20, hJ20, hf⟩ := fxL_e hf
      have j_J20 : ∀ (x21 : Int32) (σ22 : FH) (H : Heap) (locs : List Loc) (ls : Array Slot), fx_P D cy LX ad σ22 H → va_S A s.heap H locs → lv_has ls 11 [(5, .int a5), (7, .int r7), (9, .int x21)] → J20 x21 σ22 = some (v, σ') → W p l e (fx_R (d + 1 + 5)) s m args below meth c H locs 0 0 (fx_Qi D cy LX ad A below args s v σ') (F0 m 124 ls []) := by
        intro x21 σ22 H locs ls hP hS hl hf
        replace hf := fxk2 hJ20 hf
        refine lv_iload hx hb dX11_finedWays_124 (lv_at hl 0 rfl) ?_
        refine lv_iload hx hb dX11_finedWays_126 (lv_at hl 1 rfl) ?_
        refine lv_imul hx hb dX11_finedWays_128 ?_
        refine lv_bipush hx hb dX11_finedWays_129 kb_10 ?_
        refine lv_iload hx hb dX11_finedWays_131 (lv_at hl 0 rfl) ?_
        refine lv_isub hx hb dX11_finedWays_133 ?_
        refine lv_iload hx hb dX11_finedWays_134 (lv_at hl 2 rfl) ?_
        refine lv_imul hx hb dX11_finedWays_136 ?_
        refine lv_iadd hx hb dX11_finedWays_137 ?_
        exact fx_iretf hf hC hr hk hP hS dX11_finedWays_138
      refine lv_icmp_le (tgt := 106) hx hb dX11_finedWays_77 (by decide) (fun c23 => ?_) (fun c23 => ?_)
      · replace hf := fx_it c23 hf
        refine lv_aload_n hx hb dX11_finedWays_106 rfl (lv_at hl 4 rfl) ?_
        refine lv_iload_n hx hb dX11_finedWays_107 rfl (lv_at hl 5 rfl) ?_
        refine lv_iload hx hb dX11_finedWays_108 (lv_at hl 1 rfl) ?_
        refine lv_iload_n hx hb dX11_finedWays_110 rfl (lv_at hl 7 rfl) ?_
        refine lv_iconst hx hb dX11_finedWays_111 ki_1 ?_
        refine lv_iadd hx hb dX11_finedWays_112 ?_
        refine lv_iload hx hb dX11_finedWays_113 (lv_at hl 8 rfl) ?_
        refine lv_iconst hx hb dX11_finedWays_115 ki_1 ?_
        refine lv_isub hx hb dX11_finedWays_116 ?_
        refine lv_iload hx hb dX11_finedWays_117 (lv_at hl 9 rfl) ?_
        obtain ⟨r25, σ26, hc24, hf⟩ := fxBI_e hf
        refine fx_ci hC hS (fx_runV (i := 0) (As := [.int a1, .int v19, .int (a3 + 1), .int (a4 - 1), .int a5]) (rest := []) hC hP hS (hrc_finedWays hc24 D cy ad ec _) kX_0 (by decide) rfl kMV_X11_278 kC_X11_finedWays hd_X11_finedWays rfl ⟨(show d + 5 + 1 ≤ d + 1 + 5 from by omega), (show 8 + (11 + 11) + 64 * (d + 5) ≤ 64 * (d + 1 + 5) from by omega)⟩ ⟨Nat.le_refl 0, Nat.le_refl 0⟩ hl.1 (Nat.le_of_ble_eq_true rfl) rfl dX11_finedWays_119) (fun H locs hP hS => ?_)
        refine lv_istore (lv' := [(9, .int r25), (8, .int v19), (7, .int r7), (6, .int r4), (0, .ref (ad 0)), (1, .int a1), (2, .int a2), (3, .int a3), (4, .int a4), (5, .int a5)]) hx hb dX11_finedWays_122 hl (by decide) rfl (fun ls hl => ?_)
        exact j_J20 r25 σ26 _ _ _ hP hS (lv_sub hl [9, 2, 0] rfl) hf
      · replace hf := fx_ie c23 hf
        refine lv_iconst hx hb dX11_finedWays_80 ki_1 ?_
        refine lv_istore (lv' := [(10, .int 1), (9, .int 1), (8, .int v19), (7, .int r7), (6, .int r4), (0, .ref (ad 0)), (1, .int a1), (2, .int a2), (3, .int a3), (4, .int a4), (5, .int a5)]) hx hb dX11_finedWays_81 hl (by decide) rfl (fun ls hl => ?_)
        obtain ⟨K27, hK27, hf⟩ := fxL_e hf
        have k_K27 : ∀ (x28 : Int32) (H : Heap) (locs : List Loc) (ls : Array Slot), fx_P D cy LX ad σ18 H → va_S A s.heap H locs → lv_has ls 11 [(5, .int a5), (7, .int r7), (9, .int x28)] → K27 x28 = some (v, σ') → W p l e (fx_R (d + 1 + 5)) s m args below meth c H locs 0 0 (fx_Qi D cy LX ad A below args s v σ') (F0 m 103 ls []) := by
          intro x28 H locs ls hP hS hl hf
          replace hf := fxk1 hK27 hf
          refine lv_goto (tgt := 124) hx hb dX11_finedWays_103 (by decide) ?_
          exact j_J20 x28 σ18 _ _ _ hP hS (lv_sub hl [0, 1, 2] rfl) hf
        have L35 : ∀ (n32 : Nat) (w29 : Int32) (w30 : Int32) (H : Heap) (locs : List Loc) (ls : Array Slot), fx_P D cy LX ad σ18 H → va_S A s.heap H locs → lv_has ls 11 [(4, .int a4), (5, .int a5), (7, .int r7), (9, .int w29), (10, .int w30)] → fX11_finedWays_83 a4 K27 n32 w29 w30 = some (v, σ') → W p l e (fx_R (d + 1 + 5)) s m args below meth c H locs 0 0 (fx_Qi D cy LX ad A below args s v σ') (F0 m 83 ls []) := by
          intro n32
          induction n32 with
          | zero =>
            intro w29 w30 H locs ls hP hS hl hf
            rw [fX11_finedWays_83] at hf
            cases hf
          | succ n32 ih31 =>
            intro w29 w30 H locs ls hP hS hl hf
            rw [fX11_finedWays_83] at hf
            refine lv_iload hx hb dX11_finedWays_83 (lv_at hl 4 rfl) ?_
            refine lv_iload hx hb dX11_finedWays_85 (lv_at hl 0 rfl) ?_
            refine lv_icmp_ge (tgt := 103) hx hb dX11_finedWays_87 (by decide) (fun c33 => ?_) (fun c33 => ?_)
            · replace hf := fx_it c33 hf
              exact k_K27 w29 _ _ _ hP hS (lv_sub hl [1, 2, 3] rfl) hf
            · replace hf := fx_ie c33 hf
              refine lv_iload hx hb dX11_finedWays_90 (lv_at hl 3 rfl) ?_
              refine lv_bipush hx hb dX11_finedWays_92 kb_10 ?_
              refine lv_imul hx hb dX11_finedWays_94 ?_
              obtain ⟨v34, ev34, hf⟩ := fxL_e hf
              refine fx_ti ev34 ?_
              refine lv_istore (lv' := [(9, .int v34), (4, .int a4), (5, .int a5), (7, .int r7), (10, .int w30)]) hx hb dX11_finedWays_95 hl (by decide) rfl (fun ls hl => ?_)
              refine lv_iinc (v := (w30 + 1)) (lv' := [(10, .int (w30 + 1)), (9, .int v34), (4, .int a4), (5, .int a5), (7, .int r7)]) hx hb dX11_finedWays_97 hl (k := 4) rfl (congrArg (fun z => w30 + z) ki_1) (by decide) rfl (fun ls hl => ?_)
              refine lv_goto (tgt := 83) hx hb dX11_finedWays_100 (by decide) ?_
              exact ih31 v34 (w30 + 1) _ _ _ hP hS (lv_sub hl [2, 3, 4, 1, 0] rfl) hf
        exact L35 FU 1 1 _ _ _ hP hS (lv_sub hl [9, 10, 3, 1, 0] rfl) hf
    · replace hf := fx_ie c1 hf
      refine lv_iconst hx hb dX11_finedWays_5 ki_0 ?_
      exact fx_iretf hf hC hr hk hP hS dX11_finedWays_6
  exact main _ _ _ hP hS hl
theorem gX11_rec_ok (l : Launch) : ∀ d : Nat, (∀ {b0 : Int32} {b1 : Int32} {b2 : Int32} {b3 : Int32} {b4 : Int32} {s0 : FH} {s1 : FH} {u : Int32}, (gX11_rec d) b0 b1 b2 b3 b4 s0 = some (u, s1) → fx_Mi l yX11_finedWays cX11_finedWays 11 (some .int) (d + 5) LX (fun ad ec => [.ref (ad 0), .int b0, .int b1, .int b2, .int b3, .int b4]) s0 u s1) := by
  intro d
  induction d with
  | zero =>
    intros; rename_i hf; rw [gX11_rec] at hf; cases hf
  | succ d ih =>
    intros; rename_i hf; rw [gX11_rec] at hf; exact cbX11_finedWays l (gX11_rec d) d ih hf
theorem ctX11_finedWays (l : Launch) (d : Nat) {b0 : Int32} {b1 : Int32} {b2 : Int32} {b3 : Int32} {b4 : Int32} {s0 : FH} {s1 : FH} {u : Int32} (hf : fX11_finedWays d b0 b1 b2 b3 b4 s0 = some (u, s1)) : fx_Mi l yX11_finedWays cX11_finedWays 11 (some .int) (d + 5) LX (fun ad ec => [.ref (ad 0), .int b0, .int b1, .int b2, .int b3, .int b4]) s0 u s1 := (gX11_rec_ok l d) hf

set_option maxHeartbeats 4000000 in
set_option maxRecDepth 100000 in
theorem ctX11_chance (l : Launch) {a1 : Int32} {a2 : Int32} {a3 : Int32} {σ σ' : FH} {v : Int32} (hf : fX11_chance a1 a2 a3 σ = some (v, σ')) : fx_Mi l yX11_chance cX11_chance 7 (some .int) (14) LX (fun ad ec => [.ref (ad 0), .int a1, .int a2, .int a3]) σ v σ' := by
  unfold fX11_chance at hf
  refine fx_mi' (own := RX11) rfl (by decide +kernel) ?_
  intro p e s m args below meth c D cy ad ec A hC hr hk hP hS
  have hx := hC.1
  have hb := hC.2.1
  have hl := lv_entry ([.ref (ad 0), .int a1, .int a2, .int a3]) (n := 7) (Nat.le_of_ble_eq_true rfl)
  show W _ _ _ _ _ _ _ _ _ _ _ _ _ _ _ (entryFrame m ([.ref (ad 0), .int a1, .int a2, .int a3] : List Value).toArray 7)
  rw [lg_entry_eq]
  generalize (lg_sl ([.ref (ad 0), .int a1, .int a2, .int a3]) ++ List.replicate (7 - (lg_sl ([.ref (ad 0), .int a1, .int a2, .int a3])).length) Slot.unset).toArray = ls at hl ⊢
  have hl : lv_has ls 7 [(0, .ref (ad 0)), (1, .int a1), (2, .int a2), (3, .int a3)] := hl
  have main : ∀ (H : Heap) (locs : List Loc) (ls : Array Slot), fx_P D cy LX ad σ H → va_S A s.heap H locs → lv_has ls 7 [(0, .ref (ad 0)), (1, .int a1), (2, .int a2), (3, .int a3)] → W p l e (fx_R (14)) s m args below meth c H locs 0 0 (fx_Qi D cy LX ad A below args s v σ') (F0 m 0 ls []) := by
    intro H locs ls hP hS hl
    refine lv_aload_n hx hb dX11_chance_0 rfl (lv_at hl 0 rfl) ?_
    obtain ⟨h1, hf⟩ := fxG_e hf
    refine gf_X11_28 (v := .ref (ad (σ.2.2 2))) hC hP kX_0 rfl dX11_chance_1 ?_
    refine lv_iload_n hx hb dX11_chance_4 rfl (lv_at hl 1 rfl) ?_
    obtain ⟨r3, hc2, hf⟩ := fxBP_e hf
    refine fx_ci hC hS (fx_runV (i := (σ.2.2 2)) (As := [.int a1]) (rest := []) hC hP hS (ctX5_hasWare l hc2 D cy ad ec _) h1 (by decide) rfl kMV_X11_99 kC_X5_hasWare hd_X5_hasWare rfl ⟨(Nat.le_of_ble_eq_true rfl), (Nat.le_of_ble_eq_true rfl)⟩ ⟨Nat.le_refl 0, Nat.le_refl 0⟩ hl.1 (Nat.le_of_ble_eq_true rfl) rfl dX11_chance_5) (fun H locs hP hS => ?_)
    obtain ⟨v5, ev5, hf⟩ := fxL_e hf
    have j_v5 : ∀ (z6 : Int32), z6 = ((if r3 = 0 then 0 else (if a2 < 1 then 0 else (if 6 < a2 then 0 else 1))) : Int32) → ∀ (ls : Array Slot), lv_has ls 7 [(0, .ref (ad 0)), (1, .int a1), (2, .int a2), (3, .int a3)] → W p l e (fx_R (14)) s m args below meth c H locs 0 0 (fx_Qi D cy LX ad A below args s v σ') (F0 m 27 ls [.int z6]) := by
      intro z6 hz6 ls hl
      obtain rfl : v5 = z6 := ev5.trans hz6.symm
      refine lv_istore (lv' := [(4, .int v5), (0, .ref (ad 0)), (1, .int a1), (2, .int a2), (3, .int a3)]) hx hb dX11_chance_27 hl (by decide) rfl (fun ls hl => ?_)
      refine lv_iload hx hb dX11_chance_29 (lv_at hl 0 rfl) ?_
      refine lv_if_eq (tgt := 44) hx hb dX11_chance_31 (by decide) (fun c10 => ?_) (fun c10 => ?_)
      · replace hf := fx_it c10 hf
        refine lv_iconst hx hb dX11_chance_44 ki_m1 ?_
        exact fx_iretf hf hC hr hk hP hS dX11_chance_45
      · replace hf := fx_ie c10 hf
        refine lv_iload_n hx hb dX11_chance_34 rfl (lv_at hl 4 rfl) ?_
        refine lv_if_lt (tgt := 44) hx hb dX11_chance_35 (by decide) (fun c11 => ?_) (fun c11 => ?_)
        · replace hf := fx_it c11 hf
          refine lv_iconst hx hb dX11_chance_44 ki_m1 ?_
          exact fx_iretf hf hC hr hk hP hS dX11_chance_45
        · replace hf := fx_ie c11 hf
          refine lv_iload_n hx hb dX11_chance_38 rfl (lv_at hl 4 rfl) ?_
          refine lv_bipush hx hb dX11_chance_39 kb_10 ?_
          refine lv_icmp_le (tgt := 46) hx hb dX11_chance_41 (by decide) (fun c12 => ?_) (fun c12 => ?_)
          · replace hf := fx_it c12 hf
            refine lv_aload_n hx hb dX11_chance_46 rfl (lv_at hl 1 rfl) ?_
            refine lv_iload_n hx hb dX11_chance_47 rfl (lv_at hl 2 rfl) ?_
            refine lv_aload_n hx hb dX11_chance_48 rfl (lv_at hl 1 rfl) ?_
            refine gf_X11_48 (v := .ref (ad 7)) hC hP kX_0 rfl dX11_chance_49 ?_
            refine gf_X11_110 (v := .ref (ad 8)) hC hP kX_7 rfl dX11_chance_52 ?_
            refine lv_iload_n hx hb dX11_chance_55 rfl (lv_at hl 2 rfl) ?_
            obtain ⟨h13, hf⟩ := fxG_e hf
            refine fx_iald hC hP kX_8 (fx_inp h13) dX11_chance_56 ?_
            refine lv_aload_n hx hb dX11_chance_57 rfl (lv_at hl 1 rfl) ?_
            refine gf_X11_48 (v := .ref (ad 7)) hC hP kX_0 rfl dX11_chance_58 ?_
            refine gf_X11_203 (v := .int (σ.1 7 2)) hC hP kX_7 rfl dX11_chance_61 ?_
            refine lv_iload_n hx hb dX11_chance_64 rfl (lv_at hl 3 rfl) ?_
            refine lv_iload_n hx hb dX11_chance_65 rfl (lv_at hl 4 rfl) ?_
            obtain ⟨r15, σ16, hc14, hf⟩ := fxBI_e hf
            refine fx_ci hC hS (fx_runV (i := 0) (As := [.int a1, .int (σ.1 8 (Int32.toNatClampNeg a1)), .int (σ.1 7 2), .int a2, .int a3]) (rest := []) hC hP hS (ctX11_finedWays l 8 hc14 D cy ad ec _) kX_0 (by decide) rfl kMV_X11_278 kC_X11_finedWays hd_X11_finedWays rfl ⟨(Nat.le_of_ble_eq_true rfl), (Nat.le_of_ble_eq_true rfl)⟩ ⟨Nat.le_refl 0, Nat.le_refl 0⟩ hl.1 (Nat.le_of_ble_eq_true rfl) rfl dX11_chance_66) (fun H locs hP hS => ?_)
            refine lv_istore (lv' := [(5, .int r15), (4, .int v5), (0, .ref (ad 0)), (1, .int a1), (2, .int a2), (3, .int a3)]) hx hb dX11_chance_69 hl (by decide) rfl (fun ls hl => ?_)
            refine lv_iload_n hx hb dX11_chance_71 rfl (lv_at hl 4 rfl) ?_
            refine lv_istore (lv' := [(6, .int a2), (5, .int r15), (4, .int v5), (0, .ref (ad 0)), (1, .int a1), (2, .int a2), (3, .int a3)]) hx hb dX11_chance_72 hl (by decide) rfl (fun ls hl => ?_)
            obtain ⟨K17, hK17, hf⟩ := fxL_e hf
            have k_K17 : ∀ (x18 : Int32) (H : Heap) (locs : List Loc) (ls : Array Slot), fx_P D cy LX ad σ16 H → va_S A s.heap H locs → lv_has ls 7 [(5, .int x18)] → K17 x18 = some (v, σ') → W p l e (fx_R (14)) s m args below meth c H locs 0 0 (fx_Qi D cy LX ad A below args s v σ') (F0 m 94 ls []) := by
              intro x18 H locs ls hP hS hl hf
              replace hf := fxk1 hK17 hf
              refine lv_iload hx hb dX11_chance_94 (lv_at hl 0 rfl) ?_
              exact fx_iretf hf hC hr hk hP hS dX11_chance_96
            have L25 : ∀ (n22 : Nat) (w19 : Int32) (w20 : Int32) (H : Heap) (locs : List Loc) (ls : Array Slot), fx_P D cy LX ad σ16 H → va_S A s.heap H locs → lv_has ls 7 [(5, .int w19), (6, .int w20)] → fX11_chance_74 K17 n22 w19 w20 = some (v, σ') → W p l e (fx_R (14)) s m args below meth c H locs 0 0 (fx_Qi D cy LX ad A below args s v σ') (F0 m 74 ls []) := by
              intro n22
              induction n22 with
              | zero =>
                intro w19 w20 H locs ls hP hS hl hf
                rw [fX11_chance_74] at hf
                cases hf
              | succ n22 ih21 =>
                intro w19 w20 H locs ls hP hS hl hf
                rw [fX11_chance_74] at hf
                refine lv_iload hx hb dX11_chance_74 (lv_at hl 1 rfl) ?_
                refine lv_bipush hx hb dX11_chance_76 kb_6 ?_
                refine lv_icmp_ge (tgt := 94) hx hb dX11_chance_78 (by decide) (fun c23 => ?_) (fun c23 => ?_)
                · replace hf := fx_it c23 hf
                  exact k_K17 w19 _ _ _ hP hS (lv_sub hl [0] rfl) hf
                · replace hf := fx_ie c23 hf
                  refine lv_iload hx hb dX11_chance_81 (lv_at hl 0 rfl) ?_
                  refine lv_bipush hx hb dX11_chance_83 kb_10 ?_
                  refine lv_imul hx hb dX11_chance_85 ?_
                  obtain ⟨v24, ev24, hf⟩ := fxL_e hf
                  refine fx_ti ev24 ?_
                  refine lv_istore (lv' := [(5, .int v24), (6, .int w20)]) hx hb dX11_chance_86 hl (by decide) rfl (fun ls hl => ?_)
                  refine lv_iinc (v := (w20 + 1)) (lv' := [(6, .int (w20 + 1)), (5, .int v24)]) hx hb dX11_chance_88 hl (k := 1) rfl (congrArg (fun z => w20 + z) ki_1) (by decide) rfl (fun ls hl => ?_)
                  refine lv_goto (tgt := 74) hx hb dX11_chance_91 (by decide) ?_
                  exact ih21 v24 (w20 + 1) _ _ _ hP hS (lv_sub hl [1, 0] rfl) hf
            exact L25 FU r15 a2 _ _ _ hP hS (lv_sub hl [1, 0] rfl) hf
          · replace hf := fx_ie c12 hf
            refine lv_iconst hx hb dX11_chance_44 ki_m1 ?_
            exact fx_iretf hf hC hr hk hP hS dX11_chance_45
    refine lv_if_eq (tgt := 26) hx hb dX11_chance_8 (by decide) (fun c7 => ?_) (fun c7 => ?_)
    · refine lv_iconst hx hb dX11_chance_26 ki_0 ?_
      exact j_v5 0 (if_pos c7).symm ls (lv_sub hl [0, 1, 2, 3] rfl)
    · refine lv_iload_n hx hb dX11_chance_11 rfl (lv_at hl 2 rfl) ?_
      refine lv_iconst hx hb dX11_chance_12 ki_1 ?_
      refine lv_icmp_lt (tgt := 26) hx hb dX11_chance_13 (by decide) (fun c8 => ?_) (fun c8 => ?_)
      · refine lv_iconst hx hb dX11_chance_26 ki_0 ?_
        exact j_v5 0 ((if_neg c7).trans (if_pos c8)).symm ls (lv_sub hl [0, 1, 2, 3] rfl)
      · refine lv_iload_n hx hb dX11_chance_16 rfl (lv_at hl 2 rfl) ?_
        refine lv_bipush hx hb dX11_chance_17 kb_6 ?_
        refine lv_icmp_gt (tgt := 26) hx hb dX11_chance_19 (by decide) (fun c9 => ?_) (fun c9 => ?_)
        · refine lv_iconst hx hb dX11_chance_26 ki_0 ?_
          exact j_v5 0 (((if_neg c7).trans (if_neg c8)).trans (if_pos c9)).symm ls (lv_sub hl [0, 1, 2, 3] rfl)
        · refine lv_iconst hx hb dX11_chance_22 ki_1 ?_
          refine lv_goto (tgt := 27) hx hb dX11_chance_23 (by decide) ?_
          exact j_v5 1 (((if_neg c7).trans (if_neg c8)).trans (if_neg c9)).symm ls (lv_sub hl [0, 1, 2, 3] rfl)
  exact main _ _ _ hP hS hl

set_option maxHeartbeats 4000000 in
set_option maxRecDepth 100000 in
theorem ctX11_nextDraw (l : Launch) {a0 : Int64} {σ : FH} {v : Int64} (hf : fX11_nextDraw a0 σ = some v) : fx_Ml l yX11_nextDraw cX11_nextDraw 2 (some .long) (0) LX (fun ad ec => [.long a0]) σ v σ := by
  unfold fX11_nextDraw at hf
  refine fx_ml' (own := RX11) rfl (by decide +kernel) ?_
  intro p e s m args below meth c D cy ad ec A hC hr hk hP hS
  have hx := hC.1
  have hb := hC.2.1
  have hl := lv_entry ([.long a0]) (n := 2) (Nat.le_of_ble_eq_true rfl)
  show W _ _ _ _ _ _ _ _ _ _ _ _ _ _ _ (entryFrame m ([.long a0] : List Value).toArray 2)
  rw [lg_entry_eq]
  generalize (lg_sl ([.long a0]) ++ List.replicate (2 - (lg_sl ([.long a0])).length) Slot.unset).toArray = ls at hl ⊢
  have hl : lv_has ls 2 [(0, .long a0)] := hl
  have main : ∀ (H : Heap) (locs : List Loc) (ls : Array Slot), fx_P D cy LX ad σ H → va_S A s.heap H locs → lv_has ls 2 [(0, .long a0)] → W p l e (fx_R (0)) s m args below meth c H locs 0 0 (fx_Ql D cy LX ad A below args s v σ) (F0 m 0 ls []) := by
    intro H locs ls hP hS hl
    refine lv_lload_n hx hb dX11_nextDraw_0 rfl (lv_at hl 0 rfl) ?_
    refine lv_ldc2 (own := RX11) (v := 1103515245) hx hb hC.2.2.2.1 (hC.2.2.2.2.1 _ kK_X11_342) dX11_nextDraw_1 ?_
    refine lv_lmul hx hb dX11_nextDraw_4 ?_
    refine lv_ldc2 (own := RX11) (v := 12345) hx hb hC.2.2.2.1 (hC.2.2.2.2.1 _ kK_X11_344) dX11_nextDraw_5 ?_
    refine lv_ladd hx hb dX11_nextDraw_8 ?_
    refine lv_ldc2 (own := RX11) (v := 2147483648) hx hb hC.2.2.2.1 (hC.2.2.2.2.1 _ kK_X11_346) dX11_nextDraw_9 ?_
    refine lv_lrem hx hb dX11_nextDraw_12 (by decide) ?_
    exact fx_lretp hf hC hr hk hP hS dX11_nextDraw_13
  exact main _ _ _ hP hS hl

set_option maxHeartbeats 4000000 in
set_option maxRecDepth 100000 in
theorem ctX11_drawn (l : Launch) {a0 : Int64} {a2 : Int32} {σ : FH} {v : Int32} (hf : fX11_drawn a0 a2 σ = some v) : fx_Mi l yX11_drawn cX11_drawn 3 (some .int) (0) LX (fun ad ec => [.long a0, .int a2]) σ v σ := by
  unfold fX11_drawn at hf
  refine fx_mi' (own := RX11) rfl (by decide +kernel) ?_
  intro p e s m args below meth c D cy ad ec A hC hr hk hP hS
  have hx := hC.1
  have hb := hC.2.1
  have hl := lv_entry ([.long a0, .int a2]) (n := 3) (Nat.le_of_ble_eq_true rfl)
  show W _ _ _ _ _ _ _ _ _ _ _ _ _ _ _ (entryFrame m ([.long a0, .int a2] : List Value).toArray 3)
  rw [lg_entry_eq]
  generalize (lg_sl ([.long a0, .int a2]) ++ List.replicate (3 - (lg_sl ([.long a0, .int a2])).length) Slot.unset).toArray = ls at hl ⊢
  have hl : lv_has ls 3 [(0, .long a0), (2, .int a2)] := hl
  have main : ∀ (H : Heap) (locs : List Loc) (ls : Array Slot), fx_P D cy LX ad σ H → va_S A s.heap H locs → lv_has ls 3 [(0, .long a0), (2, .int a2)] → W p l e (fx_R (0)) s m args below meth c H locs 0 0 (fx_Qi D cy LX ad A below args s v σ) (F0 m 0 ls []) := by
    intro H locs ls hP hS hl
    refine lv_iload_n hx hb dX11_drawn_0 rfl (lv_at hl 1 rfl) ?_
    refine lv_if_gt (tgt := 8) hx hb dX11_drawn_1 (by decide) (fun c1 => ?_) (fun c1 => ?_)
    · replace hf := fx_it c1 hf
      refine lv_lload_n hx hb dX11_drawn_8 rfl (lv_at hl 0 rfl) ?_
      refine lv_ldc2 (own := RX11) (v := 65536) hx hb hC.2.2.2.1 (hC.2.2.2.2.1 _ kK_X11_348) dX11_drawn_9 ?_
      refine lv_ldiv hx hb dX11_drawn_12 (by decide) ?_
      refine lv_iload_n hx hb dX11_drawn_13 rfl (lv_at hl 1 rfl) ?_
      refine lv_i2l (v := (Int32.toInt64 a2)) hx hb dX11_drawn_14 rfl ?_
      obtain ⟨h2, hf⟩ := fxG_e hf
      refine lv_lrem hx hb dX11_drawn_15 h2 ?_
      refine lv_l2i (v := (Int64.toInt32 ((a0 / 65536) - (a0 / 65536) / (Int32.toInt64 a2) * (Int32.toInt64 a2)))) hx hb dX11_drawn_16 rfl ?_
      exact fx_iretp hf hC hr hk hP hS dX11_drawn_17
    · replace hf := fx_ie c1 hf
      refine lv_iconst hx hb dX11_drawn_4 ki_0 ?_
      refine lv_goto (tgt := 17) hx hb dX11_drawn_5 (by decide) ?_
      exact fx_iretp hf hC hr hk hP hS dX11_drawn_17
  exact main _ _ _ hP hS hl

set_option maxHeartbeats 4000000 in
set_option maxRecDepth 100000 in
theorem ctX11_drawDeed (l : Launch) {a1 : Int64} {σ σ' : FH} {v : Int64} (hf : fX11_drawDeed a1 σ = some (v, σ')) : fx_Ml l yX11_drawDeed cX11_drawDeed 8 (some .long) (3) LX (fun ad ec => [.ref (ad 0), .long a1]) σ v σ' := by
  unfold fX11_drawDeed at hf
  refine fx_ml' (own := RX11) rfl (by decide +kernel) ?_
  intro p e s m args below meth c D cy ad ec A hC hr hk hP hS
  have hx := hC.1
  have hb := hC.2.1
  have hl := lv_entry ([.ref (ad 0), .long a1]) (n := 8) (Nat.le_of_ble_eq_true rfl)
  show W _ _ _ _ _ _ _ _ _ _ _ _ _ _ _ (entryFrame m ([.ref (ad 0), .long a1] : List Value).toArray 8)
  rw [lg_entry_eq]
  generalize (lg_sl ([.ref (ad 0), .long a1]) ++ List.replicate (8 - (lg_sl ([.ref (ad 0), .long a1])).length) Slot.unset).toArray = ls at hl ⊢
  have hl : lv_has ls 8 [(0, .ref (ad 0)), (1, .long a1)] := hl
  have main : ∀ (H : Heap) (locs : List Loc) (ls : Array Slot), fx_P D cy LX ad σ H → va_S A s.heap H locs → lv_has ls 8 [(0, .ref (ad 0)), (1, .long a1)] → W p l e (fx_R (3)) s m args below meth c H locs 0 0 (fx_Ql D cy LX ad A below args s v σ') (F0 m 0 ls []) := by
    intro H locs ls hP hS hl
    refine lv_aload_n hx hb dX11_drawDeed_0 rfl (lv_at hl 0 rfl) ?_
    obtain ⟨h1, hf⟩ := fxG_e hf
    refine gf_X11_28 (v := .ref (ad (σ.2.2 2))) hC hP kX_0 rfl dX11_drawDeed_1 ?_
    refine gf_X11_217 (v := .int (σ.1 (σ.2.2 2) 0)) hC hP h1 rfl dX11_drawDeed_4 ?_
    refine lv_if_gt (tgt := 12) hx hb dX11_drawDeed_7 (by decide) (fun c2 => ?_) (fun c2 => ?_)
    · replace hf := fx_it c2 hf
      refine lv_lload_n hx hb dX11_drawDeed_12 rfl (lv_at hl 1 rfl) ?_
      obtain ⟨r4, hc3, hf⟩ := fxBP_e hf
      refine fx_cl hC hS (fx_runS (As := [.long a1]) (rest := []) hC hP hS (ctX11_nextDraw l hc3 D cy ad ec _) kMS_X11_335 kC_X11_nextDraw hd_X11_nextDraw.2 rfl ⟨(Nat.le_of_ble_eq_true rfl), (Nat.le_of_ble_eq_true rfl)⟩ ⟨Nat.le_refl 0, Nat.le_refl 0⟩ hl.1 (Nat.le_of_ble_eq_true rfl) rfl dX11_drawDeed_13) (fun H locs hP hS => ?_)
      refine lv_lstore_n (lv' := [(3, .long r4), (0, .ref (ad 0)), (1, .long a1)]) hx hb dX11_drawDeed_16 rfl hl (by decide) rfl (fun ls hl => ?_)
      refine lv_lload_n hx hb dX11_drawDeed_17 rfl (lv_at hl 0 rfl) ?_
      refine lv_aload_n hx hb dX11_drawDeed_18 rfl (lv_at hl 1 rfl) ?_
      obtain ⟨h6, hf⟩ := fxG_e hf
      refine gf_X11_28 (v := .ref (ad (σ.2.2 2))) hC hP kX_0 rfl dX11_drawDeed_19 ?_
      refine gf_X11_217 (v := .int (σ.1 (σ.2.2 2) 0)) hC hP h6 rfl dX11_drawDeed_22 ?_
      obtain ⟨r8, hc7, hf⟩ := fxBP_e hf
      refine fx_ci hC hS (fx_runS (As := [.long r4, .int (σ.1 (σ.2.2 2) 0)]) (rest := []) hC hP hS (ctX11_drawn l hc7 D cy ad ec _) kMS_X11_338 kC_X11_drawn hd_X11_drawn.2 rfl ⟨(Nat.le_of_ble_eq_true rfl), (Nat.le_of_ble_eq_true rfl)⟩ ⟨Nat.le_refl 0, Nat.le_refl 0⟩ hl.1 (Nat.le_of_ble_eq_true rfl) rfl dX11_drawDeed_25) (fun H locs hP hS => ?_)
      refine lv_istore (lv' := [(5, .int r8), (3, .long r4), (0, .ref (ad 0)), (1, .long a1)]) hx hb dX11_drawDeed_28 hl (by decide) rfl (fun ls hl => ?_)
      refine lv_lload_n hx hb dX11_drawDeed_30 rfl (lv_at hl 1 rfl) ?_
      obtain ⟨r11, hc10, hf⟩ := fxBP_e hf
      refine fx_cl hC hS (fx_runS (As := [.long r4]) (rest := []) hC hP hS (ctX11_nextDraw l hc10 D cy ad ec _) kMS_X11_335 kC_X11_nextDraw hd_X11_nextDraw.2 rfl ⟨(Nat.le_of_ble_eq_true rfl), (Nat.le_of_ble_eq_true rfl)⟩ ⟨Nat.le_refl 0, Nat.le_refl 0⟩ hl.1 (Nat.le_of_ble_eq_true rfl) rfl dX11_drawDeed_31) (fun H locs hP hS => ?_)
      refine lv_lstore_n (lv' := [(3, .long r11), (5, .int r8), (0, .ref (ad 0)), (1, .long a1)]) hx hb dX11_drawDeed_34 rfl hl (by decide) rfl (fun ls hl => ?_)
      refine lv_lload_n hx hb dX11_drawDeed_35 rfl (lv_at hl 0 rfl) ?_
      refine lv_iconst hx hb dX11_drawDeed_36 ki_5 ?_
      obtain ⟨r14, hc13, hf⟩ := fxBP_e hf
      refine fx_ci hC hS (fx_runS (As := [.long r11, .int 5]) (rest := []) hC hP hS (ctX11_drawn l hc13 D cy ad ec _) kMS_X11_338 kC_X11_drawn hd_X11_drawn.2 rfl ⟨(Nat.le_of_ble_eq_true rfl), (Nat.le_of_ble_eq_true rfl)⟩ ⟨Nat.le_refl 0, Nat.le_refl 0⟩ hl.1 (Nat.le_of_ble_eq_true rfl) rfl dX11_drawDeed_37) (fun H locs hP hS => ?_)
      refine lv_istore (lv' := [(6, .int r14), (3, .long r11), (5, .int r8), (0, .ref (ad 0)), (1, .long a1)]) hx hb dX11_drawDeed_40 hl (by decide) rfl (fun ls hl => ?_)
      refine lv_iload hx hb dX11_drawDeed_42 (lv_at hl 0 rfl) ?_
      refine lv_iconst hx hb dX11_drawDeed_44 ki_2 ?_
      refine lv_icmp_le (tgt := 50) hx hb dX11_drawDeed_45 (by decide) (fun c16 => ?_) (fun c16 => ?_)
      · replace hf := fx_it c16 hf
        refine lv_lload_n hx hb dX11_drawDeed_50 rfl (lv_at hl 1 rfl) ?_
        obtain ⟨r18, hc17, hf⟩ := fxBP_e hf
        refine fx_cl hC hS (fx_runS (As := [.long r11]) (rest := []) hC hP hS (ctX11_nextDraw l hc17 D cy ad ec _) kMS_X11_335 kC_X11_nextDraw hd_X11_nextDraw.2 rfl ⟨(Nat.le_of_ble_eq_true rfl), (Nat.le_of_ble_eq_true rfl)⟩ ⟨Nat.le_refl 0, Nat.le_refl 0⟩ hl.1 (Nat.le_of_ble_eq_true rfl) rfl dX11_drawDeed_51) (fun H locs hP hS => ?_)
        refine lv_lstore_n (lv' := [(3, .long r18), (6, .int r14), (5, .int r8), (0, .ref (ad 0)), (1, .long a1)]) hx hb dX11_drawDeed_54 rfl hl (by decide) rfl (fun ls hl => ?_)
        refine lv_iload hx hb dX11_drawDeed_55 (lv_at hl 1 rfl) ?_
        refine lv_if_ne (tgt := 80) hx hb dX11_drawDeed_57 (by decide) (fun c20 => ?_) (fun c20 => ?_)
        · replace hf := fx_ie c20 hf
          refine lv_iload hx hb dX11_drawDeed_80 (lv_at hl 1 rfl) ?_
          refine lv_iconst hx hb dX11_drawDeed_82 ki_1 ?_
          refine lv_icmp_ne (tgt := 111) hx hb dX11_drawDeed_83 (by decide) (fun c21 => ?_) (fun c21 => ?_)
          · replace hf := fx_ie c21 hf
            refine lv_lload_n hx hb dX11_drawDeed_111 rfl (lv_at hl 0 rfl) ?_
            refine lv_aload_n hx hb dX11_drawDeed_112 rfl (lv_at hl 3 rfl) ?_
            obtain ⟨h22, hf⟩ := fxG_e hf
            refine gf_X11_28 (v := .ref (ad (σ.2.2 2))) hC hP kX_0 rfl dX11_drawDeed_113 ?_
            refine gf_X11_217 (v := .int (σ.1 (σ.2.2 2) 0)) hC hP h22 rfl dX11_drawDeed_116 ?_
            obtain ⟨r24, hc23, hf⟩ := fxBP_e hf
            refine fx_ci hC hS (fx_runS (As := [.long r18, .int (σ.1 (σ.2.2 2) 0)]) (rest := []) hC hP hS (ctX11_drawn l hc23 D cy ad ec _) kMS_X11_338 kC_X11_drawn hd_X11_drawn.2 rfl ⟨(Nat.le_of_ble_eq_true rfl), (Nat.le_of_ble_eq_true rfl)⟩ ⟨Nat.le_refl 0, Nat.le_refl 0⟩ hl.1 (Nat.le_of_ble_eq_true rfl) rfl dX11_drawDeed_119) (fun H locs hP hS => ?_)
            refine lv_istore (lv' := [(7, .int r24), (3, .long r18), (6, .int r14), (5, .int r8), (0, .ref (ad 0)), (1, .long a1)]) hx hb dX11_drawDeed_122 hl (by decide) rfl (fun ls hl => ?_)
            refine lv_aload_n hx hb dX11_drawDeed_124 rfl (lv_at hl 4 rfl) ?_
            refine gf_X11_52 (v := .ref (ad 10)) hC hP kX_0 rfl dX11_drawDeed_125 ?_
            refine lv_aload_n hx hb dX11_drawDeed_128 rfl (lv_at hl 4 rfl) ?_
            obtain ⟨h26, hf⟩ := fxG_e hf
            refine gf_X11_28 (v := .ref (ad (σ.2.2 2))) hC hP kX_0 rfl dX11_drawDeed_129 ?_
            refine lv_iload hx hb dX11_drawDeed_132 (lv_at hl 3 rfl) ?_
            refine lv_iload hx hb dX11_drawDeed_134 (lv_at hl 0 rfl) ?_
            obtain ⟨r28, hc27, hf⟩ := fxBP_e hf
            refine fx_ci hC hS (fx_runV (i := 10) (As := [.ref (ad (σ.2.2 2)), .int r8, .int r24]) (rest := []) hC hP hS (ctX7_canJoin l hc27 D cy ad ec _) kX_10 (by decide) rfl kMV_X11_152 kC_X7_canJoin hd_X7_canJoin rfl ⟨(Nat.le_of_ble_eq_true rfl), (Nat.le_of_ble_eq_true rfl)⟩ ⟨Nat.le_refl 0, Nat.le_refl 0⟩ hl.1 (Nat.le_of_ble_eq_true rfl) rfl dX11_drawDeed_136) (fun H locs hP hS => ?_)
            refine lv_if_eq (tgt := 157) hx hb dX11_drawDeed_139 (by decide) (fun c30 => ?_) (fun c30 => ?_)
            · replace hf := fx_it c30 hf
              refine lv_lload_n hx hb dX11_drawDeed_157 rfl (lv_at hl 1 rfl) ?_
              exact fx_lretf hf hC hr hk hP hS dX11_drawDeed_158
            · replace hf := fx_ie c30 hf
              refine lv_aload_n hx hb dX11_drawDeed_142 rfl (lv_at hl 4 rfl) ?_
              refine gf_X11_52 (v := .ref (ad 10)) hC hP kX_0 rfl dX11_drawDeed_143 ?_
              refine lv_aload_n hx hb dX11_drawDeed_146 rfl (lv_at hl 4 rfl) ?_
              obtain ⟨h31, hf⟩ := fxG_e hf
              refine gf_X11_28 (v := .ref (ad (σ.2.2 2))) hC hP kX_0 rfl dX11_drawDeed_147 ?_
              refine lv_iload hx hb dX11_drawDeed_150 (lv_at hl 3 rfl) ?_
              refine lv_iload hx hb dX11_drawDeed_152 (lv_at hl 0 rfl) ?_
              obtain ⟨σ34, hc32, hf⟩ := fxBV_e hf
              refine fx_cv hC hS (fx_runV (i := 10) (As := [.ref (ad (σ.2.2 2)), .int r8, .int r24]) (rest := []) hC hP hS (ctX7_arrest l hc32 D cy ad ec _) kX_10 (by decide) rfl kMV_X11_156 kC_X7_arrest hd_X7_arrest rfl ⟨(Nat.le_of_ble_eq_true rfl), (Nat.le_of_ble_eq_true rfl)⟩ ⟨Nat.le_refl 0, Nat.le_refl 0⟩ hl.1 (Nat.le_of_ble_eq_true rfl) rfl dX11_drawDeed_154) (fun H locs hP hS => ?_)
              refine lv_lload_n hx hb dX11_drawDeed_157 rfl (lv_at hl 1 rfl) ?_
              exact fx_lretf hf hC hr hk hP hS dX11_drawDeed_158
          · replace hf := fx_it c21 hf
            refine lv_aload_n hx hb dX11_drawDeed_86 rfl (lv_at hl 3 rfl) ?_
            refine gf_X11_52 (v := .ref (ad 10)) hC hP kX_0 rfl dX11_drawDeed_87 ?_
            refine lv_aload_n hx hb dX11_drawDeed_90 rfl (lv_at hl 3 rfl) ?_
            obtain ⟨h35, hf⟩ := fxG_e hf
            refine gf_X11_28 (v := .ref (ad (σ.2.2 2))) hC hP kX_0 rfl dX11_drawDeed_91 ?_
            refine lv_iload hx hb dX11_drawDeed_94 (lv_at hl 2 rfl) ?_
            refine lv_lload_n hx hb dX11_drawDeed_96 rfl (lv_at hl 0 rfl) ?_
            refine lv_bipush hx hb dX11_drawDeed_97 kb_20 ?_
            obtain ⟨r37, hc36, hf⟩ := fxBP_e hf
            refine fx_ci hC hS (fx_runS (As := [.long r18, .int 20]) (rest := [.int r8, .ref (ad (σ.2.2 2)), .ref (ad 10)]) hC hP hS (ctX11_drawn l hc36 D cy ad ec _) kMS_X11_338 kC_X11_drawn hd_X11_drawn.2 rfl ⟨(Nat.le_of_ble_eq_true rfl), (Nat.le_of_ble_eq_true rfl)⟩ ⟨Nat.le_refl 0, Nat.le_refl 0⟩ hl.1 (Nat.le_of_ble_eq_true rfl) rfl dX11_drawDeed_99) (fun H locs hP hS => ?_)
            refine lv_iconst hx hb dX11_drawDeed_102 ki_1 ?_
            refine lv_iadd hx hb dX11_drawDeed_103 ?_
            obtain ⟨r40, σ41, hc39, hf⟩ := fxBI_e hf
            refine fx_ci hC hS (fx_runV (i := 10) (As := [.ref (ad (σ.2.2 2)), .int r8, .int (r37 + 1)]) (rest := []) hC hP hS (ctX7_workOn l hc39 D cy ad ec _) kX_10 (by decide) rfl kMV_X11_144 kC_X7_workOn hd_X7_workOn rfl ⟨(Nat.le_of_ble_eq_true rfl), (Nat.le_of_ble_eq_true rfl)⟩ ⟨Nat.le_refl 0, Nat.le_refl 0⟩ hl.1 (Nat.le_of_ble_eq_true rfl) rfl dX11_drawDeed_104) (fun H locs hP hS => ?_)
            refine lv_pop hx hb dX11_drawDeed_107 rfl ?_
            refine lv_goto (tgt := 157) hx hb dX11_drawDeed_108 (by decide) ?_
            refine lv_lload_n hx hb dX11_drawDeed_157 rfl (lv_at hl 0 rfl) ?_
            exact fx_lretf hf hC hr hk hP hS dX11_drawDeed_158
        · replace hf := fx_it c20 hf
          refine lv_aload_n hx hb dX11_drawDeed_60 rfl (lv_at hl 3 rfl) ?_
          refine gf_X11_52 (v := .ref (ad 10)) hC hP kX_0 rfl dX11_drawDeed_61 ?_
          refine lv_iload hx hb dX11_drawDeed_64 (lv_at hl 2 rfl) ?_
          refine lv_lload_n hx hb dX11_drawDeed_66 rfl (lv_at hl 0 rfl) ?_
          refine lv_bipush hx hb dX11_drawDeed_67 kb_20 ?_
          obtain ⟨r43, hc42, hf⟩ := fxBP_e hf
          refine fx_ci hC hS (fx_runS (As := [.long r18, .int 20]) (rest := [.int r8, .ref (ad 10)]) hC hP hS (ctX11_drawn l hc42 D cy ad ec _) kMS_X11_338 kC_X11_drawn hd_X11_drawn.2 rfl ⟨(Nat.le_of_ble_eq_true rfl), (Nat.le_of_ble_eq_true rfl)⟩ ⟨Nat.le_refl 0, Nat.le_refl 0⟩ hl.1 (Nat.le_of_ble_eq_true rfl) rfl dX11_drawDeed_69) (fun H locs hP hS => ?_)
          refine lv_iconst hx hb dX11_drawDeed_72 ki_1 ?_
          refine lv_iadd hx hb dX11_drawDeed_73 ?_
          obtain ⟨σ47, hc45, hf⟩ := fxBV_e hf
          refine fx_cv hC hS (fx_runV (i := 10) (As := [.int r8, .int (r43 + 1)]) (rest := []) hC hP hS (ctX7_takeOff l hc45 D cy ad ec _) kX_10 (by decide) rfl kMV_X11_148 kC_X7_takeOff hd_X7_takeOff rfl ⟨(Nat.le_of_ble_eq_true rfl), (Nat.le_of_ble_eq_true rfl)⟩ ⟨Nat.le_refl 0, Nat.le_refl 0⟩ hl.1 (Nat.le_of_ble_eq_true rfl) rfl dX11_drawDeed_74) (fun H locs hP hS => ?_)
          refine lv_goto (tgt := 157) hx hb dX11_drawDeed_77 (by decide) ?_
          refine lv_lload_n hx hb dX11_drawDeed_157 rfl (lv_at hl 0 rfl) ?_
          exact fx_lretf hf hC hr hk hP hS dX11_drawDeed_158
      · replace hf := fx_ie c16 hf
        refine lv_lload_n hx hb dX11_drawDeed_48 rfl (lv_at hl 1 rfl) ?_
        exact fx_lretf hf hC hr hk hP hS dX11_drawDeed_49
    · replace hf := fx_ie c2 hf
      refine lv_lload_n hx hb dX11_drawDeed_10 rfl (lv_at hl 1 rfl) ?_
      exact fx_lretf hf hC hr hk hP hS dX11_drawDeed_11
  exact main _ _ _ hP hS hl

set_option maxHeartbeats 4000000 in
set_option maxRecDepth 100000 in
theorem ctX11_terms (l : Launch) {a1 : Int32} {a2 : Int32} {a3 : Int32} {σ σ' : FH} {v : Int32} (hf : fX11_terms a1 a2 a3 σ = some (v, σ')) : fx_Mi l yX11_terms cX11_terms 8 (some .int) (5) LX (fun ad ec => [.ref (ad 0), .int a1, .int a2, .int a3]) σ v σ' := by
  unfold fX11_terms at hf
  refine fx_mi' (own := RX11) rfl (by decide +kernel) ?_
  intro p e s m args below meth c D cy ad ec A hC hr hk hP hS
  have hx := hC.1
  have hb := hC.2.1
  have hl := lv_entry ([.ref (ad 0), .int a1, .int a2, .int a3]) (n := 8) (Nat.le_of_ble_eq_true rfl)
  show W _ _ _ _ _ _ _ _ _ _ _ _ _ _ _ (entryFrame m ([.ref (ad 0), .int a1, .int a2, .int a3] : List Value).toArray 8)
  rw [lg_entry_eq]
  generalize (lg_sl ([.ref (ad 0), .int a1, .int a2, .int a3]) ++ List.replicate (8 - (lg_sl ([.ref (ad 0), .int a1, .int a2, .int a3])).length) Slot.unset).toArray = ls at hl ⊢
  have hl : lv_has ls 8 [(0, .ref (ad 0)), (1, .int a1), (2, .int a2), (3, .int a3)] := hl
  have main : ∀ (H : Heap) (locs : List Loc) (ls : Array Slot), fx_P D cy LX ad σ H → va_S A s.heap H locs → lv_has ls 8 [(0, .ref (ad 0)), (1, .int a1), (2, .int a2), (3, .int a3)] → W p l e (fx_R (5)) s m args below meth c H locs 0 0 (fx_Qi D cy LX ad A below args s v σ') (F0 m 0 ls []) := by
    intro H locs ls hP hS hl
    refine lv_iload_n hx hb dX11_terms_0 rfl (lv_at hl 1 rfl) ?_
    obtain ⟨v1, ev1, hf⟩ := fxL_e hf
    have j_v1 : ∀ (z2 : Int32), z2 = ((if a1 < 0 then 0 else (if 9999 < a1 then 0 else (if a2 < 1 then 0 else (if 99 < a2 then 0 else 1)))) : Int32) → ∀ (ls : Array Slot), lv_has ls 8 [(0, .ref (ad 0)), (1, .int a1), (2, .int a2), (3, .int a3)] → W p l e (fx_R (5)) s m args below meth c H locs 0 0 (fx_Qi D cy LX ad A below args s v σ') (F0 m 27 ls [.int z2]) := by
      intro z2 hz2 ls hl
      obtain rfl : v1 = z2 := ev1.trans hz2.symm
      refine lv_istore (lv' := [(4, .int v1), (0, .ref (ad 0)), (1, .int a1), (2, .int a2), (3, .int a3)]) hx hb dX11_terms_27 hl (by decide) rfl (fun ls hl => ?_)
      refine lv_iload hx hb dX11_terms_29 (lv_at hl 0 rfl) ?_
      refine lv_if_eq (tgt := 43) hx hb dX11_terms_31 (by decide) (fun c7 => ?_) (fun c7 => ?_)
      · replace hf := fx_it c7 hf
        refine lv_iconst hx hb dX11_terms_43 ki_m1 ?_
        exact fx_iretf hf hC hr hk hP hS dX11_terms_44
      · replace hf := fx_ie c7 hf
        refine lv_iload_n hx hb dX11_terms_34 rfl (lv_at hl 4 rfl) ?_
        refine lv_if_lt (tgt := 43) hx hb dX11_terms_35 (by decide) (fun c8 => ?_) (fun c8 => ?_)
        · replace hf := fx_it c8 hf
          refine lv_iconst hx hb dX11_terms_43 ki_m1 ?_
          exact fx_iretf hf hC hr hk hP hS dX11_terms_44
        · replace hf := fx_ie c8 hf
          refine lv_iload_n hx hb dX11_terms_38 rfl (lv_at hl 4 rfl) ?_
          refine lv_iconst hx hb dX11_terms_39 ki_2 ?_
          refine lv_icmp_le (tgt := 45) hx hb dX11_terms_40 (by decide) (fun c9 => ?_) (fun c9 => ?_)
          · replace hf := fx_it c9 hf
            refine lv_aload_n hx hb dX11_terms_45 rfl (lv_at hl 1 rfl) ?_
            refine gf_X11_52 (v := .ref (ad 10)) hC hP kX_0 rfl dX11_terms_46 ?_
            refine lv_aload_n hx hb dX11_terms_49 rfl (lv_at hl 1 rfl) ?_
            refine gf_X11_48 (v := .ref (ad 7)) hC hP kX_0 rfl dX11_terms_50 ?_
            obtain ⟨σ12, hc10, hf⟩ := fxBV_e hf
            refine fx_cv hC hS (fx_runV (i := 10) (As := [.ref (ad 7)]) (rest := []) hC hP hS (ctX7_copyOf l hc10 D cy ad ec _) kX_10 (by decide) rfl kMV_X11_182 kC_X7_copyOf hd_X7_copyOf rfl ⟨(Nat.le_of_ble_eq_true rfl), (Nat.le_of_ble_eq_true rfl)⟩ ⟨Nat.le_refl 0, Nat.le_refl 0⟩ hl.1 (Nat.le_of_ble_eq_true rfl) rfl dX11_terms_53) (fun H locs hP hS => ?_)
            refine lv_iload_n hx hb dX11_terms_56 rfl (lv_at hl 2 rfl) ?_
            refine lv_i2l (v := (Int32.toInt64 a1)) hx hb dX11_terms_57 rfl ?_
            obtain ⟨v13, ev13, hf⟩ := fxL_e hf
            refine fx_tl ev13 ?_
            refine lv_lstore (lv' := [(5, .long v13), (4, .int v1), (0, .ref (ad 0)), (1, .int a1), (2, .int a2), (3, .int a3)]) hx hb dX11_terms_58 hl (by decide) rfl (fun ls hl => ?_)
            refine lv_iconst hx hb dX11_terms_60 ki_0 ?_
            refine lv_istore (lv' := [(7, .int 0), (5, .long v13), (4, .int v1), (0, .ref (ad 0)), (1, .int a1), (2, .int a2), (3, .int a3)]) hx hb dX11_terms_61 hl (by decide) rfl (fun ls hl => ?_)
            obtain ⟨K14, hK14, hf⟩ := fxL_e hf
            have k_K14 : ∀ (σ15 : FH) (H : Heap) (locs : List Loc) (ls : Array Slot), fx_P D cy LX ad σ15 H → va_S A s.heap H locs → lv_has ls 8 [(0, .ref (ad 0)), (3, .int a3)] → K14 σ15 = some (v, σ') → W p l e (fx_R (5)) s m args below meth c H locs 0 0 (fx_Qi D cy LX ad A below args s v σ') (F0 m 95 ls []) := by
              intro σ15 H locs ls hP hS hl hf
              replace hf := fxk1 hK14 hf
              refine lv_iload_n hx hb dX11_terms_95 rfl (lv_at hl 1 rfl) ?_
              refine lv_if_ne (tgt := 117) hx hb dX11_terms_96 (by decide) (fun c16 => ?_) (fun c16 => ?_)
              · replace hf := fx_ie c16 hf
                refine lv_iload_n hx hb dX11_terms_117 rfl (lv_at hl 1 rfl) ?_
                refine lv_iconst hx hb dX11_terms_118 ki_1 ?_
                refine lv_icmp_ne (tgt := 140) hx hb dX11_terms_119 (by decide) (fun c17 => ?_) (fun c17 => ?_)
                · replace hf := fx_ie c17 hf
                  refine lv_aload_n hx hb dX11_terms_140 rfl (lv_at hl 0 rfl) ?_
                  refine gf_X11_52 (v := .ref (ad 10)) hC hP kX_0 rfl dX11_terms_141 ?_
                  obtain ⟨r19, hc18, hf⟩ := fxBP_e hf
                  refine fx_ci hC hS (fx_runV (i := 10) (As := []) (rest := []) hC hP hS (ctX7_allDone l hc18 D cy ad ec _) kX_10 (by decide) rfl kMV_X11_304 kC_X7_allDone hd_X7_allDone rfl ⟨(Nat.le_of_ble_eq_true rfl), (Nat.le_of_ble_eq_true rfl)⟩ ⟨Nat.le_refl 0, Nat.le_refl 0⟩ hl.1 (Nat.le_of_ble_eq_true rfl) rfl dX11_terms_144) (fun H locs hP hS => ?_)
                  exact fx_iretf hf hC hr hk hP hS dX11_terms_147
                · replace hf := fx_it c17 hf
                  refine lv_aload_n hx hb dX11_terms_122 rfl (lv_at hl 0 rfl) ?_
                  refine gf_X11_52 (v := .ref (ad 10)) hC hP kX_0 rfl dX11_terms_123 ?_
                  refine gf_X11_301 (v := .int (σ15.1 10 4)) hC hP kX_10 rfl dX11_terms_126 ?_
                  refine lv_aload_n hx hb dX11_terms_129 rfl (lv_at hl 0 rfl) ?_
                  refine gf_X11_48 (v := .ref (ad 7)) hC hP kX_0 rfl dX11_terms_130 ?_
                  refine gf_X11_301 (v := .int (σ15.1 7 4)) hC hP kX_7 rfl dX11_terms_133 ?_
                  refine lv_isub hx hb dX11_terms_136 ?_
                  refine lv_goto (tgt := 147) hx hb dX11_terms_137 (by decide) ?_
                  exact fx_iretf hf hC hr hk hP hS dX11_terms_147
              · replace hf := fx_it c16 hf
                refine lv_aload_n hx hb dX11_terms_99 rfl (lv_at hl 0 rfl) ?_
                refine gf_X11_52 (v := .ref (ad 10)) hC hP kX_0 rfl dX11_terms_100 ?_
                refine gf_X11_193 (v := .int (σ15.1 10 3)) hC hP kX_10 rfl dX11_terms_103 ?_
                refine lv_aload_n hx hb dX11_terms_106 rfl (lv_at hl 0 rfl) ?_
                refine gf_X11_48 (v := .ref (ad 7)) hC hP kX_0 rfl dX11_terms_107 ?_
                refine gf_X11_193 (v := .int (σ15.1 7 3)) hC hP kX_7 rfl dX11_terms_110 ?_
                refine lv_isub hx hb dX11_terms_113 ?_
                refine lv_goto (tgt := 147) hx hb dX11_terms_114 (by decide) ?_
                exact fx_iretf hf hC hr hk hP hS dX11_terms_147
            have L34 : ∀ (n25 : Nat) (w21 : Int64) (w22 : Int32) (σ23 : FH) (H : Heap) (locs : List Loc) (ls : Array Slot), fx_P D cy LX ad σ23 H → va_S A s.heap H locs → lv_has ls 8 [(0, .ref (ad 0)), (2, .int a2), (3, .int a3), (5, .long w21), (7, .int w22)] → fX11_terms_63 a2 K14 n25 w21 w22 σ23 = some (v, σ') → W p l e (fx_R (5)) s m args below meth c H locs 0 0 (fx_Qi D cy LX ad A below args s v σ') (F0 m 63 ls []) := by
              intro n25
              induction n25 with
              | zero =>
                intro w21 w22 σ23 H locs ls hP hS hl hf
                rw [fX11_terms_63] at hf
                cases hf
              | succ n25 ih24 =>
                intro w21 w22 σ23 H locs ls hP hS hl hf
                rw [fX11_terms_63] at hf
                refine lv_iload hx hb dX11_terms_63 (lv_at hl 4 rfl) ?_
                refine lv_iload_n hx hb dX11_terms_65 rfl (lv_at hl 1 rfl) ?_
                refine lv_icmp_ge (tgt := 95) hx hb dX11_terms_66 (by decide) (fun c26 => ?_) (fun c26 => ?_)
                · replace hf := fx_it c26 hf
                  exact k_K14 σ23 _ _ _ hP hS (lv_sub hl [0, 2] rfl) hf
                · replace hf := fx_ie c26 hf
                  refine lv_aload_n hx hb dX11_terms_69 rfl (lv_at hl 0 rfl) ?_
                  refine lv_lload hx hb dX11_terms_70 (lv_at hl 3 rfl) ?_
                  obtain ⟨r28, σ29, hc27, hf⟩ := fxBJ_e hf
                  refine fx_cl hC hS (fx_runV (i := 0) (As := [.long w21]) (rest := []) hC hP hS (ctX11_drawDeed l hc27 D cy ad ec _) kX_0 (by decide) rfl kMV_X11_297 kC_X11_drawDeed hd_X11_drawDeed rfl ⟨(Nat.le_of_ble_eq_true rfl), (Nat.le_of_ble_eq_true rfl)⟩ ⟨Nat.le_refl 0, Nat.le_refl 0⟩ hl.1 (Nat.le_of_ble_eq_true rfl) rfl dX11_terms_72) (fun H locs hP hS => ?_)
                  refine lv_lstore (lv' := [(5, .long r28), (0, .ref (ad 0)), (2, .int a2), (3, .int a3), (7, .int w22)]) hx hb dX11_terms_75 hl (by decide) rfl (fun ls hl => ?_)
                  refine lv_aload_n hx hb dX11_terms_77 rfl (lv_at hl 1 rfl) ?_
                  refine gf_X11_52 (v := .ref (ad 10)) hC hP kX_0 rfl dX11_terms_78 ?_
                  refine lv_aload_n hx hb dX11_terms_81 rfl (lv_at hl 1 rfl) ?_
                  obtain ⟨h30, hf⟩ := fxG_e hf
                  refine gf_X11_28 (v := .ref (ad (σ29.2.2 2))) hC hP kX_0 rfl dX11_terms_82 ?_
                  obtain ⟨r32, σ33, hc31, hf⟩ := fxBI_e hf
                  refine fx_ci hC hS (fx_runV (i := 10) (As := [.ref (ad (σ29.2.2 2))]) (rest := []) hC hP hS (ctX7_passWeek l hc31 D cy ad ec _) kX_10 (by decide) rfl kMV_X11_168 kC_X7_passWeek hd_X7_passWeek rfl ⟨(Nat.le_of_ble_eq_true rfl), (Nat.le_of_ble_eq_true rfl)⟩ ⟨Nat.le_refl 0, Nat.le_refl 0⟩ hl.1 (Nat.le_of_ble_eq_true rfl) rfl dX11_terms_85) (fun H locs hP hS => ?_)
                  refine lv_pop hx hb dX11_terms_88 rfl ?_
                  refine lv_iinc (v := (w22 + 1)) (lv' := [(7, .int (w22 + 1)), (5, .long r28), (0, .ref (ad 0)), (2, .int a2), (3, .int a3)]) hx hb dX11_terms_89 hl (k := 4) rfl (congrArg (fun z => w22 + z) ki_1) (by decide) rfl (fun ls hl => ?_)
                  refine lv_goto (tgt := 63) hx hb dX11_terms_92 (by decide) ?_
                  exact ih24 r28 (w22 + 1) σ33 _ _ _ hP hS (lv_sub hl [2, 3, 4, 1, 0] rfl) hf
            exact L34 FU v13 0 σ12 _ _ _ hP hS (lv_sub hl [3, 5, 6, 1, 0] rfl) hf
          · replace hf := fx_ie c9 hf
            refine lv_iconst hx hb dX11_terms_43 ki_m1 ?_
            exact fx_iretf hf hC hr hk hP hS dX11_terms_44
    refine lv_if_lt (tgt := 26) hx hb dX11_terms_1 (by decide) (fun c3 => ?_) (fun c3 => ?_)
    · refine lv_iconst hx hb dX11_terms_26 ki_0 ?_
      exact j_v1 0 (if_pos c3).symm ls (lv_sub hl [0, 1, 2, 3] rfl)
    · refine lv_iload_n hx hb dX11_terms_4 rfl (lv_at hl 1 rfl) ?_
      refine lv_sipush hx hb dX11_terms_5 ks_9999 ?_
      refine lv_icmp_gt (tgt := 26) hx hb dX11_terms_8 (by decide) (fun c4 => ?_) (fun c4 => ?_)
      · refine lv_iconst hx hb dX11_terms_26 ki_0 ?_
        exact j_v1 0 ((if_neg c3).trans (if_pos c4)).symm ls (lv_sub hl [0, 1, 2, 3] rfl)
      · refine lv_iload_n hx hb dX11_terms_11 rfl (lv_at hl 2 rfl) ?_
        refine lv_iconst hx hb dX11_terms_12 ki_1 ?_
        refine lv_icmp_lt (tgt := 26) hx hb dX11_terms_13 (by decide) (fun c5 => ?_) (fun c5 => ?_)
        · refine lv_iconst hx hb dX11_terms_26 ki_0 ?_
          exact j_v1 0 (((if_neg c3).trans (if_neg c4)).trans (if_pos c5)).symm ls (lv_sub hl [0, 1, 2, 3] rfl)
        · refine lv_iload_n hx hb dX11_terms_16 rfl (lv_at hl 2 rfl) ?_
          refine lv_bipush hx hb dX11_terms_17 kb_99 ?_
          refine lv_icmp_gt (tgt := 26) hx hb dX11_terms_19 (by decide) (fun c6 => ?_) (fun c6 => ?_)
          · refine lv_iconst hx hb dX11_terms_26 ki_0 ?_
            exact j_v1 0 ((((if_neg c3).trans (if_neg c4)).trans (if_neg c5)).trans (if_pos c6)).symm ls (lv_sub hl [0, 1, 2, 3] rfl)
          · refine lv_iconst hx hb dX11_terms_22 ki_1 ?_
            refine lv_goto (tgt := 27) hx hb dX11_terms_23 (by decide) ?_
            exact j_v1 1 ((((if_neg c3).trans (if_neg c4)).trans (if_neg c5)).trans (if_neg c6)).symm ls (lv_sub hl [0, 1, 2, 3] rfl)
  exact main _ _ _ hP hS hl

set_option maxHeartbeats 4000000 in
set_option maxRecDepth 100000 in
theorem ctX11_mark (l : Launch) {a1 : Int32} {a2 : Int32} {σ σ' : FH} {v : Int32} (hf : fX11_mark a1 a2 σ = some (v, σ')) : fx_Mi l yX11_mark cX11_mark 4 (some .boolean) (3) LX (fun ad ec => [.ref (ad 0), .int a1, .int a2]) σ v σ' := by
  unfold fX11_mark at hf
  refine fx_mi' (own := RX11) rfl (by decide +kernel) ?_
  intro p e s m args below meth c D cy ad ec A hC hr hk hP hS
  have hx := hC.1
  have hb := hC.2.1
  have hl := lv_entry ([.ref (ad 0), .int a1, .int a2]) (n := 4) (Nat.le_of_ble_eq_true rfl)
  show W _ _ _ _ _ _ _ _ _ _ _ _ _ _ _ (entryFrame m ([.ref (ad 0), .int a1, .int a2] : List Value).toArray 4)
  rw [lg_entry_eq]
  generalize (lg_sl ([.ref (ad 0), .int a1, .int a2]) ++ List.replicate (4 - (lg_sl ([.ref (ad 0), .int a1, .int a2])).length) Slot.unset).toArray = ls at hl ⊢
  have hl : lv_has ls 4 [(0, .ref (ad 0)), (1, .int a1), (2, .int a2)] := hl
  have main : ∀ (H : Heap) (locs : List Loc) (ls : Array Slot), fx_P D cy LX ad σ H → va_S A s.heap H locs → lv_has ls 4 [(0, .ref (ad 0)), (1, .int a1), (2, .int a2)] → W p l e (fx_R (3)) s m args below meth c H locs 0 0 (fx_Qi D cy LX ad A below args s v σ') (F0 m 0 ls []) := by
    intro H locs ls hP hS hl
    refine lv_iload_n hx hb dX11_mark_0 rfl (lv_at hl 1 rfl) ?_
    refine lv_if_lt (tgt := 13) hx hb dX11_mark_1 (by decide) (fun c1 => ?_) (fun c1 => ?_)
    · replace hf := fx_it c1 hf
      refine lv_iconst hx hb dX11_mark_13 ki_0 ?_
      exact fx_zretf rfl hf hC hr hk hP hS dX11_mark_14
    · replace hf := fx_ie c1 hf
      refine lv_iload_n hx hb dX11_mark_4 rfl (lv_at hl 1 rfl) ?_
      refine lv_aload_n hx hb dX11_mark_5 rfl (lv_at hl 0 rfl) ?_
      refine gf_X11_75 (v := .ref (ad 50)) hC hP kX_0 rfl dX11_mark_6 ?_
      refine fx_alen (v := 4) hC hP kX_50 (by decide) 5 rfl rfl (by decide) dX11_mark_9 ?_
      refine lv_icmp_lt (tgt := 15) hx hb dX11_mark_10 (by decide) (fun c2 => ?_) (fun c2 => ?_)
      · replace hf := fx_it c2 hf
        refine lv_aload_n hx hb dX11_mark_15 rfl (lv_at hl 0 rfl) ?_
        refine gf_X11_75 (v := .ref (ad 50)) hC hP kX_0 rfl dX11_mark_16 ?_
        refine lv_iload_n hx hb dX11_mark_19 rfl (lv_at hl 1 rfl) ?_
        obtain ⟨h3, hf⟩ := fxG_e hf
        refine fx_aaldM hC hP kX_50 (fx_inp h3) dX11_mark_20 ?_
        refine lv_astore_n (lv' := [(3, .ref (ad (99 + 13 * (Int32.toNatClampNeg a1)))), (0, .ref (ad 0)), (1, .int a1), (2, .int a2)]) hx hb dX11_mark_21 rfl hl (by decide) rfl (fun ls hl => ?_)
        refine lv_iload_n hx hb dX11_mark_22 rfl (lv_at hl 3 rfl) ?_
        refine lv_if_ne (tgt := 44) hx hb dX11_mark_23 (by decide) (fun c4 => ?_) (fun c4 => ?_)
        · replace hf := fx_ie c4 hf
          refine lv_aload_n hx hb dX11_mark_44 rfl (lv_at hl 0 rfl) ?_
          refine gf_X11_311 (v := .int (σ.1 (99 + 13 * (Int32.toNatClampNeg a1)) 0)) hC hP (fx_markK h3) rfl dX11_mark_45 ?_
          refine lv_if_ne (tgt := 53) hx hb dX11_mark_48 (by decide) (fun c5 => ?_) (fun c5 => ?_)
          · replace hf := fx_ie c5 hf
            refine lv_aload_n hx hb dX11_mark_53 rfl (lv_at hl 1 rfl) ?_
            refine gf_X11_48 (v := .ref (ad 7)) hC hP kX_0 rfl dX11_mark_54 ?_
            refine lv_aload_n hx hb dX11_mark_57 rfl (lv_at hl 0 rfl) ?_
            refine gf_X11_315 (v := .ref (ad ((99 + 13 * (Int32.toNatClampNeg a1)) + 1))) hC hP (fx_markK h3) rfl dX11_mark_58 ?_
            obtain ⟨σ8, hc6, hf⟩ := fxBV_e hf
            refine fx_cv hC hS (fx_runV (i := 7) (As := [.ref (ad ((99 + 13 * (Int32.toNatClampNeg a1)) + 1))]) (rest := []) hC hP hS (ctX7_copyOf l hc6 D cy ad ec _) kX_7 (by decide) rfl kMV_X11_182 kC_X7_copyOf hd_X7_copyOf rfl ⟨(Nat.le_of_ble_eq_true rfl), (Nat.le_of_ble_eq_true rfl)⟩ ⟨Nat.le_refl 0, Nat.le_refl 0⟩ hl.1 (Nat.le_of_ble_eq_true rfl) rfl dX11_mark_61) (fun H locs hP hS => ?_)
            refine lv_aload_n hx hb dX11_mark_64 rfl (lv_at hl 1 rfl) ?_
            obtain ⟨h9, hf⟩ := fxG_e hf
            refine gf_X11_38 (v := .ref (ad (σ8.2.2 4))) hC hP kX_0 rfl dX11_mark_65 ?_
            refine lv_aload_n hx hb dX11_mark_68 rfl (lv_at hl 0 rfl) ?_
            refine gf_X11_318 (v := .ref (ad ((99 + 13 * (Int32.toNatClampNeg a1)) + 4))) hC hP (fx_markK h3) rfl dX11_mark_69 ?_
            obtain ⟨σ12, hc10, hf⟩ := fxBV_e hf
            refine fx_cv hC hS (fx_runV (i := (σ8.2.2 4)) (As := [.ref (ad ((99 + 13 * (Int32.toNatClampNeg a1)) + 4))]) (rest := []) hC hP hS (ctX8_copyOf l hc10 D cy ad ec _) h9 (by decide) rfl kMV_X11_319 kC_X8_copyOf hd_X8_copyOf rfl ⟨(Nat.le_of_ble_eq_true rfl), (Nat.le_of_ble_eq_true rfl)⟩ ⟨Nat.le_refl 0, Nat.le_refl 0⟩ hl.1 (Nat.le_of_ble_eq_true rfl) rfl dX11_mark_72) (fun H locs hP hS => ?_)
            refine lv_aload_n hx hb dX11_mark_75 rfl (lv_at hl 1 rfl) ?_
            refine gf_X11_58 (v := .ref (ad 13)) hC hP kX_0 rfl dX11_mark_76 ?_
            refine lv_aload_n hx hb dX11_mark_79 rfl (lv_at hl 0 rfl) ?_
            refine gf_X11_322 (v := .ref (ad ((99 + 13 * (Int32.toNatClampNeg a1)) + 9))) hC hP (fx_markK h3) rfl dX11_mark_80 ?_
            obtain ⟨σ15, hc13, hf⟩ := fxBV_e hf
            refine fx_cv hC hS (fx_runV (i := 13) (As := [.ref (ad ((99 + 13 * (Int32.toNatClampNeg a1)) + 9))]) (rest := []) hC hP hS (ctX6_copyOf l hc13 D cy ad ec _) kX_13 (by decide) rfl kMV_X11_323 kC_X6_copyOf hd_X6_copyOf rfl ⟨(Nat.le_of_ble_eq_true rfl), (Nat.le_of_ble_eq_true rfl)⟩ ⟨Nat.le_refl 0, Nat.le_refl 0⟩ hl.1 (Nat.le_of_ble_eq_true rfl) rfl dX11_mark_83) (fun H locs hP hS => ?_)
            refine lv_aload_n hx hb dX11_mark_86 rfl (lv_at hl 1 rfl) ?_
            refine lv_iconst hx hb dX11_mark_87 ki_0 ?_
            obtain ⟨σ16, eσ16, hf⟩ := fxL_e hf
            refine pf_X11_171 hC hP hS kX_0 dX11_mark_88 (fun H locs hP hS => ?_)
            replace hP := fx_Pe eσ16 hP
            refine lv_iconst hx hb dX11_mark_91 ki_1 ?_
            exact fx_zretf rfl hf hC hr hk hP hS dX11_mark_92
          · replace hf := fx_it c5 hf
            refine lv_iconst hx hb dX11_mark_51 ki_0 ?_
            exact fx_zretf rfl hf hC hr hk hP hS dX11_mark_52
        · replace hf := fx_it c4 hf
          refine lv_aload_n hx hb dX11_mark_26 rfl (lv_at hl 0 rfl) ?_
          refine lv_aload_n hx hb dX11_mark_27 rfl (lv_at hl 1 rfl) ?_
          refine gf_X11_48 (v := .ref (ad 7)) hC hP kX_0 rfl dX11_mark_28 ?_
          refine lv_aload_n hx hb dX11_mark_31 rfl (lv_at hl 1 rfl) ?_
          obtain ⟨h17, hf⟩ := fxG_e hf
          refine gf_X11_38 (v := .ref (ad (σ.2.2 4))) hC hP kX_0 rfl dX11_mark_32 ?_
          refine lv_aload_n hx hb dX11_mark_35 rfl (lv_at hl 1 rfl) ?_
          refine gf_X11_58 (v := .ref (ad 13)) hC hP kX_0 rfl dX11_mark_36 ?_
          obtain ⟨σ20, hc18, hf⟩ := fxBV_e hf
          refine fx_cv hC hS (fx_runV (i := (99 + 13 * (Int32.toNatClampNeg a1))) (As := [.ref (ad 7), .ref (ad (σ.2.2 4)), .ref (ad 13)]) (rest := []) hC hP hS (ctX3_lay l hc18 D cy ad ec _) (fx_markK h3) (by decide) rfl kMV_X11_307 kC_X3_lay hd_X3_lay rfl ⟨(Nat.le_of_ble_eq_true rfl), (Nat.le_of_ble_eq_true rfl)⟩ ⟨Nat.le_refl 0, Nat.le_refl 0⟩ hl.1 (Nat.le_of_ble_eq_true rfl) rfl dX11_mark_39) (fun H locs hP hS => ?_)
          refine lv_iconst hx hb dX11_mark_42 ki_1 ?_
          exact fx_zretf rfl hf hC hr hk hP hS dX11_mark_43
      · replace hf := fx_ie c2 hf
        refine lv_iconst hx hb dX11_mark_13 ki_0 ?_
        exact fx_zretf rfl hf hC hr hk hP hS dX11_mark_14
  exact main _ _ _ hP hS hl

set_option maxHeartbeats 4000000 in
set_option maxRecDepth 100000 in
theorem ctX11_count (l : Launch) {a1 : Int32} {σ : FH} {v : Int32} (hf : fX11_count a1 σ = some v) : fx_Mi l yX11_count cX11_count 2 (some .int) (3) LX (fun ad ec => [.ref (ad 0), .int a1]) σ v σ := by
  unfold fX11_count at hf
  refine fx_mi' (own := RX11) rfl (by decide +kernel) ?_
  intro p e s m args below meth c D cy ad ec A hC hr hk hP hS
  have hx := hC.1
  have hb := hC.2.1
  have hl := lv_entry ([.ref (ad 0), .int a1]) (n := 2) (Nat.le_of_ble_eq_true rfl)
  show W _ _ _ _ _ _ _ _ _ _ _ _ _ _ _ (entryFrame m ([.ref (ad 0), .int a1] : List Value).toArray 2)
  rw [lg_entry_eq]
  generalize (lg_sl ([.ref (ad 0), .int a1]) ++ List.replicate (2 - (lg_sl ([.ref (ad 0), .int a1])).length) Slot.unset).toArray = ls at hl ⊢
  have hl : lv_has ls 2 [(0, .ref (ad 0)), (1, .int a1)] := hl
  have main : ∀ (H : Heap) (locs : List Loc) (ls : Array Slot), fx_P D cy LX ad σ H → va_S A s.heap H locs → lv_has ls 2 [(0, .ref (ad 0)), (1, .int a1)] → W p l e (fx_R (3)) s m args below meth c H locs 0 0 (fx_Qi D cy LX ad A below args s v σ) (F0 m 0 ls []) := by
    intro H locs ls hP hS hl
    refine lv_iload_n hx hb dX11_count_0 rfl (lv_at hl 1 rfl) ?_
    by_cases c1 : a1 = 0
    · replace hf := fx_it c1 hf
      refine lv_tableIn (off := 67) (tgt := 68) hx hb dX11_count_1 (by rw [c1]; decide) (by rw [c1]; decide) (by rw [c1]; rfl) (by decide) ?_
      refine lv_aload_n hx hb dX11_count_68 rfl (lv_at hl 0 rfl) ?_
      obtain ⟨h2, hf⟩ := fxG_e hf
      refine gf_X11_28 (v := .ref (ad (σ.2.2 2))) hC hP kX_0 rfl dX11_count_69 ?_
      refine gf_X11_217 (v := .int (σ.1 (σ.2.2 2) 0)) hC hP h2 rfl dX11_count_72 ?_
      exact fx_iretp hf hC hr hk hP hS dX11_count_75
    replace hf := fx_ie c1 hf
    by_cases c3 : a1 = 1
    · replace hf := fx_it c3 hf
      refine lv_tableIn (off := 75) (tgt := 76) hx hb dX11_count_1 (by rw [c3]; decide) (by rw [c3]; decide) (by rw [c3]; rfl) (by decide) ?_
      refine lv_aload_n hx hb dX11_count_76 rfl (lv_at hl 0 rfl) ?_
      obtain ⟨h4, hf⟩ := fxG_e hf
      refine gf_X11_28 (v := .ref (ad (σ.2.2 2))) hC hP kX_0 rfl dX11_count_77 ?_
      refine gf_X11_234 (v := .int (σ.1 (σ.2.2 2) 5)) hC hP h4 rfl dX11_count_80 ?_
      exact fx_iretp hf hC hr hk hP hS dX11_count_83
    replace hf := fx_ie c3 hf
    by_cases c5 : a1 = 2
    · replace hf := fx_it c5 hf
      refine lv_tableIn (off := 83) (tgt := 84) hx hb dX11_count_1 (by rw [c5]; decide) (by rw [c5]; decide) (by rw [c5]; rfl) (by decide) ?_
      refine lv_aload_n hx hb dX11_count_84 rfl (lv_at hl 0 rfl) ?_
      obtain ⟨h6, hf⟩ := fxG_e hf
      refine gf_X11_28 (v := .ref (ad (σ.2.2 2))) hC hP kX_0 rfl dX11_count_85 ?_
      refine gf_X11_326 (v := .int (σ.1 (σ.2.2 2) 9)) hC hP h6 rfl dX11_count_88 ?_
      exact fx_iretp hf hC hr hk hP hS dX11_count_91
    replace hf := fx_ie c5 hf
    by_cases c7 : a1 = 3
    · replace hf := fx_it c7 hf
      refine lv_tableIn (off := 91) (tgt := 92) hx hb dX11_count_1 (by rw [c7]; decide) (by rw [c7]; decide) (by rw [c7]; rfl) (by decide) ?_
      refine lv_aload_n hx hb dX11_count_92 rfl (lv_at hl 0 rfl) ?_
      refine gf_X11_48 (v := .ref (ad 7)) hC hP kX_0 rfl dX11_count_93 ?_
      refine gf_X11_203 (v := .int (σ.1 7 2)) hC hP kX_7 rfl dX11_count_96 ?_
      exact fx_iretp hf hC hr hk hP hS dX11_count_99
    replace hf := fx_ie c7 hf
    by_cases c8 : a1 = 4
    · replace hf := fx_it c8 hf
      refine lv_tableIn (off := 99) (tgt := 100) hx hb dX11_count_1 (by rw [c8]; decide) (by rw [c8]; decide) (by rw [c8]; rfl) (by decide) ?_
      refine lv_aload_n hx hb dX11_count_100 rfl (lv_at hl 0 rfl) ?_
      refine gf_X11_48 (v := .ref (ad 7)) hC hP kX_0 rfl dX11_count_101 ?_
      refine gf_X11_193 (v := .int (σ.1 7 3)) hC hP kX_7 rfl dX11_count_104 ?_
      exact fx_iretp hf hC hr hk hP hS dX11_count_107
    replace hf := fx_ie c8 hf
    by_cases c9 : a1 = 5
    · replace hf := fx_it c9 hf
      refine lv_tableIn (off := 107) (tgt := 108) hx hb dX11_count_1 (by rw [c9]; decide) (by rw [c9]; decide) (by rw [c9]; rfl) (by decide) ?_
      refine lv_aload_n hx hb dX11_count_108 rfl (lv_at hl 0 rfl) ?_
      refine gf_X11_48 (v := .ref (ad 7)) hC hP kX_0 rfl dX11_count_109 ?_
      obtain ⟨r11, hc10, hf⟩ := fxBP_e hf
      refine fx_ci hC hS (fx_runV (i := 7) (As := []) (rest := []) hC hP hS (ctX7_allDone l hc10 D cy ad ec _) kX_7 (by decide) rfl kMV_X11_304 kC_X7_allDone hd_X7_allDone rfl ⟨(Nat.le_of_ble_eq_true rfl), (Nat.le_of_ble_eq_true rfl)⟩ ⟨Nat.le_refl 0, Nat.le_refl 0⟩ hl.1 (Nat.le_of_ble_eq_true rfl) rfl dX11_count_112) (fun H locs hP hS => ?_)
      exact fx_iretp hf hC hr hk hP hS dX11_count_115
    replace hf := fx_ie c9 hf
    by_cases c13 : a1 = 6
    · replace hf := fx_it c13 hf
      refine lv_tableIn (off := 115) (tgt := 116) hx hb dX11_count_1 (by rw [c13]; decide) (by rw [c13]; decide) (by rw [c13]; rfl) (by decide) ?_
      refine lv_aload_n hx hb dX11_count_116 rfl (lv_at hl 0 rfl) ?_
      refine gf_X11_48 (v := .ref (ad 7)) hC hP kX_0 rfl dX11_count_117 ?_
      refine lv_aload_n hx hb dX11_count_120 rfl (lv_at hl 0 rfl) ?_
      obtain ⟨h14, hf⟩ := fxG_e hf
      refine gf_X11_28 (v := .ref (ad (σ.2.2 2))) hC hP kX_0 rfl dX11_count_121 ?_
      obtain ⟨r16, hc15, hf⟩ := fxBP_e hf
      refine fx_ci hC hS (fx_runV (i := 7) (As := [.ref (ad (σ.2.2 2))]) (rest := []) hC hP hS (ctX7_halfDone l hc15 D cy ad ec _) kX_7 (by decide) rfl kMV_X11_220 kC_X7_halfDone hd_X7_halfDone rfl ⟨(Nat.le_of_ble_eq_true rfl), (Nat.le_of_ble_eq_true rfl)⟩ ⟨Nat.le_refl 0, Nat.le_refl 0⟩ hl.1 (Nat.le_of_ble_eq_true rfl) rfl dX11_count_124) (fun H locs hP hS => ?_)
      exact fx_iretp hf hC hr hk hP hS dX11_count_127
    replace hf := fx_ie c13 hf
    by_cases c18 : a1 = 7
    · replace hf := fx_it c18 hf
      refine lv_tableIn (off := 127) (tgt := 128) hx hb dX11_count_1 (by rw [c18]; decide) (by rw [c18]; decide) (by rw [c18]; rfl) (by decide) ?_
      refine lv_aload_n hx hb dX11_count_128 rfl (lv_at hl 0 rfl) ?_
      refine gf_X11_48 (v := .ref (ad 7)) hC hP kX_0 rfl dX11_count_129 ?_
      obtain ⟨r20, hc19, hf⟩ := fxBP_e hf
      refine fx_ci hC hS (fx_runV (i := 7) (As := []) (rest := []) hC hP hS (ctX7_allSeats l hc19 D cy ad ec _) kX_7 (by decide) rfl kMV_X11_121 kC_X7_allSeats hd_X7_allSeats rfl ⟨(Nat.le_of_ble_eq_true rfl), (Nat.le_of_ble_eq_true rfl)⟩ ⟨Nat.le_refl 0, Nat.le_refl 0⟩ hl.1 (Nat.le_of_ble_eq_true rfl) rfl dX11_count_132) (fun H locs hP hS => ?_)
      exact fx_iretp hf hC hr hk hP hS dX11_count_135
    replace hf := fx_ie c18 hf
    by_cases c22 : a1 = 8
    · replace hf := fx_it c22 hf
      refine lv_tableIn (off := 135) (tgt := 136) hx hb dX11_count_1 (by rw [c22]; decide) (by rw [c22]; decide) (by rw [c22]; rfl) (by decide) ?_
      refine lv_aload_n hx hb dX11_count_136 rfl (lv_at hl 0 rfl) ?_
      refine gf_X11_48 (v := .ref (ad 7)) hC hP kX_0 rfl dX11_count_137 ?_
      refine gf_X11_301 (v := .int (σ.1 7 4)) hC hP kX_7 rfl dX11_count_140 ?_
      exact fx_iretp hf hC hr hk hP hS dX11_count_143
    replace hf := fx_ie c22 hf
    by_cases c23 : a1 = 9
    · replace hf := fx_it c23 hf
      refine lv_tableIn (off := 143) (tgt := 144) hx hb dX11_count_1 (by rw [c23]; decide) (by rw [c23]; decide) (by rw [c23]; rfl) (by decide) ?_
      refine lv_aload_n hx hb dX11_count_144 rfl (lv_at hl 0 rfl) ?_
      obtain ⟨h24, hf⟩ := fxG_e hf
      refine gf_X11_38 (v := .ref (ad (σ.2.2 4))) hC hP kX_0 rfl dX11_count_145 ?_
      refine gf_X11_190 (v := .int (σ.1 (σ.2.2 4) 0)) hC hP h24 rfl dX11_count_148 ?_
      exact fx_iretp hf hC hr hk hP hS dX11_count_151
    replace hf := fx_ie c23 hf
    by_cases c25 : a1 = 10
    · replace hf := fx_it c25 hf
      refine lv_tableIn (off := 151) (tgt := 152) hx hb dX11_count_1 (by rw [c25]; decide) (by rw [c25]; decide) (by rw [c25]; rfl) (by decide) ?_
      refine lv_aload_n hx hb dX11_count_152 rfl (lv_at hl 0 rfl) ?_
      refine gf_X11_58 (v := .ref (ad 13)) hC hP kX_0 rfl dX11_count_153 ?_
      refine gf_X11_329 (v := .int (σ.1 13 0)) hC hP kX_13 rfl dX11_count_156 ?_
      exact fx_iretp hf hC hr hk hP hS dX11_count_159
    replace hf := fx_ie c25 hf
    by_cases c26 : a1 = 11
    · replace hf := fx_it c26 hf
      refine lv_tableIn (off := 159) (tgt := 160) hx hb dX11_count_1 (by rw [c26]; decide) (by rw [c26]; decide) (by rw [c26]; rfl) (by decide) ?_
      refine lv_aload_n hx hb dX11_count_160 rfl (lv_at hl 0 rfl) ?_
      refine gf_X11_171 (v := .int (σ.1 0 11)) hC hP kX_0 rfl dX11_count_161 ?_
      exact fx_iretp hf hC hr hk hP hS dX11_count_164
    replace hf := fx_ie c26 hf
    by_cases c27 : a1 = 12
    · replace hf := fx_it c27 hf
      refine lv_tableIn (off := 164) (tgt := 165) hx hb dX11_count_1 (by rw [c27]; decide) (by rw [c27]; decide) (by rw [c27]; rfl) (by decide) ?_
      refine lv_aload_n hx hb dX11_count_165 rfl (lv_at hl 0 rfl) ?_
      refine gf_X11_10 (v := .ref (ad 3)) hC hP kX_0 rfl dX11_count_166 ?_
      refine gf_X11_84 (v := .int (σ.1 3 1)) hC hP kX_3 rfl dX11_count_169 ?_
      exact fx_iretp hf hC hr hk hP hS dX11_count_172
    replace hf := fx_ie c27 hf
    have qc1 := fx_ne32 (z := 0) rfl c1
    have qc3 := fx_ne32 (z := 1) rfl c3
    have qc5 := fx_ne32 (z := 2) rfl c5
    have qc7 := fx_ne32 (z := 3) rfl c7
    have qc8 := fx_ne32 (z := 4) rfl c8
    have qc9 := fx_ne32 (z := 5) rfl c9
    have qc13 := fx_ne32 (z := 6) rfl c13
    have qc18 := fx_ne32 (z := 7) rfl c18
    have qc22 := fx_ne32 (z := 8) rfl c22
    have qc23 := fx_ne32 (z := 9) rfl c23
    have qc25 := fx_ne32 (z := 10) rfl c25
    have qc26 := fx_ne32 (z := 11) rfl c26
    have qc27 := fx_ne32 (z := 12) rfl c27
    refine lv_tableOut (tgt := 173) hx hb dX11_count_1 (by omega) (by decide) ?_
    refine lv_iconst hx hb dX11_count_173 ki_m1 ?_
    exact fx_iretp hf hC hr hk hP hS dX11_count_174
  exact main _ _ _ hP hS hl

set_option maxHeartbeats 4000000 in
set_option maxRecDepth 100000 in
theorem ctX11_isStake (l : Launch) {a0 : Int32} {σ : FH} {v : Int32} (hf : fX11_isStake a0 σ = some v) : fx_Mi l yX11_isStake cX11_isStake 1 (some .boolean) (0) LX (fun ad ec => [.int a0]) σ v σ := by
  unfold fX11_isStake at hf
  refine fx_mi' (own := RX11) rfl (by decide +kernel) ?_
  intro p e s m args below meth c D cy ad ec A hC hr hk hP hS
  have hx := hC.1
  have hb := hC.2.1
  have hl := lv_entry ([.int a0]) (n := 1) (Nat.le_of_ble_eq_true rfl)
  show W _ _ _ _ _ _ _ _ _ _ _ _ _ _ _ (entryFrame m ([.int a0] : List Value).toArray 1)
  rw [lg_entry_eq]
  generalize (lg_sl ([.int a0]) ++ List.replicate (1 - (lg_sl ([.int a0])).length) Slot.unset).toArray = ls at hl ⊢
  have hl : lv_has ls 1 [(0, .int a0)] := hl
  have main : ∀ (H : Heap) (locs : List Loc) (ls : Array Slot), fx_P D cy LX ad σ H → va_S A s.heap H locs → lv_has ls 1 [(0, .int a0)] → W p l e (fx_R (0)) s m args below meth c H locs 0 0 (fx_Qi D cy LX ad A below args s v σ) (F0 m 0 ls []) := by
    intro H locs ls hP hS hl
    refine lv_iload_n hx hb dX11_isStake_0 rfl (lv_at hl 0 rfl) ?_
    obtain ⟨v1, ev1, hf⟩ := fxL_e hf
    have j_v1 : ∀ (z2 : Int32), z2 = ((if a0 < 0 then 0 else (if 9 < a0 then 0 else 1)) : Int32) → ∀ (ls : Array Slot), lv_has ls 1 [] → W p l e (fx_R (0)) s m args below meth c H locs 0 0 (fx_Qi D cy LX ad A below args s v σ) (F0 m 15 ls [.int z2]) := by
      intro z2 hz2 ls hl
      obtain rfl : v1 = z2 := ev1.trans hz2.symm
      obtain ⟨h5, hf⟩ := fxG_e hf
      exact fx_zretp (fx_bon h5) hf hC hr hk hP hS dX11_isStake_15
    refine lv_if_lt (tgt := 14) hx hb dX11_isStake_1 (by decide) (fun c3 => ?_) (fun c3 => ?_)
    · refine lv_iconst hx hb dX11_isStake_14 ki_0 ?_
      exact j_v1 0 (if_pos c3).symm ls (lv_sub hl [] rfl)
    · refine lv_iload_n hx hb dX11_isStake_4 rfl (lv_at hl 0 rfl) ?_
      refine lv_bipush hx hb dX11_isStake_5 kb_9 ?_
      refine lv_icmp_gt (tgt := 14) hx hb dX11_isStake_7 (by decide) (fun c4 => ?_) (fun c4 => ?_)
      · refine lv_iconst hx hb dX11_isStake_14 ki_0 ?_
        exact j_v1 0 ((if_neg c3).trans (if_pos c4)).symm ls (lv_sub hl [] rfl)
      · refine lv_iconst hx hb dX11_isStake_10 ki_1 ?_
        refine lv_goto (tgt := 15) hx hb dX11_isStake_11 (by decide) ?_
        exact j_v1 1 ((if_neg c3).trans (if_neg c4)).symm ls (lv_sub hl [] rfl)
  exact main _ _ _ hP hS hl

set_option maxHeartbeats 4000000 in
set_option maxRecDepth 100000 in
theorem ctX11_gain (l : Launch) {a0 : Int32} {a1 : Int32} {a2 : Int32} {a3 : Int32} {a4 : Int32} {σ : FH} {v : Int32} (hf : fX11_gain a0 a1 a2 a3 a4 σ = some v) : fx_Mi l yX11_gain cX11_gain 5 (some .int) (0) LX (fun ad ec => [.int a0, .int a1, .int a2, .int a3, .int a4]) σ v σ := by
  unfold fX11_gain at hf
  refine fx_mi' (own := RX11) rfl (by decide +kernel) ?_
  intro p e s m args below meth c D cy ad ec A hC hr hk hP hS
  have hx := hC.1
  have hb := hC.2.1
  have hl := lv_entry ([.int a0, .int a1, .int a2, .int a3, .int a4]) (n := 5) (Nat.le_of_ble_eq_true rfl)
  show W _ _ _ _ _ _ _ _ _ _ _ _ _ _ _ (entryFrame m ([.int a0, .int a1, .int a2, .int a3, .int a4] : List Value).toArray 5)
  rw [lg_entry_eq]
  generalize (lg_sl ([.int a0, .int a1, .int a2, .int a3, .int a4]) ++ List.replicate (5 - (lg_sl ([.int a0, .int a1, .int a2, .int a3, .int a4])).length) Slot.unset).toArray = ls at hl ⊢
  have hl : lv_has ls 5 [(0, .int a0), (1, .int a1), (2, .int a2), (3, .int a3), (4, .int a4)] := hl
  have main : ∀ (H : Heap) (locs : List Loc) (ls : Array Slot), fx_P D cy LX ad σ H → va_S A s.heap H locs → lv_has ls 5 [(0, .int a0), (1, .int a1), (2, .int a2), (3, .int a3), (4, .int a4)] → W p l e (fx_R (0)) s m args below meth c H locs 0 0 (fx_Qi D cy LX ad A below args s v σ) (F0 m 0 ls []) := by
    intro H locs ls hP hS hl
    refine lv_iload_n hx hb dX11_gain_0 rfl (lv_at hl 0 rfl) ?_
    refine lv_iconst hx hb dX11_gain_1 ki_1 ?_
    refine lv_icmp_ne (tgt := 17) hx hb dX11_gain_2 (by decide) (fun c1 => ?_) (fun c1 => ?_)
    · replace hf := fx_ie c1 hf
      refine lv_iload_n hx hb dX11_gain_17 rfl (lv_at hl 1 rfl) ?_
      refine lv_iconst hx hb dX11_gain_18 ki_1 ?_
      obtain ⟨v2, ev2, hf⟩ := fxL_e hf
      have j_v2 : ∀ (z3 : Int32), z3 = ((if a1 = 1 then a4 else 0) : Int32) → ∀ (ls : Array Slot), lv_has ls 5 [] → W p l e (fx_R (0)) s m args below meth c H locs 0 0 (fx_Qi D cy LX ad A below args s v σ) (F0 m 28 ls [.int z3]) := by
        intro z3 hz3 ls hl
        obtain rfl : v2 = z3 := ev2.trans hz3.symm
        exact fx_iretp hf hC hr hk hP hS dX11_gain_28
      refine lv_icmp_ne (tgt := 27) hx hb dX11_gain_19 (by decide) (fun c4 => ?_) (fun c4 => ?_)
      · refine lv_iconst hx hb dX11_gain_27 ki_0 ?_
        exact j_v2 0 (if_neg c4).symm ls (lv_sub hl [] rfl)
      · refine lv_iload hx hb dX11_gain_22 (lv_at hl 4 rfl) ?_
        refine lv_goto (tgt := 28) hx hb dX11_gain_24 (by decide) ?_
        exact j_v2 a4 (if_pos c4).symm ls (lv_sub hl [] rfl)
    · replace hf := fx_it c1 hf
      refine lv_iload_n hx hb dX11_gain_5 rfl (lv_at hl 1 rfl) ?_
      refine lv_iconst hx hb dX11_gain_6 ki_1 ?_
      obtain ⟨v5, ev5, hf⟩ := fxL_e hf
      have j_v5 : ∀ (z6 : Int32), z6 = ((if a1 = 1 then (-a2) else a3) : Int32) → ∀ (ls : Array Slot), lv_has ls 5 [] → W p l e (fx_R (0)) s m args below meth c H locs 0 0 (fx_Qi D cy LX ad A below args s v σ) (F0 m 16 ls [.int z6]) := by
        intro z6 hz6 ls hl
        obtain rfl : v5 = z6 := ev5.trans hz6.symm
        exact fx_iretp hf hC hr hk hP hS dX11_gain_16
      refine lv_icmp_ne (tgt := 15) hx hb dX11_gain_7 (by decide) (fun c7 => ?_) (fun c7 => ?_)
      · refine lv_iload_n hx hb dX11_gain_15 rfl (lv_at hl 3 rfl) ?_
        exact j_v5 a3 (if_neg c7).symm ls (lv_sub hl [] rfl)
      · refine lv_iload_n hx hb dX11_gain_10 rfl (lv_at hl 2 rfl) ?_
        refine lv_ineg hx hb dX11_gain_11 ?_
        refine lv_goto (tgt := 16) hx hb dX11_gain_12 (by decide) ?_
        exact j_v5 (-a2) (if_pos c7).symm ls (lv_sub hl [] rfl)
  exact main _ _ _ hP hS hl

set_option maxHeartbeats 4000000 in
set_option maxRecDepth 100000 in
theorem ctX11_isAtRest (l : Launch) {a0 : Int32} {a1 : Int32} {a2 : Int32} {a3 : Int32} {σ : FH} {v : Int32} (hf : fX11_isAtRest a0 a1 a2 a3 σ = some v) : fx_Mi l yX11_isAtRest cX11_isAtRest 6 (some .boolean) (1) LX (fun ad ec => [.int a0, .int a1, .int a2, .int a3]) σ v σ := by
  unfold fX11_isAtRest at hf
  refine fx_mi' (own := RX11) rfl (by decide +kernel) ?_
  intro p e s m args below meth c D cy ad ec A hC hr hk hP hS
  have hx := hC.1
  have hb := hC.2.1
  have hl := lv_entry ([.int a0, .int a1, .int a2, .int a3]) (n := 6) (Nat.le_of_ble_eq_true rfl)
  show W _ _ _ _ _ _ _ _ _ _ _ _ _ _ _ (entryFrame m ([.int a0, .int a1, .int a2, .int a3] : List Value).toArray 6)
  rw [lg_entry_eq]
  generalize (lg_sl ([.int a0, .int a1, .int a2, .int a3]) ++ List.replicate (6 - (lg_sl ([.int a0, .int a1, .int a2, .int a3])).length) Slot.unset).toArray = ls at hl ⊢
  have hl : lv_has ls 6 [(0, .int a0), (1, .int a1), (2, .int a2), (3, .int a3)] := hl
  have main : ∀ (H : Heap) (locs : List Loc) (ls : Array Slot), fx_P D cy LX ad σ H → va_S A s.heap H locs → lv_has ls 6 [(0, .int a0), (1, .int a1), (2, .int a2), (3, .int a3)] → W p l e (fx_R (1)) s m args below meth c H locs 0 0 (fx_Qi D cy LX ad A below args s v σ) (F0 m 0 ls []) := by
    intro H locs ls hP hS hl
    refine lv_iload_n hx hb dX11_isAtRest_0 rfl (lv_at hl 0 rfl) ?_
    refine lv_iconst hx hb dX11_isAtRest_1 ki_2 ?_
    refine lv_idiv hx hb dX11_isAtRest_2 (by decide) ?_
    obtain ⟨v1, ev1, hf⟩ := fxL_e hf
    refine fx_ti ev1 ?_
    refine lv_istore (lv' := [(4, .int v1), (0, .int a0), (1, .int a1), (2, .int a2), (3, .int a3)]) hx hb dX11_isAtRest_3 hl (by decide) rfl (fun ls hl => ?_)
    refine lv_iload_n hx hb dX11_isAtRest_5 rfl (lv_at hl 1 rfl) ?_
    refine lv_iconst hx hb dX11_isAtRest_6 ki_2 ?_
    refine lv_irem hx hb dX11_isAtRest_7 (by decide) ?_
    obtain ⟨v2, ev2, hf⟩ := fxL_e hf
    refine fx_ti ev2 ?_
    refine lv_istore (lv' := [(5, .int v2), (4, .int v1), (0, .int a0), (1, .int a1), (2, .int a2), (3, .int a3)]) hx hb dX11_isAtRest_8 hl (by decide) rfl (fun ls hl => ?_)
    refine lv_iload hx hb dX11_isAtRest_10 (lv_at hl 1 rfl) ?_
    refine lv_iload hx hb dX11_isAtRest_12 (lv_at hl 0 rfl) ?_
    refine lv_iload_n hx hb dX11_isAtRest_14 rfl (lv_at hl 3 rfl) ?_
    refine lv_iload_n hx hb dX11_isAtRest_15 rfl (lv_at hl 4 rfl) ?_
    refine lv_iload_n hx hb dX11_isAtRest_16 rfl (lv_at hl 5 rfl) ?_
    obtain ⟨r4, hc3, hf⟩ := fxBP_e hf
    refine fx_ci hC hS (fx_runS (As := [.int v1, .int v2, .int a1, .int a2, .int a3]) (rest := []) hC hP hS (ctX11_gain l hc3 D cy ad ec _) kMS_X11_350 kC_X11_gain hd_X11_gain.2 rfl ⟨(Nat.le_of_ble_eq_true rfl), (Nat.le_of_ble_eq_true rfl)⟩ ⟨Nat.le_refl 0, Nat.le_refl 0⟩ hl.1 (Nat.le_of_ble_eq_true rfl) rfl dX11_isAtRest_17) (fun H locs hP hS => ?_)
    refine lv_iconst hx hb dX11_isAtRest_20 ki_1 ?_
    refine lv_iload hx hb dX11_isAtRest_21 (lv_at hl 1 rfl) ?_
    refine lv_isub hx hb dX11_isAtRest_23 ?_
    refine lv_iload hx hb dX11_isAtRest_24 (lv_at hl 0 rfl) ?_
    refine lv_iload_n hx hb dX11_isAtRest_26 rfl (lv_at hl 3 rfl) ?_
    refine lv_iload_n hx hb dX11_isAtRest_27 rfl (lv_at hl 4 rfl) ?_
    refine lv_iload_n hx hb dX11_isAtRest_28 rfl (lv_at hl 5 rfl) ?_
    obtain ⟨r7, hc6, hf⟩ := fxBP_e hf
    refine fx_ci hC hS (fx_runS (As := [.int (1 - v1), .int v2, .int a1, .int a2, .int a3]) (rest := [.int r4]) hC hP hS (ctX11_gain l hc6 D cy ad ec _) kMS_X11_350 kC_X11_gain hd_X11_gain.2 rfl ⟨(Nat.le_of_ble_eq_true rfl), (Nat.le_of_ble_eq_true rfl)⟩ ⟨Nat.le_refl 0, Nat.le_refl 0⟩ hl.1 (Nat.le_of_ble_eq_true rfl) rfl dX11_isAtRest_29) (fun H locs hP hS => ?_)
    refine lv_icmp_lt (tgt := 64) hx hb dX11_isAtRest_32 (by decide) (fun c9 => ?_) (fun c9 => ?_)
    · replace hf := fx_it c9 hf
      refine lv_iconst hx hb dX11_isAtRest_64 ki_0 ?_
      exact fx_zretp rfl hf hC hr hk hP hS dX11_isAtRest_65
    · replace hf := fx_ie c9 hf
      refine lv_iload hx hb dX11_isAtRest_35 (lv_at hl 0 rfl) ?_
      refine lv_iload hx hb dX11_isAtRest_37 (lv_at hl 1 rfl) ?_
      refine lv_iload_n hx hb dX11_isAtRest_39 rfl (lv_at hl 3 rfl) ?_
      refine lv_iload_n hx hb dX11_isAtRest_40 rfl (lv_at hl 4 rfl) ?_
      refine lv_iload_n hx hb dX11_isAtRest_41 rfl (lv_at hl 5 rfl) ?_
      obtain ⟨r11, hc10, hf⟩ := fxBP_e hf
      refine fx_ci hC hS (fx_runS (As := [.int v2, .int v1, .int a1, .int a2, .int a3]) (rest := []) hC hP hS (ctX11_gain l hc10 D cy ad ec _) kMS_X11_350 kC_X11_gain hd_X11_gain.2 rfl ⟨(Nat.le_of_ble_eq_true rfl), (Nat.le_of_ble_eq_true rfl)⟩ ⟨Nat.le_refl 0, Nat.le_refl 0⟩ hl.1 (Nat.le_of_ble_eq_true rfl) rfl dX11_isAtRest_42) (fun H locs hP hS => ?_)
      refine lv_iconst hx hb dX11_isAtRest_45 ki_1 ?_
      refine lv_iload hx hb dX11_isAtRest_46 (lv_at hl 0 rfl) ?_
      refine lv_isub hx hb dX11_isAtRest_48 ?_
      refine lv_iload hx hb dX11_isAtRest_49 (lv_at hl 1 rfl) ?_
      refine lv_iload_n hx hb dX11_isAtRest_51 rfl (lv_at hl 3 rfl) ?_
      refine lv_iload_n hx hb dX11_isAtRest_52 rfl (lv_at hl 4 rfl) ?_
      refine lv_iload_n hx hb dX11_isAtRest_53 rfl (lv_at hl 5 rfl) ?_
      obtain ⟨r14, hc13, hf⟩ := fxBP_e hf
      refine fx_ci hC hS (fx_runS (As := [.int (1 - v2), .int v1, .int a1, .int a2, .int a3]) (rest := [.int r11]) hC hP hS (ctX11_gain l hc13 D cy ad ec _) kMS_X11_350 kC_X11_gain hd_X11_gain.2 rfl ⟨(Nat.le_of_ble_eq_true rfl), (Nat.le_of_ble_eq_true rfl)⟩ ⟨Nat.le_refl 0, Nat.le_refl 0⟩ hl.1 (Nat.le_of_ble_eq_true rfl) rfl dX11_isAtRest_54) (fun H locs hP hS => ?_)
      refine lv_icmp_lt (tgt := 64) hx hb dX11_isAtRest_57 (by decide) (fun c16 => ?_) (fun c16 => ?_)
      · replace hf := fx_it c16 hf
        refine lv_iconst hx hb dX11_isAtRest_64 ki_0 ?_
        exact fx_zretp rfl hf hC hr hk hP hS dX11_isAtRest_65
      · replace hf := fx_ie c16 hf
        refine lv_iconst hx hb dX11_isAtRest_60 ki_1 ?_
        refine lv_goto (tgt := 65) hx hb dX11_isAtRest_61 (by decide) ?_
        exact fx_zretp rfl hf hC hr hk hP hS dX11_isAtRest_65
  exact main _ _ _ hP hS hl
