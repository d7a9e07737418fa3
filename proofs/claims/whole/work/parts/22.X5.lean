set_option maxHeartbeats 4000000 in
set_option maxRecDepth 100000 in
theorem ctX0_meet (l : Launch) {a1 : Int32} {a2 : Nat} {na2 : Nat} {σ σ' : FH} (hf : fX0_meet a1 a2 na2 σ = some σ') : fx_Mv l yX0_meet cX0_meet 5 none (0) LX (fun ad ec => [.ref (ad 5), .int a1, .ref (ad a2)]) σ σ' := by
  unfold fX0_meet at hf
  obtain ⟨h_a2, hf⟩ := fxG_e hf
  refine fx_mv' (own := RX0) rfl (by decide +kernel) ?_
  intro p e s m args below meth c D cy ad ec A hC hr hk hP hS
  have hx := hC.1
  have hb := hC.2.1
  have hl := lv_entry ([.ref (ad 5), .int a1, .ref (ad a2)]) (n := 5) (Nat.le_of_ble_eq_true rfl)
  show W _ _ _ _ _ _ _ _ _ _ _ _ _ _ _ (entryFrame m ([.ref (ad 5), .int a1, .ref (ad a2)] : List Value).toArray 5)
  rw [lg_entry_eq]
  generalize (lg_sl ([.ref (ad 5), .int a1, .ref (ad a2)]) ++ List.replicate (5 - (lg_sl ([.ref (ad 5), .int a1, .ref (ad a2)])).length) Slot.unset).toArray = ls at hl ⊢
  have hl : lv_has ls 5 [(0, .ref (ad 5)), (1, .int a1), (2, .ref (ad a2))] := hl
  have main : ∀ (H : Heap) (locs : List Loc) (ls : Array Slot), fx_P D cy LX ad σ H → va_S A s.heap H locs → lv_has ls 5 [(0, .ref (ad 5)), (1, .int a1), (2, .ref (ad a2))] → W p l e (fx_R (0)) s m args below meth c H locs 0 0 (fx_Qv D cy LX ad A below args s σ') (F0 m 0 ls []) := by
    intro H locs ls hP hS hl
    refine lv_aload_n hx hb dX0_meet_0 rfl (lv_at hl 0 rfl) ?_
    refine gf_X0_9 (v := .ref (ad 6)) hC hP kX_5 rfl dX0_meet_1 ?_
    refine lv_iconst hx hb dX0_meet_4 ki_0 ?_
    refine lv_iconst hx hb dX0_meet_5 ki_0 ?_
    obtain ⟨h1, hf⟩ := fxG_e hf
    obtain ⟨σ2, eσ2, hf⟩ := fxL_e hf
    refine fx_iast hC hP hS kX_6 (fx_inp h1) dX0_meet_6 (fun H locs hP hS => ?_)
    replace hP := fx_Pe eσ2 hP
    refine lv_aload_n hx hb dX0_meet_7 rfl (lv_at hl 0 rfl) ?_
    refine lv_iconst hx hb dX0_meet_8 ki_1 ?_
    obtain ⟨σ3, eσ3, hf⟩ := fxL_e hf
    refine pf_X0_15 hC hP hS kX_5 dX0_meet_9 (fun H locs hP hS => ?_)
    replace hP := fx_Pe eσ3 hP
    refine lv_iconst hx hb dX0_meet_12 ki_0 ?_
    refine lv_istore_n (lv' := [(3, .int 0), (0, .ref (ad 5)), (1, .int a1), (2, .ref (ad a2))]) hx hb dX0_meet_13 rfl hl (by decide) rfl (fun ls hl => ?_)
    obtain ⟨K4, hK4, hf⟩ := fxL_e hf
    have k_K4 : ∀ (σ5 : FH) (H : Heap) (locs : List Loc) (ls : Array Slot), fx_P D cy LX ad σ5 H → va_S A s.heap H locs → lv_has ls 5 [(0, .ref (ad 5))] → K4 σ5 = some σ' → W p l e (fx_R (0)) s m args below meth c H locs 0 0 (fx_Qv D cy LX ad A below args s σ') (F0 m 81 ls []) := by
      intro σ5 H locs ls hP hS hl hf
      replace hf := fxk1 hK4 hf
      refine lv_aload_n hx hb dX0_meet_81 rfl (lv_at hl 0 rfl) ?_
      refine lv_aload_n hx hb dX0_meet_82 rfl (lv_at hl 0 rfl) ?_
      refine gf_X0_9 (v := .ref (ad 6)) hC hP kX_5 rfl dX0_meet_83 ?_
      refine lv_aload_n hx hb dX0_meet_86 rfl (lv_at hl 0 rfl) ?_
      refine gf_X0_15 (v := .int (σ5.1 5 1)) hC hP kX_5 rfl dX0_meet_87 ?_
      refine lv_iconst hx hb dX0_meet_90 ki_1 ?_
      refine lv_isub hx hb dX0_meet_91 ?_
      obtain ⟨h6, hf⟩ := fxG_e hf
      refine fx_iald hC hP kX_6 (fx_inp h6) dX0_meet_92 ?_
      obtain ⟨σ7, eσ7, hf⟩ := fxL_e hf
      refine pf_X0_19 hC hP hS kX_5 dX0_meet_93 (fun H locs hP hS => ?_)
      replace hP := fx_Pe eσ7 hP
      exact fx_vretf hf hC hr hk hP hS dX0_meet_96
    have L27 : ∀ (n11 : Nat) (w8 : Int32) (σ9 : FH) (H : Heap) (locs : List Loc) (ls : Array Slot), fx_P D cy LX ad σ9 H → va_S A s.heap H locs → lv_has ls 5 [(0, .ref (ad 5)), (1, .int a1), (2, .ref (ad a2)), (3, .int w8)] → fX0_meet_14 a1 a2 na2 K4 n11 w8 σ9 = some σ' → W p l e (fx_R (0)) s m args below meth c H locs 0 0 (fx_Qv D cy LX ad A below args s σ') (F0 m 14 ls []) := by
      intro n11
      induction n11 with
      | zero =>
        intro w8 σ9 H locs ls hP hS hl hf
        rw [fX0_meet_14] at hf
        cases hf
      | succ n11 ih10 =>
        intro w8 σ9 H locs ls hP hS hl hf
        rw [fX0_meet_14] at hf
        refine lv_iload_n hx hb dX0_meet_14 rfl (lv_at hl 3 rfl) ?_
        refine lv_iload_n hx hb dX0_meet_15 rfl (lv_at hl 1 rfl) ?_
        refine lv_icmp_ge (tgt := 81) hx hb dX0_meet_16 (by decide) (fun c12 => ?_) (fun c12 => ?_)
        · replace hf := fx_it c12 hf
          exact k_K4 σ9 _ _ _ hP hS (lv_sub hl [0] rfl) hf
        · replace hf := fx_ie c12 hf
          refine lv_iload_n hx hb dX0_meet_19 rfl (lv_at hl 3 rfl) ?_
          refine lv_iconst hx hb dX0_meet_20 ki_5 ?_
          refine lv_icmp_ge (tgt := 81) hx hb dX0_meet_21 (by decide) (fun c13 => ?_) (fun c13 => ?_)
          · replace hf := fx_it c13 hf
            exact k_K4 σ9 _ _ _ hP hS (lv_sub hl [0] rfl) hf
          · replace hf := fx_ie c13 hf
            refine lv_iconst hx hb dX0_meet_24 ki_0 ?_
            refine lv_istore (lv' := [(4, .int 0), (0, .ref (ad 5)), (1, .int a1), (2, .ref (ad a2)), (3, .int w8)]) hx hb dX0_meet_25 hl (by decide) rfl (fun ls hl => ?_)
            obtain ⟨K14, hK14, hf⟩ := fxL_e hf
            have k_K14 : ∀ (σ15 : FH) (H : Heap) (locs : List Loc) (ls : Array Slot), fx_P D cy LX ad σ15 H → va_S A s.heap H locs → lv_has ls 5 [(0, .ref (ad 5)), (1, .int a1), (2, .ref (ad a2)), (3, .int w8)] → K14 σ15 = some σ' → W p l e (fx_R (0)) s m args below meth c H locs 0 0 (fx_Qv D cy LX ad A below args s σ') (F0 m 65 ls []) := by
              intro σ15 H locs ls hP hS hl hf
              replace hf := fxk1 hK14 hf
              refine lv_aload_n hx hb dX0_meet_65 rfl (lv_at hl 0 rfl) ?_
              refine lv_dup hx hb dX0_meet_66 rfl ?_
              refine gf_X0_15 (v := .int (σ15.1 5 1)) hC hP kX_5 rfl dX0_meet_67 ?_
              refine lv_iconst hx hb dX0_meet_70 ki_2 ?_
              refine lv_imul hx hb dX0_meet_71 ?_
              obtain ⟨σ16, eσ16, hf⟩ := fxL_e hf
              refine pf_X0_15 hC hP hS kX_5 dX0_meet_72 (fun H locs hP hS => ?_)
              replace hP := fx_Pe eσ16 hP
              refine lv_iinc (v := (w8 + 1)) (lv' := [(3, .int (w8 + 1)), (0, .ref (ad 5)), (1, .int a1), (2, .ref (ad a2))]) hx hb dX0_meet_75 hl (k := 3) rfl (congrArg (fun z => w8 + z) ki_1) (by decide) rfl (fun ls hl => ?_)
              refine lv_goto (tgt := 14) hx hb dX0_meet_78 (by decide) ?_
              exact ih10 (w8 + 1) σ16 _ _ _ hP hS (lv_sub hl [1, 2, 3, 0] rfl) hf
            have L26 : ∀ (n20 : Nat) (w17 : Int32) (σ18 : FH) (H : Heap) (locs : List Loc) (ls : Array Slot), fx_P D cy LX ad σ18 H → va_S A s.heap H locs → lv_has ls 5 [(0, .ref (ad 5)), (1, .int a1), (2, .ref (ad a2)), (3, .int w8), (4, .int w17)] → fX0_meet_27 a2 na2 w8 K14 n20 w17 σ18 = some σ' → W p l e (fx_R (0)) s m args below meth c H locs 0 0 (fx_Qv D cy LX ad A below args s σ') (F0 m 27 ls []) := by
              intro n20
              induction n20 with
              | zero =>
                intro w17 σ18 H locs ls hP hS hl hf
                rw [fX0_meet_27] at hf
                cases hf
              | succ n20 ih19 =>
                intro w17 σ18 H locs ls hP hS hl hf
                rw [fX0_meet_27] at hf
                refine lv_iload hx hb dX0_meet_27 (lv_at hl 4 rfl) ?_
                refine lv_aload_n hx hb dX0_meet_29 rfl (lv_at hl 0 rfl) ?_
                refine gf_X0_15 (v := .int (σ18.1 5 1)) hC hP kX_5 rfl dX0_meet_30 ?_
                refine lv_icmp_ge (tgt := 65) hx hb dX0_meet_33 (by decide) (fun c21 => ?_) (fun c21 => ?_)
                · replace hf := fx_it c21 hf
                  exact k_K14 σ18 _ _ _ hP hS (lv_sub hl [0, 1, 2, 3] rfl) hf
                · replace hf := fx_ie c21 hf
                  refine lv_aload_n hx hb dX0_meet_36 rfl (lv_at hl 0 rfl) ?_
                  refine gf_X0_9 (v := .ref (ad 6)) hC hP kX_5 rfl dX0_meet_37 ?_
                  refine lv_iload hx hb dX0_meet_40 (lv_at hl 4 rfl) ?_
                  refine lv_aload_n hx hb dX0_meet_42 rfl (lv_at hl 0 rfl) ?_
                  refine gf_X0_15 (v := .int (σ18.1 5 1)) hC hP kX_5 rfl dX0_meet_43 ?_
                  refine lv_iadd hx hb dX0_meet_46 ?_
                  refine lv_aload_n hx hb dX0_meet_47 rfl (lv_at hl 0 rfl) ?_
                  refine gf_X0_9 (v := .ref (ad 6)) hC hP kX_5 rfl dX0_meet_48 ?_
                  refine lv_iload hx hb dX0_meet_51 (lv_at hl 4 rfl) ?_
                  obtain ⟨h22, hf⟩ := fxG_e hf
                  refine fx_iald hC hP kX_6 (fx_inp h22) dX0_meet_53 ?_
                  refine lv_aload_n hx hb dX0_meet_54 rfl (lv_at hl 2 rfl) ?_
                  refine lv_iload_n hx hb dX0_meet_55 rfl (lv_at hl 3 rfl) ?_
                  obtain ⟨h23, hf⟩ := fxG_e hf
                  refine fx_iald hC hP h_a2 (fx_inp h23) dX0_meet_56 ?_
                  refine lv_iadd hx hb dX0_meet_57 ?_
                  obtain ⟨h24, hf⟩ := fxG_e hf
                  obtain ⟨σ25, eσ25, hf⟩ := fxL_e hf
                  refine fx_iast hC hP hS kX_6 (fx_inp h24) dX0_meet_58 (fun H locs hP hS => ?_)
                  replace hP := fx_Pe eσ25 hP
                  refine lv_iinc (v := (w17 + 1)) (lv' := [(4, .int (w17 + 1)), (0, .ref (ad 5)), (1, .int a1), (2, .ref (ad a2)), (3, .int w8)]) hx hb dX0_meet_59 hl (k := 4) rfl (congrArg (fun z => w17 + z) ki_1) (by decide) rfl (fun ls hl => ?_)
                  refine lv_goto (tgt := 27) hx hb dX0_meet_62 (by decide) ?_
                  exact ih19 (w17 + 1) σ25 _ _ _ hP hS (lv_sub hl [1, 2, 3, 4, 0] rfl) hf
            exact L26 FU 0 σ9 _ _ _ hP hS (lv_sub hl [1, 2, 3, 4, 0] rfl) hf
    exact L27 FU 0 σ3 _ _ _ hP hS (lv_sub hl [1, 2, 3, 0] rfl) hf
  exact main _ _ _ hP hS hl

set_option maxHeartbeats 4000000 in
set_option maxRecDepth 100000 in
theorem ctX0_setsOf (l : Launch) {a1 : Int32} {σ : FH} {v : Int32} (hf : fX0_setsOf a1 σ = some v) : fx_Mi l yX0_setsOf cX0_setsOf 4 (some .int) (0) LX (fun ad ec => [.ref (ad 5), .int a1]) σ v σ := by
  unfold fX0_setsOf at hf
  refine fx_mi' (own := RX0) rfl (by decide +kernel) ?_
  intro p e s m args below meth c D cy ad ec A hC hr hk hP hS
  have hx := hC.1
  have hb := hC.2.1
  have hl := lv_entry ([.ref (ad 5), .int a1]) (n := 4) (Nat.le_of_ble_eq_true rfl)
  show W _ _ _ _ _ _ _ _ _ _ _ _ _ _ _ (entryFrame m ([.ref (ad 5), .int a1] : List Value).toArray 4)
  rw [lg_entry_eq]
  generalize (lg_sl ([.ref (ad 5), .int a1]) ++ List.replicate (4 - (lg_sl ([.ref (ad 5), .int a1])).length) Slot.unset).toArray = ls at hl ⊢
  have hl : lv_has ls 4 [(0, .ref (ad 5)), (1, .int a1)] := hl
  have main : ∀ (H : Heap) (locs : List Loc) (ls : Array Slot), fx_P D cy LX ad σ H → va_S A s.heap H locs → lv_has ls 4 [(0, .ref (ad 5)), (1, .int a1)] → W p l e (fx_R (0)) s m args below meth c H locs 0 0 (fx_Qi D cy LX ad A below args s v σ) (F0 m 0 ls []) := by
    intro H locs ls hP hS hl
    refine lv_iconst hx hb dX0_setsOf_0 ki_0 ?_
    refine lv_istore_n (lv' := [(2, .int 0), (0, .ref (ad 5)), (1, .int a1)]) hx hb dX0_setsOf_1 rfl hl (by decide) rfl (fun ls hl => ?_)
    refine lv_iconst hx hb dX0_setsOf_2 ki_0 ?_
    refine lv_istore_n (lv' := [(3, .int 0), (2, .int 0), (0, .ref (ad 5)), (1, .int a1)]) hx hb dX0_setsOf_3 rfl hl (by decide) rfl (fun ls hl => ?_)
    obtain ⟨K1, hK1, hf⟩ := fxL_e hf
    have k_K1 : ∀ (x2 : Int32) (H : Heap) (locs : List Loc) (ls : Array Slot), fx_P D cy LX ad σ H → va_S A s.heap H locs → lv_has ls 4 [(2, .int x2)] → K1 x2 = some v → W p l e (fx_R (0)) s m args below meth c H locs 0 0 (fx_Qi D cy LX ad A below args s v σ) (F0 m 31 ls []) := by
      intro x2 H locs ls hP hS hl hf
      replace hf := fxk1 hK1 hf
      refine lv_iload_n hx hb dX0_setsOf_31 rfl (lv_at hl 0 rfl) ?_
      exact fx_iretp hf hC hr hk hP hS dX0_setsOf_32
    have L12 : ∀ (n6 : Nat) (w3 : Int32) (w4 : Int32) (H : Heap) (locs : List Loc) (ls : Array Slot), fx_P D cy LX ad σ H → va_S A s.heap H locs → lv_has ls 4 [(0, .ref (ad 5)), (1, .int a1), (2, .int w3), (3, .int w4)] → fX0_setsOf_4 a1 σ K1 n6 w3 w4 = some v → W p l e (fx_R (0)) s m args below meth c H locs 0 0 (fx_Qi D cy LX ad A below args s v σ) (F0 m 4 ls []) := by
      intro n6
      induction n6 with
      | zero =>
        intro w3 w4 H locs ls hP hS hl hf
        rw [fX0_setsOf_4] at hf
        cases hf
      | succ n6 ih5 =>
        intro w3 w4 H locs ls hP hS hl hf
        rw [fX0_setsOf_4] at hf
        refine lv_iload_n hx hb dX0_setsOf_4 rfl (lv_at hl 3 rfl) ?_
        refine lv_aload_n hx hb dX0_setsOf_5 rfl (lv_at hl 0 rfl) ?_
        refine gf_X0_15 (v := .int (σ.1 5 1)) hC hP kX_5 rfl dX0_setsOf_6 ?_
        refine lv_icmp_ge (tgt := 31) hx hb dX0_setsOf_9 (by decide) (fun c7 => ?_) (fun c7 => ?_)
        · replace hf := fx_it c7 hf
          exact k_K1 w3 _ _ _ hP hS (lv_sub hl [2] rfl) hf
        · replace hf := fx_ie c7 hf
          refine lv_aload_n hx hb dX0_setsOf_12 rfl (lv_at hl 0 rfl) ?_
          refine gf_X0_9 (v := .ref (ad 6)) hC hP kX_5 rfl dX0_setsOf_13 ?_
          refine lv_iload_n hx hb dX0_setsOf_16 rfl (lv_at hl 3 rfl) ?_
          obtain ⟨h8, hf⟩ := fxG_e hf
          refine fx_iald hC hP kX_6 (fx_inp h8) dX0_setsOf_17 ?_
          refine lv_iload_n hx hb dX0_setsOf_18 rfl (lv_at hl 1 rfl) ?_
          obtain ⟨v9, ev9, hf⟩ := fxL_e hf
          have j_v9 : ∀ (z10 : Int32), z10 = ((if (σ.1 6 (Int32.toNatClampNeg w4)) = a1 then (w3 + 1) else w3) : Int32) → ∀ (ls : Array Slot), lv_has ls 4 [(0, .ref (ad 5)), (1, .int a1), (2, .int z10), (3, .int w4)] → W p l e (fx_R (0)) s m args below meth c H locs 0 0 (fx_Qi D cy LX ad A below args s v σ) (F0 m 25 ls []) := by
            intro z10 hz10 ls hl
            obtain rfl : v9 = z10 := ev9.trans hz10.symm
            refine lv_iinc (v := (w4 + 1)) (lv' := [(3, .int (w4 + 1)), (0, .ref (ad 5)), (1, .int a1), (2, .int v9)]) hx hb dX0_setsOf_25 hl (k := 3) rfl (congrArg (fun z => w4 + z) ki_1) (by decide) rfl (fun ls hl => ?_)
            refine lv_goto (tgt := 4) hx hb dX0_setsOf_28 (by decide) ?_
            exact ih5 v9 (w4 + 1) _ _ _ hP hS (lv_sub hl [1, 2, 3, 0] rfl) hf
          refine lv_icmp_ne (tgt := 25) hx hb dX0_setsOf_19 (by decide) (fun c11 => ?_) (fun c11 => ?_)
          · exact j_v9 w3 (if_neg c11).symm ls (lv_sub hl [0, 1, 2, 3] rfl)
          · refine lv_iinc (v := (w3 + 1)) (lv' := [(2, .int (w3 + 1)), (0, .ref (ad 5)), (1, .int a1), (3, .int w4)]) hx hb dX0_setsOf_22 hl (k := 2) rfl (congrArg (fun z => w3 + z) ki_1) (by decide) rfl (fun ls hl => ?_)
            exact j_v9 (w3 + 1) (if_pos c11).symm ls (lv_sub hl [1, 2, 0, 3] rfl)
    exact L12 FU 0 0 _ _ _ hP hS (lv_sub hl [2, 3, 1, 0] rfl) hf
  exact main _ _ _ hP hS hl

set_option maxHeartbeats 4000000 in
set_option maxRecDepth 100000 in
theorem ctX0_isMajority (l : Launch) {a1 : Int32} {σ : FH} {v : Int32} (hf : fX0_isMajority a1 σ = some v) : fx_Mi l yX0_isMajority cX0_isMajority 2 (some .boolean) (0) LX (fun ad ec => [.ref (ad 5), .int a1]) σ v σ := by
  unfold fX0_isMajority at hf
  refine fx_mi' (own := RX0) rfl (by decide +kernel) ?_
  intro p e s m args below meth c D cy ad ec A hC hr hk hP hS
  have hx := hC.1
  have hb := hC.2.1
  have hl := lv_entry ([.ref (ad 5), .int a1]) (n := 2) (Nat.le_of_ble_eq_true rfl)
  show W _ _ _ _ _ _ _ _ _ _ _ _ _ _ _ (entryFrame m ([.ref (ad 5), .int a1] : List Value).toArray 2)
  rw [lg_entry_eq]
  generalize (lg_sl ([.ref (ad 5), .int a1]) ++ List.replicate (2 - (lg_sl ([.ref (ad 5), .int a1])).length) Slot.unset).toArray = ls at hl ⊢
  have hl : lv_has ls 2 [(0, .ref (ad 5)), (1, .int a1)] := hl
  have main : ∀ (H : Heap) (locs : List Loc) (ls : Array Slot), fx_P D cy LX ad σ H → va_S A s.heap H locs → lv_has ls 2 [(0, .ref (ad 5)), (1, .int a1)] → W p l e (fx_R (0)) s m args below meth c H locs 0 0 (fx_Qi D cy LX ad A below args s v σ) (F0 m 0 ls []) := by
    intro H locs ls hP hS hl
    refine lv_iload_n hx hb dX0_isMajority_0 rfl (lv_at hl 1 rfl) ?_
    refine lv_if_lt (tgt := 32) hx hb dX0_isMajority_1 (by decide) (fun c1 => ?_) (fun c1 => ?_)
    · replace hf := fx_it c1 hf
      refine lv_iconst hx hb dX0_isMajority_32 ki_0 ?_
      exact fx_zretp rfl hf hC hr hk hP hS dX0_isMajority_33
    · replace hf := fx_ie c1 hf
      refine lv_iload_n hx hb dX0_isMajority_4 rfl (lv_at hl 1 rfl) ?_
      refine lv_aload_n hx hb dX0_isMajority_5 rfl (lv_at hl 0 rfl) ?_
      refine gf_X0_9 (v := .ref (ad 6)) hC hP kX_5 rfl dX0_isMajority_6 ?_
      refine fx_alen (v := 32) hC hP kX_6 (by decide) 0 rfl rfl (by decide) dX0_isMajority_9 ?_
      refine lv_icmp_ge (tgt := 32) hx hb dX0_isMajority_10 (by decide) (fun c2 => ?_) (fun c2 => ?_)
      · replace hf := fx_it c2 hf
        refine lv_iconst hx hb dX0_isMajority_32 ki_0 ?_
        exact fx_zretp rfl hf hC hr hk hP hS dX0_isMajority_33
      · replace hf := fx_ie c2 hf
        refine lv_iconst hx hb dX0_isMajority_13 ki_2 ?_
        refine lv_aload_n hx hb dX0_isMajority_14 rfl (lv_at hl 0 rfl) ?_
        refine gf_X0_9 (v := .ref (ad 6)) hC hP kX_5 rfl dX0_isMajority_15 ?_
        refine lv_iload_n hx hb dX0_isMajority_18 rfl (lv_at hl 1 rfl) ?_
        obtain ⟨h3, hf⟩ := fxG_e hf
        refine fx_iald hC hP kX_6 (fx_inp h3) dX0_isMajority_19 ?_
        refine lv_imul hx hb dX0_isMajority_20 ?_
        refine lv_aload_n hx hb dX0_isMajority_21 rfl (lv_at hl 0 rfl) ?_
        refine gf_X0_19 (v := .int (σ.1 5 2)) hC hP kX_5 rfl dX0_isMajority_22 ?_
        refine lv_icmp_le (tgt := 32) hx hb dX0_isMajority_25 (by decide) (fun c4 => ?_) (fun c4 => ?_)
        · replace hf := fx_it c4 hf
          refine lv_iconst hx hb dX0_isMajority_32 ki_0 ?_
          exact fx_zretp rfl hf hC hr hk hP hS dX0_isMajority_33
        · replace hf := fx_ie c4 hf
          refine lv_iconst hx hb dX0_isMajority_28 ki_1 ?_
          refine lv_goto (tgt := 33) hx hb dX0_isMajority_29 (by decide) ?_
          exact fx_zretp rfl hf hC hr hk hP hS dX0_isMajority_33
  exact main _ _ _ hP hS hl

set_option maxHeartbeats 4000000 in
set_option maxRecDepth 100000 in
theorem ctX0_turnsBy (l : Launch) {a1 : Int32} {σ : FH} {v : Int32} (hf : fX0_turnsBy a1 σ = some v) : fx_Mi l yX0_turnsBy cX0_turnsBy 5 (some .int) (1) LX (fun ad ec => [.ref (ad 5), .int a1]) σ v σ := by
  unfold fX0_turnsBy at hf
  refine fx_mi' (own := RX0) rfl (by decide +kernel) ?_
  intro p e s m args below meth c D cy ad ec A hC hr hk hP hS
  have hx := hC.1
  have hb := hC.2.1
  have hl := lv_entry ([.ref (ad 5), .int a1]) (n := 5) (Nat.le_of_ble_eq_true rfl)
  show W _ _ _ _ _ _ _ _ _ _ _ _ _ _ _ (entryFrame m ([.ref (ad 5), .int a1] : List Value).toArray 5)
  rw [lg_entry_eq]
  generalize (lg_sl ([.ref (ad 5), .int a1]) ++ List.replicate (5 - (lg_sl ([.ref (ad 5), .int a1])).length) Slot.unset).toArray = ls at hl ⊢
  have hl : lv_has ls 5 [(0, .ref (ad 5)), (1, .int a1)] := hl
  have main : ∀ (H : Heap) (locs : List Loc) (ls : Array Slot), fx_P D cy LX ad σ H → va_S A s.heap H locs → lv_has ls 5 [(0, .ref (ad 5)), (1, .int a1)] → W p l e (fx_R (1)) s m args below meth c H locs 0 0 (fx_Qi D cy LX ad A below args s v σ) (F0 m 0 ls []) := by
    intro H locs ls hP hS hl
    refine lv_iconst hx hb dX0_turnsBy_0 ki_0 ?_
    refine lv_istore_n (lv' := [(2, .int 0), (0, .ref (ad 5)), (1, .int a1)]) hx hb dX0_turnsBy_1 rfl hl (by decide) rfl (fun ls hl => ?_)
    refine lv_iconst hx hb dX0_turnsBy_2 ki_1 ?_
    refine lv_iload_n hx hb dX0_turnsBy_3 rfl (lv_at hl 2 rfl) ?_
    refine lv_ishl hx hb dX0_turnsBy_4 ?_
    obtain ⟨v1, ev1, hf⟩ := fxL_e hf
    refine fx_ti ev1 ?_
    refine lv_istore_n (lv' := [(3, .int v1), (2, .int 0), (0, .ref (ad 5)), (1, .int a1)]) hx hb dX0_turnsBy_5 rfl hl (by decide) rfl (fun ls hl => ?_)
    refine lv_iconst hx hb dX0_turnsBy_6 ki_0 ?_
    refine lv_istore (lv' := [(4, .int 0), (3, .int v1), (2, .int 0), (0, .ref (ad 5)), (1, .int a1)]) hx hb dX0_turnsBy_7 hl (by decide) rfl (fun ls hl => ?_)
    obtain ⟨K2, hK2, hf⟩ := fxL_e hf
    have k_K2 : ∀ (x3 : Int32) (H : Heap) (locs : List Loc) (ls : Array Slot), fx_P D cy LX ad σ H → va_S A s.heap H locs → lv_has ls 5 [(2, .int x3)] → K2 x3 = some v → W p l e (fx_R (1)) s m args below meth c H locs 0 0 (fx_Qi D cy LX ad A below args s v σ) (F0 m 54 ls []) := by
      intro x3 H locs ls hP hS hl hf
      replace hf := fxk1 hK2 hf
      refine lv_iload_n hx hb dX0_turnsBy_54 rfl (lv_at hl 0 rfl) ?_
      exact fx_iretp hf hC hr hk hP hS dX0_turnsBy_55
    have L18 : ∀ (n7 : Nat) (w4 : Int32) (w5 : Int32) (H : Heap) (locs : List Loc) (ls : Array Slot), fx_P D cy LX ad σ H → va_S A s.heap H locs → lv_has ls 5 [(0, .ref (ad 5)), (2, .int w4), (3, .int v1), (4, .int w5)] → fX0_turnsBy_9 σ v1 K2 n7 w4 w5 = some v → W p l e (fx_R (1)) s m args below meth c H locs 0 0 (fx_Qi D cy LX ad A below args s v σ) (F0 m 9 ls []) := by
      intro n7
      induction n7 with
      | zero =>
        intro w4 w5 H locs ls hP hS hl hf
        rw [fX0_turnsBy_9] at hf
        cases hf
      | succ n7 ih6 =>
        intro w4 w5 H locs ls hP hS hl hf
        rw [fX0_turnsBy_9] at hf
        refine lv_iload hx hb dX0_turnsBy_9 (lv_at hl 3 rfl) ?_
        refine lv_aload_n hx hb dX0_turnsBy_11 rfl (lv_at hl 0 rfl) ?_
        refine gf_X0_15 (v := .int (σ.1 5 1)) hC hP kX_5 rfl dX0_turnsBy_12 ?_
        refine lv_icmp_ge (tgt := 54) hx hb dX0_turnsBy_15 (by decide) (fun c8 => ?_) (fun c8 => ?_)
        · replace hf := fx_it c8 hf
          exact k_K2 w4 _ _ _ hP hS (lv_sub hl [1] rfl) hf
        · replace hf := fx_ie c8 hf
          refine lv_iload hx hb dX0_turnsBy_18 (lv_at hl 3 rfl) ?_
          refine lv_iload_n hx hb dX0_turnsBy_20 rfl (lv_at hl 2 rfl) ?_
          refine lv_iand hx hb dX0_turnsBy_21 ?_
          refine lv_if_ne (tgt := 48) hx hb dX0_turnsBy_22 (by decide) (fun c9 => ?_) (fun c9 => ?_)
          · replace hf := fx_ie c9 hf
            refine lv_iinc (v := (w5 + 1)) (lv' := [(4, .int (w5 + 1)), (0, .ref (ad 5)), (2, .int w4), (3, .int v1)]) hx hb dX0_turnsBy_48 hl (k := 3) rfl (congrArg (fun z => w5 + z) ki_1) (by decide) rfl (fun ls hl => ?_)
            refine lv_goto (tgt := 9) hx hb dX0_turnsBy_51 (by decide) ?_
            exact ih6 w4 (w5 + 1) _ _ _ hP hS (lv_sub hl [1, 2, 3, 0] rfl) hf
          · replace hf := fx_it c9 hf
            refine lv_aload_n hx hb dX0_turnsBy_25 rfl (lv_at hl 0 rfl) ?_
            refine lv_iload hx hb dX0_turnsBy_26 (lv_at hl 3 rfl) ?_
            obtain ⟨r11, hc10, hf⟩ := fxBP_e hf
            refine fx_ci hC hS (fx_runV (i := 5) (As := [.int w5]) (rest := []) hC hP hS (ctX0_isMajority l hc10 D cy ad ec _) kX_5 (by decide) rfl kMV_X0_22 kC_X0_isMajority hd_X0_isMajority rfl ⟨(Nat.le_of_ble_eq_true rfl), (Nat.le_of_ble_eq_true rfl)⟩ ⟨Nat.le_refl 0, Nat.le_refl 0⟩ hl.1 (Nat.le_of_ble_eq_true rfl) rfl dX0_turnsBy_28) (fun H locs hP hS => ?_)
            refine lv_if_ne (tgt := 48) hx hb dX0_turnsBy_31 (by decide) (fun c13 => ?_) (fun c13 => ?_)
            · replace hf := fx_ie c13 hf
              refine lv_iinc (v := (w5 + 1)) (lv' := [(4, .int (w5 + 1)), (0, .ref (ad 5)), (2, .int w4), (3, .int v1)]) hx hb dX0_turnsBy_48 hl (k := 3) rfl (congrArg (fun z => w5 + z) ki_1) (by decide) rfl (fun ls hl => ?_)
              refine lv_goto (tgt := 9) hx hb dX0_turnsBy_51 (by decide) ?_
              exact ih6 w4 (w5 + 1) _ _ _ hP hS (lv_sub hl [1, 2, 3, 0] rfl) hf
            · replace hf := fx_it c13 hf
              refine lv_aload_n hx hb dX0_turnsBy_34 rfl (lv_at hl 0 rfl) ?_
              refine lv_iload hx hb dX0_turnsBy_35 (lv_at hl 3 rfl) ?_
              refine lv_iload_n hx hb dX0_turnsBy_37 rfl (lv_at hl 2 rfl) ?_
              refine lv_ior hx hb dX0_turnsBy_38 ?_
              obtain ⟨r15, hc14, hf⟩ := fxBP_e hf
              refine fx_ci hC hS (fx_runV (i := 5) (As := [.int (w5 ||| v1)]) (rest := []) hC hP hS (ctX0_isMajority l hc14 D cy ad ec _) kX_5 (by decide) rfl kMV_X0_22 kC_X0_isMajority hd_X0_isMajority rfl ⟨(Nat.le_of_ble_eq_true rfl), (Nat.le_of_ble_eq_true rfl)⟩ ⟨Nat.le_refl 0, Nat.le_refl 0⟩ hl.1 (Nat.le_of_ble_eq_true rfl) rfl dX0_turnsBy_39) (fun H locs hP hS => ?_)
              refine lv_if_eq (tgt := 48) hx hb dX0_turnsBy_42 (by decide) (fun c17 => ?_) (fun c17 => ?_)
              · replace hf := fx_it c17 hf
                refine lv_iinc (v := (w5 + 1)) (lv' := [(4, .int (w5 + 1)), (0, .ref (ad 5)), (2, .int w4), (3, .int v1)]) hx hb dX0_turnsBy_48 hl (k := 3) rfl (congrArg (fun z => w5 + z) ki_1) (by decide) rfl (fun ls hl => ?_)
                refine lv_goto (tgt := 9) hx hb dX0_turnsBy_51 (by decide) ?_
                exact ih6 w4 (w5 + 1) _ _ _ hP hS (lv_sub hl [1, 2, 3, 0] rfl) hf
              · replace hf := fx_ie c17 hf
                refine lv_iinc (v := (w4 + 1)) (lv' := [(2, .int (w4 + 1)), (0, .ref (ad 5)), (3, .int v1), (4, .int w5)]) hx hb dX0_turnsBy_45 hl (k := 1) rfl (congrArg (fun z => w4 + z) ki_1) (by decide) rfl (fun ls hl => ?_)
                refine lv_iinc (v := (w5 + 1)) (lv' := [(4, .int (w5 + 1)), (2, .int (w4 + 1)), (0, .ref (ad 5)), (3, .int v1)]) hx hb dX0_turnsBy_48 hl (k := 3) rfl (congrArg (fun z => w5 + z) ki_1) (by decide) rfl (fun ls hl => ?_)
                refine lv_goto (tgt := 9) hx hb dX0_turnsBy_51 (by decide) ?_
                exact ih6 (w4 + 1) (w5 + 1) _ _ _ hP hS (lv_sub hl [2, 1, 3, 0] rfl) hf
    exact L18 FU 0 0 _ _ _ hP hS (lv_sub hl [3, 2, 1, 0] rfl) hf
  exact main _ _ _ hP hS hl

set_option maxHeartbeats 4000000 in
set_option maxRecDepth 100000 in
theorem ctX0_inEveryMajority (l : Launch) {σ : FH} {v : Int32} (hf : fX0_inEveryMajority σ = some v) : fx_Mi l yX0_inEveryMajority cX0_inEveryMajority 3 (some .int) (1) LX (fun ad ec => [.ref (ad 5)]) σ v σ := by
  unfold fX0_inEveryMajority at hf
  refine fx_mi' (own := RX0) rfl (by decide +kernel) ?_
  intro p e s m args below meth c D cy ad ec A hC hr hk hP hS
  have hx := hC.1
  have hb := hC.2.1
  have hl := lv_entry ([.ref (ad 5)]) (n := 3) (Nat.le_of_ble_eq_true rfl)
  show W _ _ _ _ _ _ _ _ _ _ _ _ _ _ _ (entryFrame m ([.ref (ad 5)] : List Value).toArray 3)
  rw [lg_entry_eq]
  generalize (lg_sl ([.ref (ad 5)]) ++ List.replicate (3 - (lg_sl ([.ref (ad 5)])).length) Slot.unset).toArray = ls at hl ⊢
  have hl : lv_has ls 3 [(0, .ref (ad 5))] := hl
  have main : ∀ (H : Heap) (locs : List Loc) (ls : Array Slot), fx_P D cy LX ad σ H → va_S A s.heap H locs → lv_has ls 3 [(0, .ref (ad 5))] → W p l e (fx_R (1)) s m args below meth c H locs 0 0 (fx_Qi D cy LX ad A below args s v σ) (F0 m 0 ls []) := by
    intro H locs ls hP hS hl
    refine lv_aload_n hx hb dX0_inEveryMajority_0 rfl (lv_at hl 0 rfl) ?_
    refine lv_aload_n hx hb dX0_inEveryMajority_1 rfl (lv_at hl 0 rfl) ?_
    refine gf_X0_15 (v := .int (σ.1 5 1)) hC hP kX_5 rfl dX0_inEveryMajority_2 ?_
    refine lv_iconst hx hb dX0_inEveryMajority_5 ki_1 ?_
    refine lv_isub hx hb dX0_inEveryMajority_6 ?_
    obtain ⟨r2, hc1, hf⟩ := fxBP_e hf
    refine fx_ci hC hS (fx_runV (i := 5) (As := [.int ((σ.1 5 1) - 1)]) (rest := []) hC hP hS (ctX0_isMajority l hc1 D cy ad ec _) kX_5 (by decide) rfl kMV_X0_22 kC_X0_isMajority hd_X0_isMajority rfl ⟨(Nat.le_of_ble_eq_true rfl), (Nat.le_of_ble_eq_true rfl)⟩ ⟨Nat.le_refl 0, Nat.le_refl 0⟩ hl.1 (Nat.le_of_ble_eq_true rfl) rfl dX0_inEveryMajority_7) (fun H locs hP hS => ?_)
    obtain ⟨v4, ev4, hf⟩ := fxL_e hf
    have j_v4 : ∀ (z5 : Int32), z5 = ((if r2 = 0 then 0 else ((σ.1 5 1) - 1)) : Int32) → ∀ (ls : Array Slot), lv_has ls 3 [(0, .ref (ad 5))] → W p l e (fx_R (1)) s m args below meth c H locs 0 0 (fx_Qi D cy LX ad A below args s v σ) (F0 m 23 ls [.int z5]) := by
      intro z5 hz5 ls hl
      obtain rfl : v4 = z5 := ev4.trans hz5.symm
      refine lv_istore_n (lv' := [(1, .int v4), (0, .ref (ad 5))]) hx hb dX0_inEveryMajority_23 rfl hl (by decide) rfl (fun ls hl => ?_)
      refine lv_iconst hx hb dX0_inEveryMajority_24 ki_0 ?_
      refine lv_istore_n (lv' := [(2, .int 0), (1, .int v4), (0, .ref (ad 5))]) hx hb dX0_inEveryMajority_25 rfl hl (by decide) rfl (fun ls hl => ?_)
      obtain ⟨K7, hK7, hf⟩ := fxL_e hf
      have k_K7 : ∀ (x8 : Int32) (H : Heap) (locs : List Loc) (ls : Array Slot), fx_P D cy LX ad σ H → va_S A s.heap H locs → lv_has ls 3 [(1, .int x8)] → K7 x8 = some v → W p l e (fx_R (1)) s m args below meth c H locs 0 0 (fx_Qi D cy LX ad A below args s v σ) (F0 m 52 ls []) := by
        intro x8 H locs ls hP hS hl hf
        replace hf := fxk1 hK7 hf
        refine lv_iload_n hx hb dX0_inEveryMajority_52 rfl (lv_at hl 0 rfl) ?_
        exact fx_iretp hf hC hr hk hP hS dX0_inEveryMajority_53
      have L20 : ∀ (n12 : Nat) (w9 : Int32) (w10 : Int32) (H : Heap) (locs : List Loc) (ls : Array Slot), fx_P D cy LX ad σ H → va_S A s.heap H locs → lv_has ls 3 [(0, .ref (ad 5)), (1, .int w9), (2, .int w10)] → fX0_inEveryMajority_26 σ K7 n12 w9 w10 = some v → W p l e (fx_R (1)) s m args below meth c H locs 0 0 (fx_Qi D cy LX ad A below args s v σ) (F0 m 26 ls []) := by
        intro n12
        induction n12 with
        | zero =>
          intro w9 w10 H locs ls hP hS hl hf
          rw [fX0_inEveryMajority_26] at hf
          cases hf
        | succ n12 ih11 =>
          intro w9 w10 H locs ls hP hS hl hf
          rw [fX0_inEveryMajority_26] at hf
          refine lv_iload_n hx hb dX0_inEveryMajority_26 rfl (lv_at hl 2 rfl) ?_
          refine lv_aload_n hx hb dX0_inEveryMajority_27 rfl (lv_at hl 0 rfl) ?_
          refine gf_X0_15 (v := .int (σ.1 5 1)) hC hP kX_5 rfl dX0_inEveryMajority_28 ?_
          refine lv_icmp_ge (tgt := 52) hx hb dX0_inEveryMajority_31 (by decide) (fun c13 => ?_) (fun c13 => ?_)
          · replace hf := fx_it c13 hf
            exact k_K7 w9 _ _ _ hP hS (lv_sub hl [1] rfl) hf
          · replace hf := fx_ie c13 hf
            refine lv_aload_n hx hb dX0_inEveryMajority_34 rfl (lv_at hl 0 rfl) ?_
            refine lv_iload_n hx hb dX0_inEveryMajority_35 rfl (lv_at hl 2 rfl) ?_
            obtain ⟨r15, hc14, hf⟩ := fxBP_e hf
            refine fx_ci hC hS (fx_runV (i := 5) (As := [.int w10]) (rest := []) hC hP hS (ctX0_isMajority l hc14 D cy ad ec _) kX_5 (by decide) rfl kMV_X0_22 kC_X0_isMajority hd_X0_isMajority rfl ⟨(Nat.le_of_ble_eq_true rfl), (Nat.le_of_ble_eq_true rfl)⟩ ⟨Nat.le_refl 0, Nat.le_refl 0⟩ hl.1 (Nat.le_of_ble_eq_true rfl) rfl dX0_inEveryMajority_36) (fun H locs hP hS => ?_)
            obtain ⟨v17, ev17, hf⟩ := fxL_e hf
            have j_v17 : ∀ (z18 : Int32), z18 = ((if r15 = 0 then w9 else (w9 &&& w10)) : Int32) → ∀ (ls : Array Slot), lv_has ls 3 [(0, .ref (ad 5)), (1, .int z18), (2, .int w10)] → W p l e (fx_R (1)) s m args below meth c H locs 0 0 (fx_Qi D cy LX ad A below args s v σ) (F0 m 46 ls []) := by
              intro z18 hz18 ls hl
              obtain rfl : v17 = z18 := ev17.trans hz18.symm
              refine lv_iinc (v := (w10 + 1)) (lv' := [(2, .int (w10 + 1)), (0, .ref (ad 5)), (1, .int v17)]) hx hb dX0_inEveryMajority_46 hl (k := 2) rfl (congrArg (fun z => w10 + z) ki_1) (by decide) rfl (fun ls hl => ?_)
              refine lv_goto (tgt := 26) hx hb dX0_inEveryMajority_49 (by decide) ?_
              exact ih11 v17 (w10 + 1) _ _ _ hP hS (lv_sub hl [1, 2, 0] rfl) hf
            refine lv_if_eq (tgt := 46) hx hb dX0_inEveryMajority_39 (by decide) (fun c19 => ?_) (fun c19 => ?_)
            · exact j_v17 w9 (if_pos c19).symm ls (lv_sub hl [0, 1, 2] rfl)
            · refine lv_iload_n hx hb dX0_inEveryMajority_42 rfl (lv_at hl 1 rfl) ?_
              refine lv_iload_n hx hb dX0_inEveryMajority_43 rfl (lv_at hl 2 rfl) ?_
              refine lv_iand hx hb dX0_inEveryMajority_44 ?_
              refine lv_istore_n (lv' := [(1, .int (w9 &&& w10)), (0, .ref (ad 5)), (2, .int w10)]) hx hb dX0_inEveryMajority_45 rfl hl (by decide) rfl (fun ls hl => ?_)
              exact j_v17 (w9 &&& w10) (if_neg c19).symm ls (lv_sub hl [1, 0, 2] rfl)
      exact L20 FU v4 0 _ _ _ hP hS (lv_sub hl [2, 1, 0] rfl) hf
    refine lv_if_eq (tgt := 22) hx hb dX0_inEveryMajority_10 (by decide) (fun c6 => ?_) (fun c6 => ?_)
    · refine lv_iconst hx hb dX0_inEveryMajority_22 ki_0 ?_
      exact j_v4 0 (if_pos c6).symm ls (lv_sub hl [0] rfl)
    · refine lv_aload_n hx hb dX0_inEveryMajority_13 rfl (lv_at hl 0 rfl) ?_
      refine gf_X0_15 (v := .int (σ.1 5 1)) hC hP kX_5 rfl dX0_inEveryMajority_14 ?_
      refine lv_iconst hx hb dX0_inEveryMajority_17 ki_1 ?_
      refine lv_isub hx hb dX0_inEveryMajority_18 ?_
      refine lv_goto (tgt := 23) hx hb dX0_inEveryMajority_19 (by decide) ?_
      exact j_v4 ((σ.1 5 1) - 1) (if_neg c6).symm ls (lv_sub hl [0] rfl)
  exact main _ _ _ hP hS hl

set_option maxHeartbeats 4000000 in
set_option maxRecDepth 100000 in
theorem ctX0_leastMajority (l : Launch) {σ : FH} {v : Int32} (hf : fX0_leastMajority σ = some v) : fx_Mi l yX0_leastMajority cX0_leastMajority 3 (some .int) (1) LX (fun ad ec => [.ref (ad 5)]) σ v σ := by
  unfold fX0_leastMajority at hf
  refine fx_mi' (own := RX0) rfl (by decide +kernel) ?_
  intro p e s m args below meth c D cy ad ec A hC hr hk hP hS
  have hx := hC.1
  have hb := hC.2.1
  have hl := lv_entry ([.ref (ad 5)]) (n := 3) (Nat.le_of_ble_eq_true rfl)
  show W _ _ _ _ _ _ _ _ _ _ _ _ _ _ _ (entryFrame m ([.ref (ad 5)] : List Value).toArray 3)
  rw [lg_entry_eq]
  generalize (lg_sl ([.ref (ad 5)]) ++ List.replicate (3 - (lg_sl ([.ref (ad 5)])).length) Slot.unset).toArray = ls at hl ⊢
  have hl : lv_has ls 3 [(0, .ref (ad 5))] := hl
  have main : ∀ (H : Heap) (locs : List Loc) (ls : Array Slot), fx_P D cy LX ad σ H → va_S A s.heap H locs → lv_has ls 3 [(0, .ref (ad 5))] → W p l e (fx_R (1)) s m args below meth c H locs 0 0 (fx_Qi D cy LX ad A below args s v σ) (F0 m 0 ls []) := by
    intro H locs ls hP hS hl
    refine lv_iconst hx hb dX0_leastMajority_0 ki_m1 ?_
    refine lv_istore_n (lv' := [(1, .int (-1)), (0, .ref (ad 5))]) hx hb dX0_leastMajority_1 rfl hl (by decide) rfl (fun ls hl => ?_)
    refine lv_iconst hx hb dX0_leastMajority_2 ki_0 ?_
    refine lv_istore_n (lv' := [(2, .int 0), (1, .int (-1)), (0, .ref (ad 5))]) hx hb dX0_leastMajority_3 rfl hl (by decide) rfl (fun ls hl => ?_)
    obtain ⟨K1, hK1, hf⟩ := fxL_e hf
    have k_K1 : ∀ (x2 : Int32) (H : Heap) (locs : List Loc) (ls : Array Slot), fx_P D cy LX ad σ H → va_S A s.heap H locs → lv_has ls 3 [(1, .int x2)] → K1 x2 = some v → W p l e (fx_R (1)) s m args below meth c H locs 0 0 (fx_Qi D cy LX ad A below args s v σ) (F0 m 44 ls []) := by
      intro x2 H locs ls hP hS hl hf
      replace hf := fxk1 hK1 hf
      refine lv_iload_n hx hb dX0_leastMajority_44 rfl (lv_at hl 0 rfl) ?_
      exact fx_iretp hf hC hr hk hP hS dX0_leastMajority_45
    have L20 : ∀ (n6 : Nat) (w3 : Int32) (w4 : Int32) (H : Heap) (locs : List Loc) (ls : Array Slot), fx_P D cy LX ad σ H → va_S A s.heap H locs → lv_has ls 3 [(0, .ref (ad 5)), (1, .int w3), (2, .int w4)] → fX0_leastMajority_4 σ K1 n6 w3 w4 = some v → W p l e (fx_R (1)) s m args below meth c H locs 0 0 (fx_Qi D cy LX ad A below args s v σ) (F0 m 4 ls []) := by
      intro n6
      induction n6 with
      | zero =>
        intro w3 w4 H locs ls hP hS hl hf
        rw [fX0_leastMajority_4] at hf
        cases hf
      | succ n6 ih5 =>
        intro w3 w4 H locs ls hP hS hl hf
        rw [fX0_leastMajority_4] at hf
        refine lv_iload_n hx hb dX0_leastMajority_4 rfl (lv_at hl 2 rfl) ?_
        refine lv_aload_n hx hb dX0_leastMajority_5 rfl (lv_at hl 0 rfl) ?_
        refine gf_X0_15 (v := .int (σ.1 5 1)) hC hP kX_5 rfl dX0_leastMajority_6 ?_
        refine lv_icmp_ge (tgt := 44) hx hb dX0_leastMajority_9 (by decide) (fun c7 => ?_) (fun c7 => ?_)
        · replace hf := fx_it c7 hf
          exact k_K1 w3 _ _ _ hP hS (lv_sub hl [1] rfl) hf
        · replace hf := fx_ie c7 hf
          refine lv_aload_n hx hb dX0_leastMajority_12 rfl (lv_at hl 0 rfl) ?_
          refine lv_iload_n hx hb dX0_leastMajority_13 rfl (lv_at hl 2 rfl) ?_
          obtain ⟨r9, hc8, hf⟩ := fxBP_e hf
          refine fx_ci hC hS (fx_runV (i := 5) (As := [.int w4]) (rest := []) hC hP hS (ctX0_isMajority l hc8 D cy ad ec _) kX_5 (by decide) rfl kMV_X0_22 kC_X0_isMajority hd_X0_isMajority rfl ⟨(Nat.le_of_ble_eq_true rfl), (Nat.le_of_ble_eq_true rfl)⟩ ⟨Nat.le_refl 0, Nat.le_refl 0⟩ hl.1 (Nat.le_of_ble_eq_true rfl) rfl dX0_leastMajority_14) (fun H locs hP hS => ?_)
          refine lv_if_eq (tgt := 38) hx hb dX0_leastMajority_17 (by decide) (fun c11 => ?_) (fun c11 => ?_)
          · replace hf := fx_it c11 hf
            refine lv_iinc (v := (w4 + 1)) (lv' := [(2, .int (w4 + 1)), (0, .ref (ad 5)), (1, .int w3)]) hx hb dX0_leastMajority_38 hl (k := 2) rfl (congrArg (fun z => w4 + z) ki_1) (by decide) rfl (fun ls hl => ?_)
            refine lv_goto (tgt := 4) hx hb dX0_leastMajority_41 (by decide) ?_
            exact ih5 w3 (w4 + 1) _ _ _ hP hS (lv_sub hl [1, 2, 0] rfl) hf
          · replace hf := fx_ie c11 hf
            refine lv_iload_n hx hb dX0_leastMajority_20 rfl (lv_at hl 1 rfl) ?_
            refine lv_iconst hx hb dX0_leastMajority_21 ki_m1 ?_
            refine lv_icmp_eq (tgt := 36) hx hb dX0_leastMajority_22 (by decide) (fun c12 => ?_) (fun c12 => ?_)
            · replace hf := fx_it c12 hf
              refine lv_iload_n hx hb dX0_leastMajority_36 rfl (lv_at hl 2 rfl) ?_
              refine lv_istore_n (lv' := [(1, .int w4), (0, .ref (ad 5)), (2, .int w4)]) hx hb dX0_leastMajority_37 rfl hl (by decide) rfl (fun ls hl => ?_)
              refine lv_iinc (v := (w4 + 1)) (lv' := [(2, .int (w4 + 1)), (1, .int w4), (0, .ref (ad 5))]) hx hb dX0_leastMajority_38 hl (k := 2) rfl (congrArg (fun z => w4 + z) ki_1) (by decide) rfl (fun ls hl => ?_)
              refine lv_goto (tgt := 4) hx hb dX0_leastMajority_41 (by decide) ?_
              exact ih5 w4 (w4 + 1) _ _ _ hP hS (lv_sub hl [2, 1, 0] rfl) hf
            · replace hf := fx_ie c12 hf
              refine lv_iload_n hx hb dX0_leastMajority_25 rfl (lv_at hl 2 rfl) ?_
              obtain ⟨r14, hc13, hf⟩ := fxBP_e hf
              refine fx_ci hC hS (fx_runS (As := [.int w4]) (rest := []) hC hP hS (ctJ6_bitCount_0f7a4 l hc13 D cy ad ec _) kMS_X0_26 kC_J6_bitCount_0f7a4 hd_J6_bitCount_0f7a4.2 rfl ⟨(Nat.le_of_ble_eq_true rfl), (Nat.le_of_ble_eq_true rfl)⟩ ⟨Nat.le_refl 0, Nat.le_refl 0⟩ hl.1 (Nat.le_of_ble_eq_true rfl) rfl dX0_leastMajority_26) (fun H locs hP hS => ?_)
              refine lv_iload_n hx hb dX0_leastMajority_29 rfl (lv_at hl 1 rfl) ?_
              obtain ⟨r17, hc16, hf⟩ := fxBP_e hf
              refine fx_ci hC hS (fx_runS (As := [.int w3]) (rest := [.int r14]) hC hP hS (ctJ6_bitCount_0f7a4 l hc16 D cy ad ec _) kMS_X0_26 kC_J6_bitCount_0f7a4 hd_J6_bitCount_0f7a4.2 rfl ⟨(Nat.le_of_ble_eq_true rfl), (Nat.le_of_ble_eq_true rfl)⟩ ⟨Nat.le_refl 0, Nat.le_refl 0⟩ hl.1 (Nat.le_of_ble_eq_true rfl) rfl dX0_leastMajority_30) (fun H locs hP hS => ?_)
              refine lv_icmp_ge (tgt := 38) hx hb dX0_leastMajority_33 (by decide) (fun c19 => ?_) (fun c19 => ?_)
              · replace hf := fx_it c19 hf
                refine lv_iinc (v := (w4 + 1)) (lv' := [(2, .int (w4 + 1)), (0, .ref (ad 5)), (1, .int w3)]) hx hb dX0_leastMajority_38 hl (k := 2) rfl (congrArg (fun z => w4 + z) ki_1) (by decide) rfl (fun ls hl => ?_)
                refine lv_goto (tgt := 4) hx hb dX0_leastMajority_41 (by decide) ?_
                exact ih5 w3 (w4 + 1) _ _ _ hP hS (lv_sub hl [1, 2, 0] rfl) hf
              · replace hf := fx_ie c19 hf
                refine lv_iload_n hx hb dX0_leastMajority_36 rfl (lv_at hl 2 rfl) ?_
                refine lv_istore_n (lv' := [(1, .int w4), (0, .ref (ad 5)), (2, .int w4)]) hx hb dX0_leastMajority_37 rfl hl (by decide) rfl (fun ls hl => ?_)
                refine lv_iinc (v := (w4 + 1)) (lv' := [(2, .int (w4 + 1)), (1, .int w4), (0, .ref (ad 5))]) hx hb dX0_leastMajority_38 hl (k := 2) rfl (congrArg (fun z => w4 + z) ki_1) (by decide) rfl (fun ls hl => ?_)
                refine lv_goto (tgt := 4) hx hb dX0_leastMajority_41 (by decide) ?_
                exact ih5 w4 (w4 + 1) _ _ _ hP hS (lv_sub hl [2, 1, 0] rfl) hf
    exact L20 FU (-1) 0 _ _ _ hP hS (lv_sub hl [2, 1, 0] rfl) hf
  exact main _ _ _ hP hS hl

set_option maxHeartbeats 4000000 in
set_option maxRecDepth 100000 in
theorem ctX1_put (l : Launch) {t : Nat} {a1 : Int32} {σ σ' : FH} (hf : fX1_put t a1 σ = some σ') : fx_Mv l yX1_put cX1_put 2 none (0) LX (fun ad ec => [.ref (ad t), .int a1]) σ σ' := by
  unfold fX1_put at hf
  obtain ⟨h_t, hf⟩ := fxG_e hf
  refine fx_mv' (own := RX1) rfl (by decide +kernel) ?_
  intro p e s m args below meth c D cy ad ec A hC hr hk hP hS
  have hx := hC.1
  have hb := hC.2.1
  have hl := lv_entry ([.ref (ad t), .int a1]) (n := 2) (Nat.le_of_ble_eq_true rfl)
  show W _ _ _ _ _ _ _ _ _ _ _ _ _ _ _ (entryFrame m ([.ref (ad t), .int a1] : List Value).toArray 2)
  rw [lg_entry_eq]
  generalize (lg_sl ([.ref (ad t), .int a1]) ++ List.replicate (2 - (lg_sl ([.ref (ad t), .int a1])).length) Slot.unset).toArray = ls at hl ⊢
  have hl : lv_has ls 2 [(0, .ref (ad t)), (1, .int a1)] := hl
  have main : ∀ (H : Heap) (locs : List Loc) (ls : Array Slot), fx_P D cy LX ad σ H → va_S A s.heap H locs → lv_has ls 2 [(0, .ref (ad t)), (1, .int a1)] → W p l e (fx_R (0)) s m args below meth c H locs 0 0 (fx_Qv D cy LX ad A below args s σ') (F0 m 0 ls []) := by
    intro H locs ls hP hS hl
    refine lv_aload_n hx hb dX1_put_0 rfl (lv_at hl 0 rfl) ?_
    refine gf_X1_18 (v := .int (σ.1 t 1)) hC hP h_t rfl dX1_put_1 ?_
    refine lv_if_lt (tgt := 39) hx hb dX1_put_4 (by decide) (fun c1 => ?_) (fun c1 => ?_)
    · replace hf := fx_it c1 hf
      exact fx_vretf hf hC hr hk hP hS dX1_put_39
    · replace hf := fx_ie c1 hf
      refine lv_aload_n hx hb dX1_put_7 rfl (lv_at hl 0 rfl) ?_
      refine gf_X1_18 (v := .int (σ.1 t 1)) hC hP h_t rfl dX1_put_8 ?_
      refine lv_aload_n hx hb dX1_put_11 rfl (lv_at hl 0 rfl) ?_
      refine gf_X1_9 (v := .ref (ad (t + 1))) hC hP h_t rfl dX1_put_12 ?_
      refine fx_alen (v := 1000) hC hP (lyX_1_0 h_t) (by decide) 0 rfl rfl (by decide) dX1_put_15 ?_
      refine lv_icmp_ge (tgt := 39) hx hb dX1_put_16 (by decide) (fun c2 => ?_) (fun c2 => ?_)
      · replace hf := fx_it c2 hf
        exact fx_vretf hf hC hr hk hP hS dX1_put_39
      · replace hf := fx_ie c2 hf
        refine lv_aload_n hx hb dX1_put_19 rfl (lv_at hl 0 rfl) ?_
        refine gf_X1_9 (v := .ref (ad (t + 1))) hC hP h_t rfl dX1_put_20 ?_
        refine lv_aload_n hx hb dX1_put_23 rfl (lv_at hl 0 rfl) ?_
        refine gf_X1_18 (v := .int (σ.1 t 1)) hC hP h_t rfl dX1_put_24 ?_
        refine lv_iload_n hx hb dX1_put_27 rfl (lv_at hl 1 rfl) ?_
        obtain ⟨h3, hf⟩ := fxG_e hf
        obtain ⟨σ4, eσ4, hf⟩ := fxL_e hf
        refine fx_iast hC hP hS (lyX_1_0 h_t) (fx_inp h3) dX1_put_28 (fun H locs hP hS => ?_)
        replace hP := fx_Pe eσ4 hP
        refine lv_aload_n hx hb dX1_put_29 rfl (lv_at hl 0 rfl) ?_
        refine lv_dup hx hb dX1_put_30 rfl ?_
        refine gf_X1_18 (v := .int (σ4.1 t 1)) hC hP h_t rfl dX1_put_31 ?_
        refine lv_iconst hx hb dX1_put_34 ki_1 ?_
        refine lv_iadd hx hb dX1_put_35 ?_
        obtain ⟨σ5, eσ5, hf⟩ := fxL_e hf
        refine pf_X1_18 hC hP hS h_t dX1_put_36 (fun H locs hP hS => ?_)
        replace hP := fx_Pe eσ5 hP
        exact fx_vretf hf hC hr hk hP hS dX1_put_39
  exact main _ _ _ hP hS hl

set_option maxHeartbeats 4000000 in
set_option maxRecDepth 100000 in
theorem ctX1_truth (l : Launch) {a0 : Int32} {σ : FH} {v : Int32} (hf : fX1_truth a0 σ = some v) : fx_Mi l yX1_truth cX1_truth 1 (some .int) (0) LX (fun ad ec => [.int a0]) σ v σ := by
  unfold fX1_truth at hf
  refine fx_mi' (own := RX1) rfl (by decide +kernel) ?_
  intro p e s m args below meth c D cy ad ec A hC hr hk hP hS
  have hx := hC.1
  have hb := hC.2.1
  have hl := lv_entry ([.int a0]) (n := 1) (Nat.le_of_ble_eq_true rfl)
  show W _ _ _ _ _ _ _ _ _ _ _ _ _ _ _ (entryFrame m ([.int a0] : List Value).toArray 1)
  rw [lg_entry_eq]
  generalize (lg_sl ([.int a0]) ++ List.replicate (1 - (lg_sl ([.int a0])).length) Slot.unset).toArray = ls at hl ⊢
  have hl : lv_has ls 1 [(0, .int a0)] := hl
  have main : ∀ (H : Heap) (locs : List Loc) (ls : Array Slot), fx_P D cy LX ad σ H → va_S A s.heap H locs → lv_has ls 1 [(0, .int a0)] → W p l e (fx_R (0)) s m args below meth c H locs 0 0 (fx_Qi D cy LX ad A below args s v σ) (F0 m 0 ls []) := by
    intro H locs ls hP hS hl
    refine lv_iload_n hx hb dX1_truth_0 rfl (lv_at hl 0 rfl) ?_
    obtain ⟨v1, ev1, hf⟩ := fxL_e hf
    have j_v1 : ∀ (z2 : Int32), z2 = ((if a0 = 0 then 0 else 1) : Int32) → ∀ (ls : Array Slot), lv_has ls 1 [] → W p l e (fx_R (0)) s m args below meth c H locs 0 0 (fx_Qi D cy LX ad A below args s v σ) (F0 m 9 ls [.int z2]) := by
      intro z2 hz2 ls hl
      obtain rfl : v1 = z2 := ev1.trans hz2.symm
      exact fx_iretp hf hC hr hk hP hS dX1_truth_9
    refine lv_if_eq (tgt := 8) hx hb dX1_truth_1 (by decide) (fun c3 => ?_) (fun c3 => ?_)
    · refine lv_iconst hx hb dX1_truth_8 ki_0 ?_
      exact j_v1 0 (if_pos c3).symm ls (lv_sub hl [] rfl)
    · refine lv_iconst hx hb dX1_truth_4 ki_1 ?_
      refine lv_goto (tgt := 9) hx hb dX1_truth_5 (by decide) ?_
      exact j_v1 1 (if_neg c3).symm ls (lv_sub hl [] rfl)
  exact main _ _ _ hP hS hl

set_option maxHeartbeats 4000000 in
set_option maxRecDepth 100000 in
theorem ctX1_combine (l : Launch) {a0 : Int32} {a1 : Int32} {a2 : Int32} {σ : FH} {v : Int32} (hf : fX1_combine a0 a1 a2 σ = some v) : fx_Mi l yX1_combine cX1_combine 3 (some .int) (1) LX (fun ad ec => [.int a0, .int a1, .int a2]) σ v σ := by
  unfold fX1_combine at hf
  refine fx_mi' (own := RX1) rfl (by decide +kernel) ?_
  intro p e s m args below meth c D cy ad ec A hC hr hk hP hS
  have hx := hC.1
  have hb := hC.2.1
  have hl := lv_entry ([.int a0, .int a1, .int a2]) (n := 3) (Nat.le_of_ble_eq_true rfl)
  show W _ _ _ _ _ _ _ _ _ _ _ _ _ _ _ (entryFrame m ([.int a0, .int a1, .int a2] : List Value).toArray 3)
  rw [lg_entry_eq]
  generalize (lg_sl ([.int a0, .int a1, .int a2]) ++ List.replicate (3 - (lg_sl ([.int a0, .int a1, .int a2])).length) Slot.unset).toArray = ls at hl ⊢
  have hl : lv_has ls 3 [(0, .int a0), (1, .int a1), (2, .int a2)] := hl
  have main : ∀ (H : Heap) (locs : List Loc) (ls : Array Slot), fx_P D cy LX ad σ H → va_S A s.heap H locs → lv_has ls 3 [(0, .int a0), (1, .int a1), (2, .int a2)] → W p l e (fx_R (1)) s m args below meth c H locs 0 0 (fx_Qi D cy LX ad A below args s v σ) (F0 m 0 ls []) := by
    intro H locs ls hP hS hl
    refine lv_iload_n hx hb dX1_combine_0 rfl (lv_at hl 0 rfl) ?_
    by_cases c1 : a0 = (-11)
    · replace hf := fx_it c1 hf
      refine lv_tableIn (off := 105) (tgt := 106) hx hb dX1_combine_1 (by rw [c1]; decide) (by rw [c1]; decide) (by rw [c1]; rfl) (by decide) ?_
      refine lv_iload_n hx hb dX1_combine_106 rfl (lv_at hl 1 rfl) ?_
      refine lv_iload_n hx hb dX1_combine_107 rfl (lv_at hl 2 rfl) ?_
      refine lv_isub hx hb dX1_combine_108 ?_
      exact fx_iretp hf hC hr hk hP hS dX1_combine_109
    replace hf := fx_ie c1 hf
    by_cases c2 : a0 = (-10)
    · replace hf := fx_it c2 hf
      refine lv_tableIn (off := 101) (tgt := 102) hx hb dX1_combine_1 (by rw [c2]; decide) (by rw [c2]; decide) (by rw [c2]; rfl) (by decide) ?_
      refine lv_iload_n hx hb dX1_combine_102 rfl (lv_at hl 1 rfl) ?_
      refine lv_iload_n hx hb dX1_combine_103 rfl (lv_at hl 2 rfl) ?_
      refine lv_iadd hx hb dX1_combine_104 ?_
      exact fx_iretp hf hC hr hk hP hS dX1_combine_105
    replace hf := fx_ie c2 hf
    by_cases c3 : a0 = (-9)
    · replace hf := fx_it c3 hf
      refine lv_tableIn (off := 87) (tgt := 88) hx hb dX1_combine_1 (by rw [c3]; decide) (by rw [c3]; decide) (by rw [c3]; rfl) (by decide) ?_
      refine lv_iload_n hx hb dX1_combine_88 rfl (lv_at hl 1 rfl) ?_
      refine lv_iload_n hx hb dX1_combine_89 rfl (lv_at hl 2 rfl) ?_
      obtain ⟨v4, ev4, hf⟩ := fxL_e hf
      have j_v4 : ∀ (z5 : Int32), z5 = ((if a1 = a2 then 1 else 0) : Int32) → ∀ (ls : Array Slot), lv_has ls 3 [] → W p l e (fx_R (1)) s m args below meth c H locs 0 0 (fx_Qi D cy LX ad A below args s v σ) (F0 m 98 ls [.int z5]) := by
        intro z5 hz5 ls hl
        obtain rfl : v4 = z5 := ev4.trans hz5.symm
        obtain ⟨r8, hc7, hf⟩ := fxBP_e hf
        refine fx_ci hC hS (fx_runS (As := [.int v4]) (rest := []) hC hP hS (ctX1_truth l hc7 D cy ad ec _) kMS_X1_26 kC_X1_truth hd_X1_truth.2 rfl ⟨(Nat.le_of_ble_eq_true rfl), (Nat.le_of_ble_eq_true rfl)⟩ ⟨Nat.le_refl 0, Nat.le_refl 0⟩ hl.1 (Nat.le_of_ble_eq_true rfl) rfl dX1_combine_98) (fun H locs hP hS => ?_)
        exact fx_iretp hf hC hr hk hP hS dX1_combine_101
      refine lv_icmp_ne (tgt := 97) hx hb dX1_combine_90 (by decide) (fun c6 => ?_) (fun c6 => ?_)
      · refine lv_iconst hx hb dX1_combine_97 ki_0 ?_
        exact j_v4 0 (if_neg c6).symm ls (lv_sub hl [] rfl)
      · refine lv_iconst hx hb dX1_combine_93 ki_1 ?_
        refine lv_goto (tgt := 98) hx hb dX1_combine_94 (by decide) ?_
        exact j_v4 1 (if_pos c6).symm ls (lv_sub hl [] rfl)
    replace hf := fx_ie c3 hf
    by_cases c10 : a0 = (-8)
    · replace hf := fx_it c10 hf
      refine lv_tableIn (off := 73) (tgt := 74) hx hb dX1_combine_1 (by rw [c10]; decide) (by rw [c10]; decide) (by rw [c10]; rfl) (by decide) ?_
      refine lv_iload_n hx hb dX1_combine_74 rfl (lv_at hl 1 rfl) ?_
      refine lv_iload_n hx hb dX1_combine_75 rfl (lv_at hl 2 rfl) ?_
      obtain ⟨v11, ev11, hf⟩ := fxL_e hf
      have j_v11 : ∀ (z12 : Int32), z12 = ((if a2 ≤ a1 then 0 else 1) : Int32) → ∀ (ls : Array Slot), lv_has ls 3 [] → W p l e (fx_R (1)) s m args below meth c H locs 0 0 (fx_Qi D cy LX ad A below args s v σ) (F0 m 84 ls [.int z12]) := by
        intro z12 hz12 ls hl
        obtain rfl : v11 = z12 := ev11.trans hz12.symm
        obtain ⟨r15, hc14, hf⟩ := fxBP_e hf
        refine fx_ci hC hS (fx_runS (As := [.int v11]) (rest := []) hC hP hS (ctX1_truth l hc14 D cy ad ec _) kMS_X1_26 kC_X1_truth hd_X1_truth.2 rfl ⟨(Nat.le_of_ble_eq_true rfl), (Nat.le_of_ble_eq_true rfl)⟩ ⟨Nat.le_refl 0, Nat.le_refl 0⟩ hl.1 (Nat.le_of_ble_eq_true rfl) rfl dX1_combine_84) (fun H locs hP hS => ?_)
        exact fx_iretp hf hC hr hk hP hS dX1_combine_87
      refine lv_icmp_ge (tgt := 83) hx hb dX1_combine_76 (by decide) (fun c13 => ?_) (fun c13 => ?_)
      · refine lv_iconst hx hb dX1_combine_83 ki_0 ?_
        exact j_v11 0 (if_pos c13).symm ls (lv_sub hl [] rfl)
      · refine lv_iconst hx hb dX1_combine_79 ki_1 ?_
        refine lv_goto (tgt := 84) hx hb dX1_combine_80 (by decide) ?_
        exact j_v11 1 (if_neg c13).symm ls (lv_sub hl [] rfl)
    replace hf := fx_ie c10 hf
    by_cases c17 : a0 = (-7)
    · replace hf := fx_it c17 hf
      refine lv_tableIn (off := 56) (tgt := 57) hx hb dX1_combine_1 (by rw [c17]; decide) (by rw [c17]; decide) (by rw [c17]; rfl) (by decide) ?_
      refine lv_iload_n hx hb dX1_combine_57 rfl (lv_at hl 1 rfl) ?_
      obtain ⟨v18, ev18, hf⟩ := fxL_e hf
      have j_v18 : ∀ (z19 : Int32), z19 = ((if a1 = 0 then (if a2 = 0 then 0 else 1) else 1) : Int32) → ∀ (ls : Array Slot), lv_has ls 3 [] → W p l e (fx_R (1)) s m args below meth c H locs 0 0 (fx_Qi D cy LX ad A below args s v σ) (F0 m 70 ls [.int z19]) := by
        intro z19 hz19 ls hl
        obtain rfl : v18 = z19 := ev18.trans hz19.symm
        obtain ⟨r23, hc22, hf⟩ := fxBP_e hf
        refine fx_ci hC hS (fx_runS (As := [.int v18]) (rest := []) hC hP hS (ctX1_truth l hc22 D cy ad ec _) kMS_X1_26 kC_X1_truth hd_X1_truth.2 rfl ⟨(Nat.le_of_ble_eq_true rfl), (Nat.le_of_ble_eq_true rfl)⟩ ⟨Nat.le_refl 0, Nat.le_refl 0⟩ hl.1 (Nat.le_of_ble_eq_true rfl) rfl dX1_combine_70) (fun H locs hP hS => ?_)
        exact fx_iretp hf hC hr hk hP hS dX1_combine_73
      refine lv_if_ne (tgt := 65) hx hb dX1_combine_58 (by decide) (fun c20 => ?_) (fun c20 => ?_)
      · refine lv_iconst hx hb dX1_combine_65 ki_1 ?_
        refine lv_goto (tgt := 70) hx hb dX1_combine_66 (by decide) ?_
        exact j_v18 1 (if_neg c20).symm ls (lv_sub hl [] rfl)
      · refine lv_iload_n hx hb dX1_combine_61 rfl (lv_at hl 2 rfl) ?_
        refine lv_if_eq (tgt := 69) hx hb dX1_combine_62 (by decide) (fun c21 => ?_) (fun c21 => ?_)
        · refine lv_iconst hx hb dX1_combine_69 ki_0 ?_
          exact j_v18 0 ((if_pos c20).trans (if_pos c21)).symm ls (lv_sub hl [] rfl)
        · refine lv_iconst hx hb dX1_combine_65 ki_1 ?_
          refine lv_goto (tgt := 70) hx hb dX1_combine_66 (by decide) ?_
          exact j_v18 1 ((if_pos c20).trans (if_neg c21)).symm ls (lv_sub hl [] rfl)
    replace hf := fx_ie c17 hf
    by_cases c25 : a0 = (-6)
    · replace hf := fx_it c25 hf
      refine lv_tableIn (off := 39) (tgt := 40) hx hb dX1_combine_1 (by rw [c25]; decide) (by rw [c25]; decide) (by rw [c25]; rfl) (by decide) ?_
      refine lv_iload_n hx hb dX1_combine_40 rfl (lv_at hl 1 rfl) ?_
      obtain ⟨v26, ev26, hf⟩ := fxL_e hf
      have j_v26 : ∀ (z27 : Int32), z27 = ((if a1 = 0 then 0 else (if a2 = 0 then 0 else 1)) : Int32) → ∀ (ls : Array Slot), lv_has ls 3 [] → W p l e (fx_R (1)) s m args below meth c H locs 0 0 (fx_Qi D cy LX ad A below args s v σ) (F0 m 53 ls [.int z27]) := by
        intro z27 hz27 ls hl
        obtain rfl : v26 = z27 := ev26.trans hz27.symm
        obtain ⟨r31, hc30, hf⟩ := fxBP_e hf
        refine fx_ci hC hS (fx_runS (As := [.int v26]) (rest := []) hC hP hS (ctX1_truth l hc30 D cy ad ec _) kMS_X1_26 kC_X1_truth hd_X1_truth.2 rfl ⟨(Nat.le_of_ble_eq_true rfl), (Nat.le_of_ble_eq_true rfl)⟩ ⟨Nat.le_refl 0, Nat.le_refl 0⟩ hl.1 (Nat.le_of_ble_eq_true rfl) rfl dX1_combine_53) (fun H locs hP hS => ?_)
        exact fx_iretp hf hC hr hk hP hS dX1_combine_56
      refine lv_if_eq (tgt := 52) hx hb dX1_combine_41 (by decide) (fun c28 => ?_) (fun c28 => ?_)
      · refine lv_iconst hx hb dX1_combine_52 ki_0 ?_
        exact j_v26 0 (if_pos c28).symm ls (lv_sub hl [] rfl)
      · refine lv_iload_n hx hb dX1_combine_44 rfl (lv_at hl 2 rfl) ?_
        refine lv_if_eq (tgt := 52) hx hb dX1_combine_45 (by decide) (fun c29 => ?_) (fun c29 => ?_)
        · refine lv_iconst hx hb dX1_combine_52 ki_0 ?_
          exact j_v26 0 ((if_neg c28).trans (if_pos c29)).symm ls (lv_sub hl [] rfl)
        · refine lv_iconst hx hb dX1_combine_48 ki_1 ?_
          refine lv_goto (tgt := 53) hx hb dX1_combine_49 (by decide) ?_
          exact j_v26 1 ((if_neg c28).trans (if_neg c29)).symm ls (lv_sub hl [] rfl)
    replace hf := fx_ie c25 hf
    have qc1 := fx_ne32 (z := -11) rfl c1
    have qc2 := fx_ne32 (z := -10) rfl c2
    have qc3 := fx_ne32 (z := -9) rfl c3
    have qc10 := fx_ne32 (z := -8) rfl c10
    have qc17 := fx_ne32 (z := -7) rfl c17
    have qc25 := fx_ne32 (z := -6) rfl c25
    refine lv_tableOut (tgt := 110) hx hb dX1_combine_1 (by omega) (by decide) ?_
    refine lv_iload_n hx hb dX1_combine_110 rfl (lv_at hl 1 rfl) ?_
    refine lv_iload_n hx hb dX1_combine_111 rfl (lv_at hl 2 rfl) ?_
    refine lv_imul hx hb dX1_combine_112 ?_
    exact fx_iretp hf hC hr hk hP hS dX1_combine_113
  exact main _ _ _ hP hS hl

set_option maxHeartbeats 4000000 in
set_option maxRecDepth 100000 in
theorem ctX1_fact (l : Launch) {a0 : Int32} {a1 : Int32} {a2 : Int32} {a3 : Int32} {a4 : Int32} {σ : FH} {v : Int32} (hf : fX1_fact a0 a1 a2 a3 a4 σ = some v) : fx_Mi l yX1_fact cX1_fact 5 (some .int) (0) LX (fun ad ec => [.int a0, .int a1, .int a2, .int a3, .int a4]) σ v σ := by
  unfold fX1_fact at hf
  refine fx_mi' (own := RX1) rfl (by decide +kernel) ?_
  intro p e s m args below meth c D cy ad ec A hC hr hk hP hS
  have hx := hC.1
  have hb := hC.2.1
  have hl := lv_entry ([.int a0, .int a1, .int a2, .int a3, .int a4]) (n := 5) (Nat.le_of_ble_eq_true rfl)
  show W _ _ _ _ _ _ _ _ _ _ _ _ _ _ _ (entryFrame m ([.int a0, .int a1, .int a2, .int a3, .int a4] : List Value).toArray 5)
  rw [lg_entry_eq]
  generalize (lg_sl ([.int a0, .int a1, .int a2, .int a3, .int a4]) ++ List.replicate (5 - (lg_sl ([.int a0, .int a1, .int a2, .int a3, .int a4])).length) Slot.unset).toArray = ls at hl ⊢
  have hl : lv_has ls 5 [(0, .int a0), (1, .int a1), (2, .int a2), (3, .int a3), (4, .int a4)] := hl
  have main : ∀ (H : Heap) (locs : List Loc) (ls : Array Slot), fx_P D cy LX ad σ H → va_S A s.heap H locs → lv_has ls 5 [(0, .int a0), (1, .int a1), (2, .int a2), (3, .int a3), (4, .int a4)] → W p l e (fx_R (0)) s m args below meth c H locs 0 0 (fx_Qi D cy LX ad A below args s v σ) (F0 m 0 ls []) := by
    intro H locs ls hP hS hl
    refine lv_iload_n hx hb dX1_fact_0 rfl (lv_at hl 0 rfl) ?_
    by_cases c1 : a0 = (-3)
    · replace hf := fx_it c1 hf
      refine lv_tableIn (off := 31) (tgt := 32) hx hb dX1_fact_1 (by rw [c1]; decide) (by rw [c1]; decide) (by rw [c1]; rfl) (by decide) ?_
      refine lv_iload_n hx hb dX1_fact_32 rfl (lv_at hl 3 rfl) ?_
      exact fx_iretp hf hC hr hk hP hS dX1_fact_33
    replace hf := fx_ie c1 hf
    by_cases c2 : a0 = (-2)
    · replace hf := fx_it c2 hf
      refine lv_tableIn (off := 29) (tgt := 30) hx hb dX1_fact_1 (by rw [c2]; decide) (by rw [c2]; decide) (by rw [c2]; rfl) (by decide) ?_
      refine lv_iload_n hx hb dX1_fact_30 rfl (lv_at hl 2 rfl) ?_
      exact fx_iretp hf hC hr hk hP hS dX1_fact_31
    replace hf := fx_ie c2 hf
    by_cases c3 : a0 = (-1)
    · replace hf := fx_it c3 hf
      refine lv_tableIn (off := 27) (tgt := 28) hx hb dX1_fact_1 (by rw [c3]; decide) (by rw [c3]; decide) (by rw [c3]; rfl) (by decide) ?_
      refine lv_iload_n hx hb dX1_fact_28 rfl (lv_at hl 1 rfl) ?_
      exact fx_iretp hf hC hr hk hP hS dX1_fact_29
    replace hf := fx_ie c3 hf
    have qc1 := fx_ne32 (z := -3) rfl c1
    have qc2 := fx_ne32 (z := -2) rfl c2
    have qc3 := fx_ne32 (z := -1) rfl c3
    refine lv_tableOut (tgt := 34) hx hb dX1_fact_1 (by omega) (by decide) ?_
    refine lv_iload hx hb dX1_fact_34 (lv_at hl 4 rfl) ?_
    exact fx_iretp hf hC hr hk hP hS dX1_fact_36
  exact main _ _ _ hP hS hl

set_option maxHeartbeats 4000000 in
set_option maxRecDepth 100000 in
theorem ctX1_value (l : Launch) {t : Nat} {a1 : Int32} {a2 : Int32} {a3 : Int32} {a4 : Int32} {σ σ' : FH} {v : Int32} (hf : fX1_value t a1 a2 a3 a4 σ = some (v, σ')) : fx_Mi l yX1_value cX1_value 8 (some .int) (2) LX (fun ad ec => [.ref (ad t), .int a1, .int a2, .int a3, .int a4]) σ v σ' := by
  unfold fX1_value at hf
  obtain ⟨h_t, hf⟩ := fxG_e hf
  refine fx_mi' (own := RX1) rfl (by decide +kernel) ?_
  intro p e s m args below meth c D cy ad ec A hC hr hk hP hS
  have hx := hC.1
  have hb := hC.2.1
  have hl := lv_entry ([.ref (ad t), .int a1, .int a2, .int a3, .int a4]) (n := 8) (Nat.le_of_ble_eq_true rfl)
  show W _ _ _ _ _ _ _ _ _ _ _ _ _ _ _ (entryFrame m ([.ref (ad t), .int a1, .int a2, .int a3, .int a4] : List Value).toArray 8)
  rw [lg_entry_eq]
  generalize (lg_sl ([.ref (ad t), .int a1, .int a2, .int a3, .int a4]) ++ List.replicate (8 - (lg_sl ([.ref (ad t), .int a1, .int a2, .int a3, .int a4])).length) Slot.unset).toArray = ls at hl ⊢
  have hl : lv_has ls 8 [(0, .ref (ad t)), (1, .int a1), (2, .int a2), (3, .int a3), (4, .int a4)] := hl
  have main : ∀ (H : Heap) (locs : List Loc) (ls : Array Slot), fx_P D cy LX ad σ H → va_S A s.heap H locs → lv_has ls 8 [(0, .ref (ad t)), (1, .int a1), (2, .int a2), (3, .int a3), (4, .int a4)] → W p l e (fx_R (2)) s m args below meth c H locs 0 0 (fx_Qi D cy LX ad A below args s v σ') (F0 m 0 ls []) := by
    intro H locs ls hP hS hl
    refine lv_aload_n hx hb dX1_value_0 rfl (lv_at hl 0 rfl) ?_
    refine gf_X1_18 (v := .int (σ.1 t 1)) hC hP h_t rfl dX1_value_1 ?_
    refine lv_if_gt (tgt := 9) hx hb dX1_value_4 (by decide) (fun c1 => ?_) (fun c1 => ?_)
    · replace hf := fx_it c1 hf
      refine lv_iconst hx hb dX1_value_9 ki_0 ?_
      refine lv_istore (lv' := [(5, .int 0), (0, .ref (ad t)), (1, .int a1), (2, .int a2), (3, .int a3), (4, .int a4)]) hx hb dX1_value_10 hl (by decide) rfl (fun ls hl => ?_)
      refine lv_iconst hx hb dX1_value_12 ki_0 ?_
      refine lv_istore (lv' := [(6, .int 0), (5, .int 0), (0, .ref (ad t)), (1, .int a1), (2, .int a2), (3, .int a3), (4, .int a4)]) hx hb dX1_value_13 hl (by decide) rfl (fun ls hl => ?_)
      obtain ⟨K2, hK2, hf⟩ := fxL_e hf
      have k_K2 : ∀ (σ3 : FH) (H : Heap) (locs : List Loc) (ls : Array Slot), fx_P D cy LX ad σ3 H → va_S A s.heap H locs → lv_has ls 8 [(0, .ref (ad t))] → K2 σ3 = some (v, σ') → W p l e (fx_R (2)) s m args below meth c H locs 0 0 (fx_Qi D cy LX ad A below args s v σ') (F0 m 180 ls []) := by
        intro σ3 H locs ls hP hS hl hf
        replace hf := fxk1 hK2 hf
        refine lv_aload_n hx hb dX1_value_180 rfl (lv_at hl 0 rfl) ?_
        refine gf_X1_15 (v := .ref (ad (t + 2))) hC hP h_t rfl dX1_value_181 ?_
        refine lv_iconst hx hb dX1_value_184 ki_0 ?_
        obtain ⟨h4, hf⟩ := fxG_e hf
        refine fx_iald hC hP (lyX_1_2 h_t) (fx_inp h4) dX1_value_185 ?_
        exact fx_iretf hf hC hr hk hP hS dX1_value_186
      have L45 : ∀ (n9 : Nat) (w5 : Int32) (w6 : Int32) (σ7 : FH) (H : Heap) (locs : List Loc) (ls : Array Slot), fx_P D cy LX ad σ7 H → va_S A s.heap H locs → lv_has ls 8 [(0, .ref (ad t)), (1, .int a1), (2, .int a2), (3, .int a3), (4, .int a4), (5, .int w5), (6, .int w6)] → fX1_value_15 t a1 a2 a3 a4 K2 n9 w5 w6 σ7 = some (v, σ') → W p l e (fx_R (2)) s m args below meth c H locs 0 0 (fx_Qi D cy LX ad A below args s v σ') (F0 m 15 ls []) := by
        intro n9
        induction n9 with
        | zero =>
          intro w5 w6 σ7 H locs ls hP hS hl hf
          rw [fX1_value_15] at hf
          cases hf
        | succ n9 ih8 =>
          intro w5 w6 σ7 H locs ls hP hS hl hf
          rw [fX1_value_15] at hf
          refine lv_iload hx hb dX1_value_15 (lv_at hl 6 rfl) ?_
          refine lv_aload_n hx hb dX1_value_17 rfl (lv_at hl 0 rfl) ?_
          refine gf_X1_18 (v := .int (σ7.1 t 1)) hC hP h_t rfl dX1_value_18 ?_
          refine lv_icmp_ge (tgt := 180) hx hb dX1_value_21 (by decide) (fun c10 => ?_) (fun c10 => ?_)
          · replace hf := fx_it c10 hf
            exact k_K2 σ7 _ _ _ hP hS (lv_sub hl [0] rfl) hf
          · replace hf := fx_ie c10 hf
            refine lv_aload_n hx hb dX1_value_24 rfl (lv_at hl 0 rfl) ?_
            refine gf_X1_9 (v := .ref (ad (t + 1))) hC hP h_t rfl dX1_value_25 ?_
            refine lv_iload hx hb dX1_value_28 (lv_at hl 6 rfl) ?_
            obtain ⟨h11, hf⟩ := fxG_e hf
            refine fx_iald hC hP (lyX_1_0 h_t) (fx_inp h11) dX1_value_30 ?_
            obtain ⟨v12, ev12, hf⟩ := fxL_e hf
            refine fx_ti ev12 ?_
            refine lv_istore (lv' := [(7, .int v12), (0, .ref (ad t)), (1, .int a1), (2, .int a2), (3, .int a3), (4, .int a4), (5, .int w5), (6, .int w6)]) hx hb dX1_value_31 hl (by decide) rfl (fun ls hl => ?_)
            refine lv_iload hx hb dX1_value_33 (lv_at hl 0 rfl) ?_
            refine lv_bipush hx hb dX1_value_35 kb_m5 ?_
            obtain ⟨J13, hJ13, hf⟩ := fxL_e hf
            have j_J13 : ∀  (H : Heap) (locs : List Loc) (ls : Array Slot), fx_P D cy LX ad σ7 H → va_S A s.heap H locs → lv_has ls 8 [(0, .ref (ad t)), (1, .int a1), (2, .int a2), (3, .int a3), (4, .int a4), (5, .int w5), (6, .int w6), (7, .int v12)] → J13 = some (v, σ') → W p l e (fx_R (2)) s m args below meth c H locs 0 0 (fx_Qi D cy LX ad A below args s v σ') (F0 m 82 ls []) := by
              intro  H locs ls hP hS hl hf
              replace hf := hJ13.symm.trans hf
              refine lv_iload hx hb dX1_value_82 (lv_at hl 7 rfl) ?_
              refine lv_bipush hx hb dX1_value_84 kb_m5 ?_
              obtain ⟨J14, hJ14, hf⟩ := fxL_e hf
              have j_J14 : ∀  (H : Heap) (locs : List Loc) (ls : Array Slot), fx_P D cy LX ad σ7 H → va_S A s.heap H locs → lv_has ls 8 [(0, .ref (ad t)), (1, .int a1), (2, .int a2), (3, .int a3), (4, .int a4), (5, .int w5), (6, .int w6), (7, .int v12)] → J14 = some (v, σ') → W p l e (fx_R (2)) s m args below meth c H locs 0 0 (fx_Qi D cy LX ad A below args s v σ') (F0 m 127 ls []) := by
                intro  H locs ls hP hS hl hf
                replace hf := hJ14.symm.trans hf
                refine lv_iload hx hb dX1_value_127 (lv_at hl 7 rfl) ?_
                refine lv_bipush hx hb dX1_value_129 kb_m5 ?_
                refine lv_icmp_le (tgt := 174) hx hb dX1_value_131 (by decide) (fun c15 => ?_) (fun c15 => ?_)
                · replace hf := fx_it c15 hf
                  refine lv_iinc (v := (w6 + 1)) (lv' := [(6, .int (w6 + 1)), (0, .ref (ad t)), (1, .int a1), (2, .int a2), (3, .int a3), (4, .int a4), (5, .int w5), (7, .int v12)]) hx hb dX1_value_174 hl (k := 6) rfl (congrArg (fun z => w6 + z) ki_1) (by decide) rfl (fun ls hl => ?_)
                  refine lv_goto (tgt := 15) hx hb dX1_value_177 (by decide) ?_
                  exact ih8 w5 (w6 + 1) σ7 _ _ _ hP hS (lv_sub hl [1, 2, 3, 4, 5, 6, 0] rfl) hf
                · replace hf := fx_ie c15 hf
                  refine lv_iload hx hb dX1_value_134 (lv_at hl 5 rfl) ?_
                  refine lv_aload_n hx hb dX1_value_136 rfl (lv_at hl 0 rfl) ?_
                  refine gf_X1_15 (v := .ref (ad (t + 2))) hC hP h_t rfl dX1_value_137 ?_
                  refine fx_alen (v := 32) hC hP (lyX_1_2 h_t) (by decide) 0 rfl rfl (by decide) dX1_value_140 ?_
                  refine lv_icmp_ge (tgt := 174) hx hb dX1_value_141 (by decide) (fun c16 => ?_) (fun c16 => ?_)
                  · replace hf := fx_it c16 hf
                    refine lv_iinc (v := (w6 + 1)) (lv' := [(6, .int (w6 + 1)), (0, .ref (ad t)), (1, .int a1), (2, .int a2), (3, .int a3), (4, .int a4), (5, .int w5), (7, .int v12)]) hx hb dX1_value_174 hl (k := 6) rfl (congrArg (fun z => w6 + z) ki_1) (by decide) rfl (fun ls hl => ?_)
                    refine lv_goto (tgt := 15) hx hb dX1_value_177 (by decide) ?_
                    exact ih8 w5 (w6 + 1) σ7 _ _ _ hP hS (lv_sub hl [1, 2, 3, 4, 5, 6, 0] rfl) hf
                  · replace hf := fx_ie c16 hf
                    refine lv_aload_n hx hb dX1_value_144 rfl (lv_at hl 0 rfl) ?_
                    refine gf_X1_15 (v := .ref (ad (t + 2))) hC hP h_t rfl dX1_value_145 ?_
                    refine lv_iload hx hb dX1_value_148 (lv_at hl 5 rfl) ?_
                    refine lv_iload hx hb dX1_value_150 (lv_at hl 7 rfl) ?_
                    obtain ⟨J17, hJ17, hf⟩ := fxL_e hf
                    have j_J17 : ∀ (y18 : Int32) (H : Heap) (locs : List Loc) (ls : Array Slot), fx_P D cy LX ad σ7 H → va_S A s.heap H locs → lv_has ls 8 [(0, .ref (ad t)), (1, .int a1), (2, .int a2), (3, .int a3), (4, .int a4), (5, .int w5), (6, .int w6)] → J17 y18 = some (v, σ') → W p l e (fx_R (2)) s m args below meth c H locs 0 0 (fx_Qi D cy LX ad A below args s v σ') (F0 m 170 ls [.int y18, .int w5, .ref (ad (t + 2))]) := by
                      intro y18 H locs ls hP hS hl hf
                      replace hf := fxk1 hJ17 hf
                      obtain ⟨h19, hf⟩ := fxG_e hf
                      obtain ⟨σ20, eσ20, hf⟩ := fxL_e hf
                      refine fx_iast hC hP hS (lyX_1_2 h_t) (fx_inp h19) dX1_value_170 (fun H locs hP hS => ?_)
                      replace hP := fx_Pe eσ20 hP
                      refine lv_iinc (v := (w5 + 1)) (lv' := [(5, .int (w5 + 1)), (0, .ref (ad t)), (1, .int a1), (2, .int a2), (3, .int a3), (4, .int a4), (6, .int w6)]) hx hb dX1_value_171 hl (k := 5) rfl (congrArg (fun z => w5 + z) ki_1) (by decide) rfl (fun ls hl => ?_)
                      refine lv_iinc (v := (w6 + 1)) (lv' := [(6, .int (w6 + 1)), (5, .int (w5 + 1)), (0, .ref (ad t)), (1, .int a1), (2, .int a2), (3, .int a3), (4, .int a4)]) hx hb dX1_value_174 hl (k := 6) rfl (congrArg (fun z => w6 + z) ki_1) (by decide) rfl (fun ls hl => ?_)
                      refine lv_goto (tgt := 15) hx hb dX1_value_177 (by decide) ?_
                      exact ih8 (w5 + 1) (w6 + 1) σ20 _ _ _ hP hS (lv_sub hl [2, 3, 4, 5, 6, 1, 0] rfl) hf
                    refine lv_if_lt (tgt := 160) hx hb dX1_value_152 (by decide) (fun c21 => ?_) (fun c21 => ?_)
                    · replace hf := fx_it c21 hf
                      refine lv_iload hx hb dX1_value_160 (lv_at hl 7 rfl) ?_
                      refine lv_iload_n hx hb dX1_value_162 rfl (lv_at hl 1 rfl) ?_
                      refine lv_iload_n hx hb dX1_value_163 rfl (lv_at hl 2 rfl) ?_
                      refine lv_iload_n hx hb dX1_value_164 rfl (lv_at hl 3 rfl) ?_
                      refine lv_iload hx hb dX1_value_165 (lv_at hl 4 rfl) ?_
                      obtain ⟨r23, hc22, hf⟩ := fxBP_e hf
                      refine fx_ci hC hS (fx_runS (As := [.int v12, .int a1, .int a2, .int a3, .int a4]) (rest := [.int w5, .ref (ad (t + 2))]) hC hP hS (ctX1_fact l hc22 D cy ad ec _) kMS_X1_30 kC_X1_fact hd_X1_fact.2 rfl ⟨(Nat.le_of_ble_eq_true rfl), (Nat.le_of_ble_eq_true rfl)⟩ ⟨Nat.le_refl 0, Nat.le_refl 0⟩ hl.1 (Nat.le_of_ble_eq_true rfl) rfl dX1_value_167) (fun H locs hP hS => ?_)
                      exact j_J17 r23 _ _ _ hP hS (lv_sub hl [0, 1, 2, 3, 4, 5, 6] rfl) hf
                    · replace hf := fx_ie c21 hf
                      refine lv_iload hx hb dX1_value_155 (lv_at hl 7 rfl) ?_
                      refine lv_goto (tgt := 170) hx hb dX1_value_157 (by decide) ?_
                      exact j_J17 v12 _ _ _ hP hS (lv_sub hl [0, 1, 2, 3, 4, 5, 6] rfl) hf
              refine lv_icmp_ne (tgt := 127) hx hb dX1_value_86 (by decide) (fun c25 => ?_) (fun c25 => ?_)
              · replace hf := fx_ie c25 hf
                exact j_J14  _ _ _ hP hS (lv_sub hl [0, 1, 2, 3, 4, 5, 6, 7] rfl) hf
              · replace hf := fx_it c25 hf
                refine lv_iload hx hb dX1_value_89 (lv_at hl 5 rfl) ?_
                refine lv_iconst hx hb dX1_value_91 ki_1 ?_
                refine lv_icmp_lt (tgt := 127) hx hb dX1_value_92 (by decide) (fun c26 => ?_) (fun c26 => ?_)
                · replace hf := fx_it c26 hf
                  exact j_J14  _ _ _ hP hS (lv_sub hl [0, 1, 2, 3, 4, 5, 6, 7] rfl) hf
                · replace hf := fx_ie c26 hf
                  refine lv_aload_n hx hb dX1_value_95 rfl (lv_at hl 0 rfl) ?_
                  refine gf_X1_15 (v := .ref (ad (t + 2))) hC hP h_t rfl dX1_value_96 ?_
                  refine lv_iload hx hb dX1_value_99 (lv_at hl 5 rfl) ?_
                  refine lv_iconst hx hb dX1_value_101 ki_1 ?_
                  refine lv_isub hx hb dX1_value_102 ?_
                  refine lv_aload_n hx hb dX1_value_103 rfl (lv_at hl 0 rfl) ?_
                  refine gf_X1_15 (v := .ref (ad (t + 2))) hC hP h_t rfl dX1_value_104 ?_
                  refine lv_iload hx hb dX1_value_107 (lv_at hl 5 rfl) ?_
                  refine lv_iconst hx hb dX1_value_109 ki_1 ?_
                  refine lv_isub hx hb dX1_value_110 ?_
                  obtain ⟨h27, hf⟩ := fxG_e hf
                  refine fx_iald hC hP (lyX_1_2 h_t) (fx_inp h27) dX1_value_111 ?_
                  obtain ⟨v28, ev28, hf⟩ := fxL_e hf
                  have j_v28 : ∀ (z29 : Int32), z29 = ((if (σ7.1 (t + 2) (Int32.toNatClampNeg (w5 - 1))) = 0 then 1 else 0) : Int32) → ∀ (ls : Array Slot), lv_has ls 8 [(0, .ref (ad t)), (1, .int a1), (2, .int a2), (3, .int a3), (4, .int a4), (5, .int w5), (6, .int w6)] → W p l e (fx_R (2)) s m args below meth c H locs 0 0 (fx_Qi D cy LX ad A below args s v σ') (F0 m 120 ls [.int z29, .int (w5 - 1), .ref (ad (t + 2))]) := by
                    intro z29 hz29 ls hl
                    obtain rfl : v28 = z29 := ev28.trans hz29.symm
                    obtain ⟨r32, hc31, hf⟩ := fxBP_e hf
                    refine fx_ci hC hS (fx_runS (As := [.int v28]) (rest := [.int (w5 - 1), .ref (ad (t + 2))]) hC hP hS (ctX1_truth l hc31 D cy ad ec _) kMS_X1_26 kC_X1_truth hd_X1_truth.2 rfl ⟨(Nat.le_of_ble_eq_true rfl), (Nat.le_of_ble_eq_true rfl)⟩ ⟨Nat.le_refl 0, Nat.le_refl 0⟩ hl.1 (Nat.le_of_ble_eq_true rfl) rfl dX1_value_120) (fun H locs hP hS => ?_)
                    obtain ⟨h34, hf⟩ := fxG_e hf
                    obtain ⟨σ35, eσ35, hf⟩ := fxL_e hf
                    refine fx_iast hC hP hS (lyX_1_2 h_t) (fx_inp h34) dX1_value_123 (fun H locs hP hS => ?_)
                    replace hP := fx_Pe eσ35 hP
                    refine lv_goto (tgt := 174) hx hb dX1_value_124 (by decide) ?_
                    refine lv_iinc (v := (w6 + 1)) (lv' := [(6, .int (w6 + 1)), (0, .ref (ad t)), (1, .int a1), (2, .int a2), (3, .int a3), (4, .int a4), (5, .int w5)]) hx hb dX1_value_174 hl (k := 6) rfl (congrArg (fun z => w6 + z) ki_1) (by decide) rfl (fun ls hl => ?_)
                    refine lv_goto (tgt := 15) hx hb dX1_value_177 (by decide) ?_
                    exact ih8 w5 (w6 + 1) σ35 _ _ _ hP hS (lv_sub hl [1, 2, 3, 4, 5, 6, 0] rfl) hf
                  refine lv_if_ne (tgt := 119) hx hb dX1_value_112 (by decide) (fun c30 => ?_) (fun c30 => ?_)
                  · refine lv_iconst hx hb dX1_value_119 ki_0 ?_
                    exact j_v28 0 (if_neg c30).symm ls (lv_sub hl [0, 1, 2, 3, 4, 5, 6] rfl)
                  · refine lv_iconst hx hb dX1_value_115 ki_1 ?_
                    refine lv_goto (tgt := 120) hx hb dX1_value_116 (by decide) ?_
                    exact j_v28 1 (if_pos c30).symm ls (lv_sub hl [0, 1, 2, 3, 4, 5, 6] rfl)
            refine lv_icmp_ge (tgt := 82) hx hb dX1_value_37 (by decide) (fun c36 => ?_) (fun c36 => ?_)
            · replace hf := fx_it c36 hf
              exact j_J13  _ _ _ hP hS (lv_sub hl [1, 2, 3, 4, 5, 6, 7, 0] rfl) hf
            · replace hf := fx_ie c36 hf
              refine lv_iload hx hb dX1_value_40 (lv_at hl 6 rfl) ?_
              refine lv_iconst hx hb dX1_value_42 ki_2 ?_
              refine lv_icmp_lt (tgt := 82) hx hb dX1_value_43 (by decide) (fun c37 => ?_) (fun c37 => ?_)
              · replace hf := fx_it c37 hf
                exact j_J13  _ _ _ hP hS (lv_sub hl [1, 2, 3, 4, 5, 6, 7, 0] rfl) hf
              · replace hf := fx_ie c37 hf
                refine lv_iinc (v := (w5 + (-1))) (lv' := [(5, .int (w5 + (-1))), (7, .int v12), (0, .ref (ad t)), (1, .int a1), (2, .int a2), (3, .int a3), (4, .int a4), (6, .int w6)]) hx hb dX1_value_46 hl (k := 6) rfl (congrArg (fun z => w5 + z) ki_m1) (by decide) rfl (fun ls hl => ?_)
                refine lv_aload_n hx hb dX1_value_49 rfl (lv_at hl 2 rfl) ?_
                refine gf_X1_15 (v := .ref (ad (t + 2))) hC hP h_t rfl dX1_value_50 ?_
                refine lv_iload hx hb dX1_value_53 (lv_at hl 0 rfl) ?_
                refine lv_iconst hx hb dX1_value_55 ki_1 ?_
                refine lv_isub hx hb dX1_value_56 ?_
                refine lv_iload hx hb dX1_value_57 (lv_at hl 1 rfl) ?_
                refine lv_aload_n hx hb dX1_value_59 rfl (lv_at hl 2 rfl) ?_
                refine gf_X1_15 (v := .ref (ad (t + 2))) hC hP h_t rfl dX1_value_60 ?_
                refine lv_iload hx hb dX1_value_63 (lv_at hl 0 rfl) ?_
                refine lv_iconst hx hb dX1_value_65 ki_1 ?_
                refine lv_isub hx hb dX1_value_66 ?_
                obtain ⟨h38, hf⟩ := fxG_e hf
                refine fx_iald hC hP (lyX_1_2 h_t) (fx_inp h38) dX1_value_67 ?_
                refine lv_aload_n hx hb dX1_value_68 rfl (lv_at hl 2 rfl) ?_
                refine gf_X1_15 (v := .ref (ad (t + 2))) hC hP h_t rfl dX1_value_69 ?_
                refine lv_iload hx hb dX1_value_72 (lv_at hl 0 rfl) ?_
                obtain ⟨h39, hf⟩ := fxG_e hf
                refine fx_iald hC hP (lyX_1_2 h_t) (fx_inp h39) dX1_value_74 ?_
                obtain ⟨r41, hc40, hf⟩ := fxBP_e hf
                refine fx_ci hC hS (fx_runS (As := [.int v12, .int (σ7.1 (t + 2) (Int32.toNatClampNeg ((w5 + (-1)) - 1))), .int (σ7.1 (t + 2) (Int32.toNatClampNeg (w5 + (-1))))]) (rest := [.int ((w5 + (-1)) - 1), .ref (ad (t + 2))]) hC hP hS (ctX1_combine l hc40 D cy ad ec _) kMS_X1_22 kC_X1_combine hd_X1_combine.2 rfl ⟨(Nat.le_of_ble_eq_true rfl), (Nat.le_of_ble_eq_true rfl)⟩ ⟨Nat.le_refl 0, Nat.le_refl 0⟩ hl.1 (Nat.le_of_ble_eq_true rfl) rfl dX1_value_75) (fun H locs hP hS => ?_)
                obtain ⟨h43, hf⟩ := fxG_e hf
                obtain ⟨σ44, eσ44, hf⟩ := fxL_e hf
                refine fx_iast hC hP hS (lyX_1_2 h_t) (fx_inp h43) dX1_value_78 (fun H locs hP hS => ?_)
                replace hP := fx_Pe eσ44 hP
                refine lv_goto (tgt := 174) hx hb dX1_value_79 (by decide) ?_
                refine lv_iinc (v := (w6 + 1)) (lv' := [(6, .int (w6 + 1)), (5, .int (w5 + (-1))), (7, .int v12), (0, .ref (ad t)), (1, .int a1), (2, .int a2), (3, .int a3), (4, .int a4)]) hx hb dX1_value_174 hl (k := 7) rfl (congrArg (fun z => w6 + z) ki_1) (by decide) rfl (fun ls hl => ?_)
                refine lv_goto (tgt := 15) hx hb dX1_value_177 (by decide) ?_
                exact ih8 (w5 + (-1)) (w6 + 1) σ44 _ _ _ hP hS (lv_sub hl [3, 4, 5, 6, 7, 1, 0] rfl) hf
      exact L45 FU 0 0 σ _ _ _ hP hS (lv_sub hl [2, 3, 4, 5, 6, 1, 0] rfl) hf
    · replace hf := fx_ie c1 hf
      refine lv_iconst hx hb dX1_value_7 ki_1 ?_
      exact fx_iretf hf hC hr hk hP hS dX1_value_8
  exact main _ _ _ hP hS hl

set_option maxHeartbeats 4000000 in
set_option maxRecDepth 100000 in
theorem ctX8_put (l : Launch) {t : Nat} {a1 : Int32} {a2 : Int32} {a3 : Int32} {a4 : Int32} {σ σ' : FH} (hf : fX8_put t a1 a2 a3 a4 σ = some σ') : fx_Mv l yX8_put cX8_put 5 none (0) LX (fun ad ec => [.ref (ad t), .int a1, .int a2, .int a3, .int a4]) σ σ' := by
  unfold fX8_put at hf
  obtain ⟨h_t, hf⟩ := fxG_e hf
  refine fx_mv' (own := RX8) rfl (by decide +kernel) ?_
  intro p e s m args below meth c D cy ad ec A hC hr hk hP hS
  have hx := hC.1
  have hb := hC.2.1
  have hl := lv_entry ([.ref (ad t), .int a1, .int a2, .int a3, .int a4]) (n := 5) (Nat.le_of_ble_eq_true rfl)
  show W _ _ _ _ _ _ _ _ _ _ _ _ _ _ _ (entryFrame m ([.ref (ad t), .int a1, .int a2, .int a3, .int a4] : List Value).toArray 5)
  rw [lg_entry_eq]
  generalize (lg_sl ([.ref (ad t), .int a1, .int a2, .int a3, .int a4]) ++ List.replicate (5 - (lg_sl ([.ref (ad t), .int a1, .int a2, .int a3, .int a4])).length) Slot.unset).toArray = ls at hl ⊢
  have hl : lv_has ls 5 [(0, .ref (ad t)), (1, .int a1), (2, .int a2), (3, .int a3), (4, .int a4)] := hl
  have main : ∀ (H : Heap) (locs : List Loc) (ls : Array Slot), fx_P D cy LX ad σ H → va_S A s.heap H locs → lv_has ls 5 [(0, .ref (ad t)), (1, .int a1), (2, .int a2), (3, .int a3), (4, .int a4)] → W p l e (fx_R (0)) s m args below meth c H locs 0 0 (fx_Qv D cy LX ad A below args s σ') (F0 m 0 ls []) := by
    intro H locs ls hP hS hl
    refine lv_aload_n hx hb dX8_put_0 rfl (lv_at hl 0 rfl) ?_
    refine gf_X8_24 (v := .int (σ.1 t 0)) hC hP h_t rfl dX8_put_1 ?_
    refine lv_if_lt (tgt := 67) hx hb dX8_put_4 (by decide) (fun c1 => ?_) (fun c1 => ?_)
    · replace hf := fx_it c1 hf
      exact fx_vretf hf hC hr hk hP hS dX8_put_67
    · replace hf := fx_ie c1 hf
      refine lv_aload_n hx hb dX8_put_7 rfl (lv_at hl 0 rfl) ?_
      refine gf_X8_24 (v := .int (σ.1 t 0)) hC hP h_t rfl dX8_put_8 ?_
      refine lv_bipush hx hb dX8_put_11 kb_40 ?_
      refine lv_icmp_ge (tgt := 67) hx hb dX8_put_13 (by decide) (fun c2 => ?_) (fun c2 => ?_)
      · replace hf := fx_it c2 hf
        exact fx_vretf hf hC hr hk hP hS dX8_put_67
      · replace hf := fx_ie c2 hf
        refine lv_aload_n hx hb dX8_put_16 rfl (lv_at hl 0 rfl) ?_
        refine gf_X8_9 (v := .ref (ad (t + 1))) hC hP h_t rfl dX8_put_17 ?_
        refine lv_aload_n hx hb dX8_put_20 rfl (lv_at hl 0 rfl) ?_
        refine gf_X8_24 (v := .int (σ.1 t 0)) hC hP h_t rfl dX8_put_21 ?_
        refine lv_iload_n hx hb dX8_put_24 rfl (lv_at hl 1 rfl) ?_
        obtain ⟨h3, hf⟩ := fxG_e hf
        obtain ⟨σ4, eσ4, hf⟩ := fxL_e hf
        refine fx_iast hC hP hS (lyX_8_1 h_t) (fx_inp h3) dX8_put_25 (fun H locs hP hS => ?_)
        replace hP := fx_Pe eσ4 hP
        refine lv_aload_n hx hb dX8_put_26 rfl (lv_at hl 0 rfl) ?_
        refine gf_X8_15 (v := .ref (ad (t + 2))) hC hP h_t rfl dX8_put_27 ?_
        refine lv_aload_n hx hb dX8_put_30 rfl (lv_at hl 0 rfl) ?_
        refine gf_X8_24 (v := .int (σ4.1 t 0)) hC hP h_t rfl dX8_put_31 ?_
        refine lv_iload_n hx hb dX8_put_34 rfl (lv_at hl 2 rfl) ?_
        obtain ⟨h5, hf⟩ := fxG_e hf
        obtain ⟨σ6, eσ6, hf⟩ := fxL_e hf
        refine fx_iast hC hP hS (lyX_8_2 h_t) (fx_inp h5) dX8_put_35 (fun H locs hP hS => ?_)
        replace hP := fx_Pe eσ6 hP
        refine lv_aload_n hx hb dX8_put_36 rfl (lv_at hl 0 rfl) ?_
        refine gf_X8_18 (v := .ref (ad (t + 3))) hC hP h_t rfl dX8_put_37 ?_
        refine lv_aload_n hx hb dX8_put_40 rfl (lv_at hl 0 rfl) ?_
        refine gf_X8_24 (v := .int (σ6.1 t 0)) hC hP h_t rfl dX8_put_41 ?_
        refine lv_iload_n hx hb dX8_put_44 rfl (lv_at hl 3 rfl) ?_
        obtain ⟨h7, hf⟩ := fxG_e hf
        obtain ⟨σ8, eσ8, hf⟩ := fxL_e hf
        refine fx_iast hC hP hS (lyX_8_3 h_t) (fx_inp h7) dX8_put_45 (fun H locs hP hS => ?_)
        replace hP := fx_Pe eσ8 hP
        refine lv_aload_n hx hb dX8_put_46 rfl (lv_at hl 0 rfl) ?_
        refine gf_X8_21 (v := .ref (ad (t + 4))) hC hP h_t rfl dX8_put_47 ?_
        refine lv_aload_n hx hb dX8_put_50 rfl (lv_at hl 0 rfl) ?_
        refine gf_X8_24 (v := .int (σ8.1 t 0)) hC hP h_t rfl dX8_put_51 ?_
        refine lv_iload hx hb dX8_put_54 (lv_at hl 4 rfl) ?_
        obtain ⟨h9, hf⟩ := fxG_e hf
        obtain ⟨σ10, eσ10, hf⟩ := fxL_e hf
        refine fx_iast hC hP hS (lyX_8_4 h_t) (fx_inp h9) dX8_put_56 (fun H locs hP hS => ?_)
        replace hP := fx_Pe eσ10 hP
        refine lv_aload_n hx hb dX8_put_57 rfl (lv_at hl 0 rfl) ?_
        refine lv_dup hx hb dX8_put_58 rfl ?_
        refine gf_X8_24 (v := .int (σ10.1 t 0)) hC hP h_t rfl dX8_put_59 ?_
        refine lv_iconst hx hb dX8_put_62 ki_1 ?_
        refine lv_iadd hx hb dX8_put_63 ?_
        obtain ⟨σ11, eσ11, hf⟩ := fxL_e hf
        refine pf_X8_24 hC hP hS h_t dX8_put_64 (fun H locs hP hS => ?_)
        replace hP := fx_Pe eσ11 hP
        exact fx_vretf hf hC hr hk hP hS dX8_put_67
  exact main _ _ _ hP hS hl

set_option maxHeartbeats 4000000 in
set_option maxRecDepth 100000 in
theorem ctX8_copyOf (l : Launch) {t : Nat} {a1 : Nat} {σ σ' : FH} (hf : fX8_copyOf t a1 σ = some σ') : fx_Mv l yX8_copyOf cX8_copyOf 3 none (1) LX (fun ad ec => [.ref (ad t), .ref (ad a1)]) σ σ' := by
  unfold fX8_copyOf at hf
  obtain ⟨h_t, hf⟩ := fxG_e hf
  obtain ⟨h_a1, hf⟩ := fxG_e hf
  refine fx_mv' (own := RX8) rfl (by decide +kernel) ?_
  intro p e s m args below meth c D cy ad ec A hC hr hk hP hS
  have hx := hC.1
  have hb := hC.2.1
  have hl := lv_entry ([.ref (ad t), .ref (ad a1)]) (n := 3) (Nat.le_of_ble_eq_true rfl)
  show W _ _ _ _ _ _ _ _ _ _ _ _ _ _ _ (entryFrame m ([.ref (ad t), .ref (ad a1)] : List Value).toArray 3)
  rw [lg_entry_eq]
  generalize (lg_sl ([.ref (ad t), .ref (ad a1)]) ++ List.replicate (3 - (lg_sl ([.ref (ad t), .ref (ad a1)])).length) Slot.unset).toArray = ls at hl ⊢
  have hl : lv_has ls 3 [(0, .ref (ad t)), (1, .ref (ad a1))] := hl
  have main : ∀ (H : Heap) (locs : List Loc) (ls : Array Slot), fx_P D cy LX ad σ H → va_S A s.heap H locs → lv_has ls 3 [(0, .ref (ad t)), (1, .ref (ad a1))] → W p l e (fx_R (1)) s m args below meth c H locs 0 0 (fx_Qv D cy LX ad A below args s σ') (F0 m 0 ls []) := by
    intro H locs ls hP hS hl
    refine lv_aload_n hx hb dX8_copyOf_0 rfl (lv_at hl 0 rfl) ?_
    refine lv_iconst hx hb dX8_copyOf_1 ki_0 ?_
    obtain ⟨σ1, eσ1, hf⟩ := fxL_e hf
    refine pf_X8_24 hC hP hS h_t dX8_copyOf_2 (fun H locs hP hS => ?_)
    replace hP := fx_Pe eσ1 hP
    refine lv_iconst hx hb dX8_copyOf_5 ki_0 ?_
    refine lv_istore_n (lv' := [(2, .int 0), (0, .ref (ad t)), (1, .ref (ad a1))]) hx hb dX8_copyOf_6 rfl hl (by decide) rfl (fun ls hl => ?_)
    obtain ⟨K2, hK2, hf⟩ := fxL_e hf
    have k_K2 : ∀ (σ3 : FH) (H : Heap) (locs : List Loc) (ls : Array Slot), fx_P D cy LX ad σ3 H → va_S A s.heap H locs → lv_has ls 3 [] → K2 σ3 = some σ' → W p l e (fx_R (1)) s m args below meth c H locs 0 0 (fx_Qv D cy LX ad A below args s σ') (F0 m 49 ls []) := by
      intro σ3 H locs ls hP hS hl hf
      replace hf := fxk1 hK2 hf
      exact fx_vretf hf hC hr hk hP hS dX8_copyOf_49
    have L16 : ∀ (n7 : Nat) (w4 : Int32) (σ5 : FH) (H : Heap) (locs : List Loc) (ls : Array Slot), fx_P D cy LX ad σ5 H → va_S A s.heap H locs → lv_has ls 3 [(0, .ref (ad t)), (1, .ref (ad a1)), (2, .int w4)] → fX8_copyOf_7 t a1 K2 n7 w4 σ5 = some σ' → W p l e (fx_R (1)) s m args below meth c H locs 0 0 (fx_Qv D cy LX ad A below args s σ') (F0 m 7 ls []) := by
      intro n7
      induction n7 with
      | zero =>
        intro w4 σ5 H locs ls hP hS hl hf
        rw [fX8_copyOf_7] at hf
        cases hf
      | succ n7 ih6 =>
        intro w4 σ5 H locs ls hP hS hl hf
        rw [fX8_copyOf_7] at hf
        refine lv_iload_n hx hb dX8_copyOf_7 rfl (lv_at hl 2 rfl) ?_
        refine lv_aload_n hx hb dX8_copyOf_8 rfl (lv_at hl 1 rfl) ?_
        refine gf_X8_24 (v := .int (σ5.1 a1 0)) hC hP h_a1 rfl dX8_copyOf_9 ?_
        refine lv_icmp_ge (tgt := 49) hx hb dX8_copyOf_12 (by decide) (fun c8 => ?_) (fun c8 => ?_)
        · replace hf := fx_it c8 hf
          exact k_K2 σ5 _ _ _ hP hS (lv_sub hl [] rfl) hf
        · replace hf := fx_ie c8 hf
          refine lv_aload_n hx hb dX8_copyOf_15 rfl (lv_at hl 0 rfl) ?_
          refine lv_aload_n hx hb dX8_copyOf_16 rfl (lv_at hl 1 rfl) ?_
          refine gf_X8_9 (v := .ref (ad (a1 + 1))) hC hP h_a1 rfl dX8_copyOf_17 ?_
          refine lv_iload_n hx hb dX8_copyOf_20 rfl (lv_at hl 2 rfl) ?_
          obtain ⟨h9, hf⟩ := fxG_e hf
          refine fx_iald hC hP (lyX_8_1 h_a1) (fx_inp h9) dX8_copyOf_21 ?_
          refine lv_aload_n hx hb dX8_copyOf_22 rfl (lv_at hl 1 rfl) ?_
          refine gf_X8_15 (v := .ref (ad (a1 + 2))) hC hP h_a1 rfl dX8_copyOf_23 ?_
          refine lv_iload_n hx hb dX8_copyOf_26 rfl (lv_at hl 2 rfl) ?_
          obtain ⟨h10, hf⟩ := fxG_e hf
          refine fx_iald hC hP (lyX_8_2 h_a1) (fx_inp h10) dX8_copyOf_27 ?_
          refine lv_aload_n hx hb dX8_copyOf_28 rfl (lv_at hl 1 rfl) ?_
          refine gf_X8_18 (v := .ref (ad (a1 + 3))) hC hP h_a1 rfl dX8_copyOf_29 ?_
          refine lv_iload_n hx hb dX8_copyOf_32 rfl (lv_at hl 2 rfl) ?_
          obtain ⟨h11, hf⟩ := fxG_e hf
          refine fx_iald hC hP (lyX_8_3 h_a1) (fx_inp h11) dX8_copyOf_33 ?_
          refine lv_aload_n hx hb dX8_copyOf_34 rfl (lv_at hl 1 rfl) ?_
          refine gf_X8_21 (v := .ref (ad (a1 + 4))) hC hP h_a1 rfl dX8_copyOf_35 ?_
          refine lv_iload_n hx hb dX8_copyOf_38 rfl (lv_at hl 2 rfl) ?_
          obtain ⟨h12, hf⟩ := fxG_e hf
          refine fx_iald hC hP (lyX_8_4 h_a1) (fx_inp h12) dX8_copyOf_39 ?_
          obtain ⟨σ15, hc13, hf⟩ := fxBV_e hf
          refine fx_cv hC hS (fx_runV (i := t) (As := [.int (σ5.1 (a1 + 1) (Int32.toNatClampNeg w4)), .int (σ5.1 (a1 + 2) (Int32.toNatClampNeg w4)), .int (σ5.1 (a1 + 3) (Int32.toNatClampNeg w4)), .int (σ5.1 (a1 + 4) (Int32.toNatClampNeg w4))]) (rest := []) hC hP hS (ctX8_put l hc13 D cy ad ec _) h_t (by decide) rfl kMV_X8_28 kC_X8_put hd_X8_put rfl ⟨(Nat.le_of_ble_eq_true rfl), (Nat.le_of_ble_eq_true rfl)⟩ ⟨Nat.le_refl 0, Nat.le_refl 0⟩ hl.1 (Nat.le_of_ble_eq_true rfl) rfl dX8_copyOf_40) (fun H locs hP hS => ?_)
          refine lv_iinc (v := (w4 + 1)) (lv' := [(2, .int (w4 + 1)), (0, .ref (ad t)), (1, .ref (ad a1))]) hx hb dX8_copyOf_43 hl (k := 2) rfl (congrArg (fun z => w4 + z) ki_1) (by decide) rfl (fun ls hl => ?_)
          refine lv_goto (tgt := 7) hx hb dX8_copyOf_46 (by decide) ?_
          exact ih6 (w4 + 1) σ15 _ _ _ hP hS (lv_sub hl [1, 2, 0] rfl) hf
    exact L16 FU 0 σ1 _ _ _ hP hS (lv_sub hl [1, 2, 0] rfl) hf
  exact main _ _ _ hP hS hl

set_option maxHeartbeats 4000000 in
set_option maxRecDepth 100000 in
theorem ctX5_clear (l : Launch) {t : Nat} {σ σ' : FH} (hf : fX5_clear t σ = some σ') : fx_Mv l yX5_clear cX5_clear 1 none (0) LX (fun ad ec => [.ref (ad t)]) σ σ' := by
  unfold fX5_clear at hf
  obtain ⟨h_t, hf⟩ := fxG_e hf
  refine fx_mv' (own := RX5) rfl (by decide +kernel) ?_
  intro p e s m args below meth c D cy ad ec A hC hr hk hP hS
  have hx := hC.1
  have hb := hC.2.1
  have hl := lv_entry ([.ref (ad t)]) (n := 1) (Nat.le_of_ble_eq_true rfl)
  show W _ _ _ _ _ _ _ _ _ _ _ _ _ _ _ (entryFrame m ([.ref (ad t)] : List Value).toArray 1)
  rw [lg_entry_eq]
  generalize (lg_sl ([.ref (ad t)]) ++ List.replicate (1 - (lg_sl ([.ref (ad t)])).length) Slot.unset).toArray = ls at hl ⊢
  have hl : lv_has ls 1 [(0, .ref (ad t))] := hl
  have main : ∀ (H : Heap) (locs : List Loc) (ls : Array Slot), fx_P D cy LX ad σ H → va_S A s.heap H locs → lv_has ls 1 [(0, .ref (ad t))] → W p l e (fx_R (0)) s m args below meth c H locs 0 0 (fx_Qv D cy LX ad A below args s σ') (F0 m 0 ls []) := by
    intro H locs ls hP hS hl
    refine lv_aload_n hx hb dX5_clear_0 rfl (lv_at hl 0 rfl) ?_
    refine lv_iconst hx hb dX5_clear_1 ki_0 ?_
    obtain ⟨σ1, eσ1, hf⟩ := fxL_e hf
    refine pf_X5_45 hC hP hS h_t dX5_clear_2 (fun H locs hP hS => ?_)
    replace hP := fx_Pe eσ1 hP
    refine lv_aload_n hx hb dX5_clear_5 rfl (lv_at hl 0 rfl) ?_
    refine lv_iconst hx hb dX5_clear_6 ki_0 ?_
    obtain ⟨σ2, eσ2, hf⟩ := fxL_e hf
    refine pf_X5_48 hC hP hS h_t dX5_clear_7 (fun H locs hP hS => ?_)
    replace hP := fx_Pe eσ2 hP
    refine lv_aload_n hx hb dX5_clear_10 rfl (lv_at hl 0 rfl) ?_
    refine lv_iconst hx hb dX5_clear_11 ki_2 ?_
    obtain ⟨σ3, eσ3, hf⟩ := fxL_e hf
    refine pf_X5_34 hC hP hS h_t dX5_clear_12 (fun H locs hP hS => ?_)
    replace hP := fx_Pe eσ3 hP
    refine lv_aload_n hx hb dX5_clear_15 rfl (lv_at hl 0 rfl) ?_
    refine lv_iconst hx hb dX5_clear_16 ki_0 ?_
    obtain ⟨σ4, eσ4, hf⟩ := fxL_e hf
    refine pf_X5_51 hC hP hS h_t rfl rfl dX5_clear_17 (fun H locs hP hS => ?_)
    replace hP := fx_Pe eσ4 hP
    refine lv_aload_n hx hb dX5_clear_20 rfl (lv_at hl 0 rfl) ?_
    refine lv_iconst hx hb dX5_clear_21 ki_0 ?_
    obtain ⟨σ5, eσ5, hf⟩ := fxL_e hf
    refine pf_X5_55 hC hP hS h_t rfl rfl dX5_clear_22 (fun H locs hP hS => ?_)
    replace hP := fx_Pe eσ5 hP
    refine lv_aload_n hx hb dX5_clear_25 rfl (lv_at hl 0 rfl) ?_
    refine gf_X5_41 (v := .ref (ad (t + 8))) hC hP h_t rfl dX5_clear_26 ?_
    refine lv_iconst hx hb dX5_clear_29 ki_0 ?_
    obtain ⟨σ6, eσ6, hf⟩ := fxL_e hf
    refine pf_X5_58 hC hP hS (lyX_5_12 h_t) dX5_clear_30 (fun H locs hP hS => ?_)
    replace hP := fx_Pe eσ6 hP
    exact fx_vretf hf hC hr hk hP hS dX5_clear_33
  exact main _ _ _ hP hS hl

set_option maxHeartbeats 4000000 in
set_option maxRecDepth 100000 in
theorem ctX5_wareNamed (l : Launch) {t : Nat} {a1 : Int64} {σ : FH} {v : Int32} (hf : fX5_wareNamed t a1 σ = some v) : fx_Mi l yX5_wareNamed cX5_wareNamed 4 (some .int) (0) LX (fun ad ec => [.ref (ad t), .long a1]) σ v σ := by
  unfold fX5_wareNamed at hf
  obtain ⟨h_t, hf⟩ := fxG_e hf
  refine fx_mi' (own := RX5) rfl (by decide +kernel) ?_
  intro p e s m args below meth c D cy ad ec A hC hr hk hP hS
  have hx := hC.1
  have hb := hC.2.1
  have hl := lv_entry ([.ref (ad t), .long a1]) (n := 4) (Nat.le_of_ble_eq_true rfl)
  show W _ _ _ _ _ _ _ _ _ _ _ _ _ _ _ (entryFrame m ([.ref (ad t), .long a1] : List Value).toArray 4)
  rw [lg_entry_eq]
  generalize (lg_sl ([.ref (ad t), .long a1]) ++ List.replicate (4 - (lg_sl ([.ref (ad t), .long a1])).length) Slot.unset).toArray = ls at hl ⊢
  have hl : lv_has ls 4 [(0, .ref (ad t)), (1, .long a1)] := hl
  have main : ∀ (H : Heap) (locs : List Loc) (ls : Array Slot), fx_P D cy LX ad σ H → va_S A s.heap H locs → lv_has ls 4 [(0, .ref (ad t)), (1, .long a1)] → W p l e (fx_R (0)) s m args below meth c H locs 0 0 (fx_Qi D cy LX ad A below args s v σ) (F0 m 0 ls []) := by
    intro H locs ls hP hS hl
    refine lv_iconst hx hb dX5_wareNamed_0 ki_0 ?_
    refine lv_istore_n (lv' := [(3, .int 0), (0, .ref (ad t)), (1, .long a1)]) hx hb dX5_wareNamed_1 rfl hl (by decide) rfl (fun ls hl => ?_)
    obtain ⟨K1, hK1, hf⟩ := fxL_e hf
    have k_K1 : ∀  (H : Heap) (locs : List Loc) (ls : Array Slot), fx_P D cy LX ad σ H → va_S A s.heap H locs → lv_has ls 4 [] → K1 = some v → W p l e (fx_R (0)) s m args below meth c H locs 0 0 (fx_Qi D cy LX ad A below args s v σ) (F0 m 29 ls []) := by
      intro  H locs ls hP hS hl hf
      replace hf := hK1.symm.trans hf
      refine lv_iconst hx hb dX5_wareNamed_29 ki_m1 ?_
      exact fx_iretp hf hC hr hk hP hS dX5_wareNamed_30
    have L8 : ∀ (n4 : Nat) (w2 : Int32) (H : Heap) (locs : List Loc) (ls : Array Slot), fx_P D cy LX ad σ H → va_S A s.heap H locs → lv_has ls 4 [(0, .ref (ad t)), (1, .long a1), (3, .int w2)] → fX5_wareNamed_2 t a1 σ K1 n4 w2 = some v → W p l e (fx_R (0)) s m args below meth c H locs 0 0 (fx_Qi D cy LX ad A below args s v σ) (F0 m 2 ls []) := by
      intro n4
      induction n4 with
      | zero =>
        intro w2 H locs ls hP hS hl hf
        rw [fX5_wareNamed_2] at hf
        cases hf
      | succ n4 ih3 =>
        intro w2 H locs ls hP hS hl hf
        rw [fX5_wareNamed_2] at hf
        refine lv_iload_n hx hb dX5_wareNamed_2 rfl (lv_at hl 2 rfl) ?_
        refine lv_aload_n hx hb dX5_wareNamed_3 rfl (lv_at hl 0 rfl) ?_
        refine gf_X5_45 (v := .int (σ.1 t 0)) hC hP h_t rfl dX5_wareNamed_4 ?_
        refine lv_icmp_ge (tgt := 29) hx hb dX5_wareNamed_7 (by decide) (fun c5 => ?_) (fun c5 => ?_)
        · replace hf := fx_it c5 hf
          exact k_K1  _ _ _ hP hS (lv_sub hl [] rfl) hf
        · replace hf := fx_ie c5 hf
          refine lv_aload_n hx hb dX5_wareNamed_10 rfl (lv_at hl 0 rfl) ?_
          refine gf_X5_9 (v := .ref (ad (t + 1))) hC hP h_t rfl dX5_wareNamed_11 ?_
          refine lv_iload_n hx hb dX5_wareNamed_14 rfl (lv_at hl 2 rfl) ?_
          obtain ⟨h6, hf⟩ := fxG_e hf
          refine fx_lald hC hP (lyX_5_1 h_t) (fx_inp h6) dX5_wareNamed_15 ?_
          refine lv_lload_n hx hb dX5_wareNamed_16 rfl (lv_at hl 1 rfl) ?_
          refine W.lcmp hx hb dX5_wareNamed_17 ?_
          refine lv_if_ne (tgt := 23) hx hb dX5_wareNamed_18 (by decide) (fun c7 => ?_) (fun c7 => ?_)
          · replace hf := fx_ie c7 hf
            refine lv_iinc (v := (w2 + 1)) (lv' := [(3, .int (w2 + 1)), (0, .ref (ad t)), (1, .long a1)]) hx hb dX5_wareNamed_23 hl (k := 2) rfl (congrArg (fun z => w2 + z) ki_1) (by decide) rfl (fun ls hl => ?_)
            refine lv_goto (tgt := 2) hx hb dX5_wareNamed_26 (by decide) ?_
            exact ih3 (w2 + 1) _ _ _ hP hS (lv_sub hl [1, 2, 0] rfl) hf
          · replace hf := fx_it c7 hf
            refine lv_iload_n hx hb dX5_wareNamed_21 rfl (lv_at hl 2 rfl) ?_
            exact fx_iretp hf hC hr hk hP hS dX5_wareNamed_22
    exact L8 FU 0 _ _ _ hP hS (lv_sub hl [1, 2, 0] rfl) hf
  exact main _ _ _ hP hS hl

set_option maxHeartbeats 4000000 in
set_option maxRecDepth 100000 in
theorem ctX5_partyNamed (l : Launch) {t : Nat} {a1 : Int64} {σ : FH} {v : Int32} (hf : fX5_partyNamed t a1 σ = some v) : fx_Mi l yX5_partyNamed cX5_partyNamed 4 (some .int) (0) LX (fun ad ec => [.ref (ad t), .long a1]) σ v σ := by
  unfold fX5_partyNamed at hf
  obtain ⟨h_t, hf⟩ := fxG_e hf
  refine fx_mi' (own := RX5) rfl (by decide +kernel) ?_
  intro p e s m args below meth c D cy ad ec A hC hr hk hP hS
  have hx := hC.1
  have hb := hC.2.1
  have hl := lv_entry ([.ref (ad t), .long a1]) (n := 4) (Nat.le_of_ble_eq_true rfl)
  show W _ _ _ _ _ _ _ _ _ _ _ _ _ _ _ (entryFrame m ([.ref (ad t), .long a1] : List Value).toArray 4)
  rw [lg_entry_eq]
  generalize (lg_sl ([.ref (ad t), .long a1]) ++ List.replicate (4 - (lg_sl ([.ref (ad t), .long a1])).length) Slot.unset).toArray = ls at hl ⊢
  have hl : lv_has ls 4 [(0, .ref (ad t)), (1, .long a1)] := hl
  have main : ∀ (H : Heap) (locs : List Loc) (ls : Array Slot), fx_P D cy LX ad σ H → va_S A s.heap H locs → lv_has ls 4 [(0, .ref (ad t)), (1, .long a1)] → W p l e (fx_R (0)) s m args below meth c H locs 0 0 (fx_Qi D cy LX ad A below args s v σ) (F0 m 0 ls []) := by
    intro H locs ls hP hS hl
    refine lv_iconst hx hb dX5_partyNamed_0 ki_0 ?_
    refine lv_istore_n (lv' := [(3, .int 0), (0, .ref (ad t)), (1, .long a1)]) hx hb dX5_partyNamed_1 rfl hl (by decide) rfl (fun ls hl => ?_)
    obtain ⟨K1, hK1, hf⟩ := fxL_e hf
    have k_K1 : ∀  (H : Heap) (locs : List Loc) (ls : Array Slot), fx_P D cy LX ad σ H → va_S A s.heap H locs → lv_has ls 4 [] → K1 = some v → W p l e (fx_R (0)) s m args below meth c H locs 0 0 (fx_Qi D cy LX ad A below args s v σ) (F0 m 29 ls []) := by
      intro  H locs ls hP hS hl hf
      replace hf := hK1.symm.trans hf
      refine lv_iconst hx hb dX5_partyNamed_29 ki_m1 ?_
      exact fx_iretp hf hC hr hk hP hS dX5_partyNamed_30
    have L8 : ∀ (n4 : Nat) (w2 : Int32) (H : Heap) (locs : List Loc) (ls : Array Slot), fx_P D cy LX ad σ H → va_S A s.heap H locs → lv_has ls 4 [(0, .ref (ad t)), (1, .long a1), (3, .int w2)] → fX5_partyNamed_2 t a1 σ K1 n4 w2 = some v → W p l e (fx_R (0)) s m args below meth c H locs 0 0 (fx_Qi D cy LX ad A below args s v σ) (F0 m 2 ls []) := by
      intro n4
      induction n4 with
      | zero =>
        intro w2 H locs ls hP hS hl hf
        rw [fX5_partyNamed_2] at hf
        cases hf
      | succ n4 ih3 =>
        intro w2 H locs ls hP hS hl hf
        rw [fX5_partyNamed_2] at hf
        refine lv_iload_n hx hb dX5_partyNamed_2 rfl (lv_at hl 2 rfl) ?_
        refine lv_aload_n hx hb dX5_partyNamed_3 rfl (lv_at hl 0 rfl) ?_
        refine gf_X5_48 (v := .int (σ.1 t 5)) hC hP h_t rfl dX5_partyNamed_4 ?_
        refine lv_icmp_ge (tgt := 29) hx hb dX5_partyNamed_7 (by decide) (fun c5 => ?_) (fun c5 => ?_)
        · replace hf := fx_it c5 hf
          exact k_K1  _ _ _ hP hS (lv_sub hl [] rfl) hf
        · replace hf := fx_ie c5 hf
          refine lv_aload_n hx hb dX5_partyNamed_10 rfl (lv_at hl 0 rfl) ?_
          refine gf_X5_25 (v := .ref (ad (t + 5))) hC hP h_t rfl dX5_partyNamed_11 ?_
          refine lv_iload_n hx hb dX5_partyNamed_14 rfl (lv_at hl 2 rfl) ?_
          obtain ⟨h6, hf⟩ := fxG_e hf
          refine fx_lald hC hP (lyX_5_6 h_t) (fx_inp h6) dX5_partyNamed_15 ?_
          refine lv_lload_n hx hb dX5_partyNamed_16 rfl (lv_at hl 1 rfl) ?_
          refine W.lcmp hx hb dX5_partyNamed_17 ?_
          refine lv_if_ne (tgt := 23) hx hb dX5_partyNamed_18 (by decide) (fun c7 => ?_) (fun c7 => ?_)
          · replace hf := fx_ie c7 hf
            refine lv_iinc (v := (w2 + 1)) (lv' := [(3, .int (w2 + 1)), (0, .ref (ad t)), (1, .long a1)]) hx hb dX5_partyNamed_23 hl (k := 2) rfl (congrArg (fun z => w2 + z) ki_1) (by decide) rfl (fun ls hl => ?_)
            refine lv_goto (tgt := 2) hx hb dX5_partyNamed_26 (by decide) ?_
            exact ih3 (w2 + 1) _ _ _ hP hS (lv_sub hl [1, 2, 0] rfl) hf
          · replace hf := fx_it c7 hf
            refine lv_iload_n hx hb dX5_partyNamed_21 rfl (lv_at hl 2 rfl) ?_
            exact fx_iretp hf hC hr hk hP hS dX5_partyNamed_22
    exact L8 FU 0 _ _ _ hP hS (lv_sub hl [1, 2, 0] rfl) hf
  exact main _ _ _ hP hS hl

set_option maxHeartbeats 4000000 in
set_option maxRecDepth 100000 in
theorem ctX5_isFor (l : Launch) {t : Nat} {a1 : Int32} {a2 : Int32} {σ : FH} {v : Int32} (hf : fX5_isFor t a1 a2 σ = some v) : fx_Mi l yX5_isFor cX5_isFor 3 (some .boolean) (0) LX (fun ad ec => [.ref (ad t), .int a1, .int a2]) σ v σ := by
  unfold fX5_isFor at hf
  obtain ⟨h_t, hf⟩ := fxG_e hf
  refine fx_mi' (own := RX5) rfl (by decide +kernel) ?_
  intro p e s m args below meth c D cy ad ec A hC hr hk hP hS
  have hx := hC.1
  have hb := hC.2.1
  have hl := lv_entry ([.ref (ad t), .int a1, .int a2]) (n := 3) (Nat.le_of_ble_eq_true rfl)
  show W _ _ _ _ _ _ _ _ _ _ _ _ _ _ _ (entryFrame m ([.ref (ad t), .int a1, .int a2] : List Value).toArray 3)
  rw [lg_entry_eq]
  generalize (lg_sl ([.ref (ad t), .int a1, .int a2]) ++ List.replicate (3 - (lg_sl ([.ref (ad t), .int a1, .int a2])).length) Slot.unset).toArray = ls at hl ⊢
  have hl : lv_has ls 3 [(0, .ref (ad t)), (1, .int a1), (2, .int a2)] := hl
  have main : ∀ (H : Heap) (locs : List Loc) (ls : Array Slot), fx_P D cy LX ad σ H → va_S A s.heap H locs → lv_has ls 3 [(0, .ref (ad t)), (1, .int a1), (2, .int a2)] → W p l e (fx_R (0)) s m args below meth c H locs 0 0 (fx_Qi D cy LX ad A below args s v σ) (F0 m 0 ls []) := by
    intro H locs ls hP hS hl
    refine lv_aload_n hx hb dX5_isFor_0 rfl (lv_at hl 0 rfl) ?_
    refine gf_X5_31 (v := .ref (ad (t + 7))) hC hP h_t rfl dX5_isFor_1 ?_
    refine lv_iload_n hx hb dX5_isFor_4 rfl (lv_at hl 1 rfl) ?_
    obtain ⟨h1, hf⟩ := fxG_e hf
    refine fx_iald hC hP (lyX_5_8 h_t) (fx_inp h1) dX5_isFor_5 ?_
    refine lv_iload_n hx hb dX5_isFor_6 rfl (lv_at hl 2 rfl) ?_
    refine lv_ishr hx hb dX5_isFor_7 ?_
    refine lv_iconst hx hb dX5_isFor_8 ki_1 ?_
    refine lv_iand hx hb dX5_isFor_9 ?_
    refine lv_iconst hx hb dX5_isFor_10 ki_1 ?_
    obtain ⟨v2, ev2, hf⟩ := fxL_e hf
    have j_v2 : ∀ (z3 : Int32), z3 = ((if (((σ.1 (t + 7) (Int32.toNatClampNeg a1)) >>> (a2 &&& 31)) &&& 1) = 1 then 1 else 0) : Int32) → ∀ (ls : Array Slot), lv_has ls 3 [] → W p l e (fx_R (0)) s m args below meth c H locs 0 0 (fx_Qi D cy LX ad A below args s v σ) (F0 m 19 ls [.int z3]) := by
      intro z3 hz3 ls hl
      obtain rfl : v2 = z3 := ev2.trans hz3.symm
      obtain ⟨h5, hf⟩ := fxG_e hf
      exact fx_zretp (fx_bon h5) hf hC hr hk hP hS dX5_isFor_19
    refine lv_icmp_ne (tgt := 18) hx hb dX5_isFor_11 (by decide) (fun c4 => ?_) (fun c4 => ?_)
    · refine lv_iconst hx hb dX5_isFor_18 ki_0 ?_
      exact j_v2 0 (if_neg c4).symm ls (lv_sub hl [] rfl)
    · refine lv_iconst hx hb dX5_isFor_14 ki_1 ?_
      refine lv_goto (tgt := 19) hx hb dX5_isFor_15 (by decide) ?_
      exact j_v2 1 (if_pos c4).symm ls (lv_sub hl [] rfl)
  exact main _ _ _ hP hS hl

set_option maxHeartbeats 4000000 in
set_option maxRecDepth 100000 in
theorem ctX5_hasWare (l : Launch) {t : Nat} {a1 : Int32} {σ : FH} {v : Int32} (hf : fX5_hasWare t a1 σ = some v) : fx_Mi l yX5_hasWare cX5_hasWare 2 (some .boolean) (0) LX (fun ad ec => [.ref (ad t), .int a1]) σ v σ := by
  unfold fX5_hasWare at hf
  obtain ⟨h_t, hf⟩ := fxG_e hf
  refine fx_mi' (own := RX5) rfl (by decide +kernel) ?_
  intro p e s m args below meth c D cy ad ec A hC hr hk hP hS
  have hx := hC.1
  have hb := hC.2.1
  have hl := lv_entry ([.ref (ad t), .int a1]) (n := 2) (Nat.le_of_ble_eq_true rfl)
  show W _ _ _ _ _ _ _ _ _ _ _ _ _ _ _ (entryFrame m ([.ref (ad t), .int a1] : List Value).toArray 2)
  rw [lg_entry_eq]
  generalize (lg_sl ([.ref (ad t), .int a1]) ++ List.replicate (2 - (lg_sl ([.ref (ad t), .int a1])).length) Slot.unset).toArray = ls at hl ⊢
  have hl : lv_has ls 2 [(0, .ref (ad t)), (1, .int a1)] := hl
  have main : ∀ (H : Heap) (locs : List Loc) (ls : Array Slot), fx_P D cy LX ad σ H → va_S A s.heap H locs → lv_has ls 2 [(0, .ref (ad t)), (1, .int a1)] → W p l e (fx_R (0)) s m args below meth c H locs 0 0 (fx_Qi D cy LX ad A below args s v σ) (F0 m 0 ls []) := by
    intro H locs ls hP hS hl
    refine lv_iload_n hx hb dX5_hasWare_0 rfl (lv_at hl 1 rfl) ?_
    obtain ⟨v1, ev1, hf⟩ := fxL_e hf
    have j_v1 : ∀ (z2 : Int32), z2 = ((if a1 < 0 then 0 else (if (σ.1 t 0) ≤ a1 then 0 else 1)) : Int32) → ∀ (ls : Array Slot), lv_has ls 2 [] → W p l e (fx_R (0)) s m args below meth c H locs 0 0 (fx_Qi D cy LX ad A below args s v σ) (F0 m 17 ls [.int z2]) := by
      intro z2 hz2 ls hl
      obtain rfl : v1 = z2 := ev1.trans hz2.symm
      obtain ⟨h5, hf⟩ := fxG_e hf
      exact fx_zretp (fx_bon h5) hf hC hr hk hP hS dX5_hasWare_17
    refine lv_if_lt (tgt := 16) hx hb dX5_hasWare_1 (by decide) (fun c3 => ?_) (fun c3 => ?_)
    · refine lv_iconst hx hb dX5_hasWare_16 ki_0 ?_
      exact j_v1 0 (if_pos c3).symm ls (lv_sub hl [] rfl)
    · refine lv_iload_n hx hb dX5_hasWare_4 rfl (lv_at hl 1 rfl) ?_
      refine lv_aload_n hx hb dX5_hasWare_5 rfl (lv_at hl 0 rfl) ?_
      refine gf_X5_45 (v := .int (σ.1 t 0)) hC hP h_t rfl dX5_hasWare_6 ?_
      refine lv_icmp_ge (tgt := 16) hx hb dX5_hasWare_9 (by decide) (fun c4 => ?_) (fun c4 => ?_)
      · refine lv_iconst hx hb dX5_hasWare_16 ki_0 ?_
        exact j_v1 0 ((if_neg c3).trans (if_pos c4)).symm ls (lv_sub hl [] rfl)
      · refine lv_iconst hx hb dX5_hasWare_12 ki_1 ?_
        refine lv_goto (tgt := 17) hx hb dX5_hasWare_13 (by decide) ?_
        exact j_v1 1 ((if_neg c3).trans (if_neg c4)).symm ls (lv_sub hl [] rfl)
  exact main _ _ _ hP hS hl

set_option maxHeartbeats 4000000 in
set_option maxRecDepth 100000 in
theorem ctX5_hasParty (l : Launch) {t : Nat} {a1 : Int32} {σ : FH} {v : Int32} (hf : fX5_hasParty t a1 σ = some v) : fx_Mi l yX5_hasParty cX5_hasParty 2 (some .boolean) (0) LX (fun ad ec => [.ref (ad t), .int a1]) σ v σ := by
  unfold fX5_hasParty at hf
  obtain ⟨h_t, hf⟩ := fxG_e hf
  refine fx_mi' (own := RX5) rfl (by decide +kernel) ?_
  intro p e s m args below meth c D cy ad ec A hC hr hk hP hS
  have hx := hC.1
  have hb := hC.2.1
  have hl := lv_entry ([.ref (ad t), .int a1]) (n := 2) (Nat.le_of_ble_eq_true rfl)
  show W _ _ _ _ _ _ _ _ _ _ _ _ _ _ _ (entryFrame m ([.ref (ad t), .int a1] : List Value).toArray 2)
  rw [lg_entry_eq]
  generalize (lg_sl ([.ref (ad t), .int a1]) ++ List.replicate (2 - (lg_sl ([.ref (ad t), .int a1])).length) Slot.unset).toArray = ls at hl ⊢
  have hl : lv_has ls 2 [(0, .ref (ad t)), (1, .int a1)] := hl
  have main : ∀ (H : Heap) (locs : List Loc) (ls : Array Slot), fx_P D cy LX ad σ H → va_S A s.heap H locs → lv_has ls 2 [(0, .ref (ad t)), (1, .int a1)] → W p l e (fx_R (0)) s m args below meth c H locs 0 0 (fx_Qi D cy LX ad A below args s v σ) (F0 m 0 ls []) := by
    intro H locs ls hP hS hl
    refine lv_iload_n hx hb dX5_hasParty_0 rfl (lv_at hl 1 rfl) ?_
    obtain ⟨v1, ev1, hf⟩ := fxL_e hf
    have j_v1 : ∀ (z2 : Int32), z2 = ((if a1 < 0 then 0 else (if (σ.1 t 5) ≤ a1 then 0 else 1)) : Int32) → ∀ (ls : Array Slot), lv_has ls 2 [] → W p l e (fx_R (0)) s m args below meth c H locs 0 0 (fx_Qi D cy LX ad A below args s v σ) (F0 m 17 ls [.int z2]) := by
      intro z2 hz2 ls hl
      obtain rfl : v1 = z2 := ev1.trans hz2.symm
      obtain ⟨h5, hf⟩ := fxG_e hf
      exact fx_zretp (fx_bon h5) hf hC hr hk hP hS dX5_hasParty_17
    refine lv_if_lt (tgt := 16) hx hb dX5_hasParty_1 (by decide) (fun c3 => ?_) (fun c3 => ?_)
    · refine lv_iconst hx hb dX5_hasParty_16 ki_0 ?_
      exact j_v1 0 (if_pos c3).symm ls (lv_sub hl [] rfl)
    · refine lv_iload_n hx hb dX5_hasParty_4 rfl (lv_at hl 1 rfl) ?_
      refine lv_aload_n hx hb dX5_hasParty_5 rfl (lv_at hl 0 rfl) ?_
      refine gf_X5_48 (v := .int (σ.1 t 5)) hC hP h_t rfl dX5_hasParty_6 ?_
      refine lv_icmp_ge (tgt := 16) hx hb dX5_hasParty_9 (by decide) (fun c4 => ?_) (fun c4 => ?_)
      · refine lv_iconst hx hb dX5_hasParty_16 ki_0 ?_
        exact j_v1 0 ((if_neg c3).trans (if_pos c4)).symm ls (lv_sub hl [] rfl)
      · refine lv_iconst hx hb dX5_hasParty_12 ki_1 ?_
        refine lv_goto (tgt := 17) hx hb dX5_hasParty_13 (by decide) ?_
        exact j_v1 1 ((if_neg c3).trans (if_neg c4)).symm ls (lv_sub hl [] rfl)
  exact main _ _ _ hP hS hl

set_option maxHeartbeats 4000000 in
set_option maxRecDepth 100000 in
theorem ctX5_halfOf (l : Launch) {t : Nat} {a1 : Int32} {σ : FH} {v : Int32} (hf : fX5_halfOf t a1 σ = some v) : fx_Mi l yX5_halfOf cX5_halfOf 2 (some .int) (0) LX (fun ad ec => [.ref (ad t), .int a1]) σ v σ := by
  unfold fX5_halfOf at hf
  obtain ⟨h_t, hf⟩ := fxG_e hf
  refine fx_mi' (own := RX5) rfl (by decide +kernel) ?_
  intro p e s m args below meth c D cy ad ec A hC hr hk hP hS
  have hx := hC.1
  have hb := hC.2.1
  have hl := lv_entry ([.ref (ad t), .int a1]) (n := 2) (Nat.le_of_ble_eq_true rfl)
  show W _ _ _ _ _ _ _ _ _ _ _ _ _ _ _ (entryFrame m ([.ref (ad t), .int a1] : List Value).toArray 2)
  rw [lg_entry_eq]
  generalize (lg_sl ([.ref (ad t), .int a1]) ++ List.replicate (2 - (lg_sl ([.ref (ad t), .int a1])).length) Slot.unset).toArray = ls at hl ⊢
  have hl : lv_has ls 2 [(0, .ref (ad t)), (1, .int a1)] := hl
  have main : ∀ (H : Heap) (locs : List Loc) (ls : Array Slot), fx_P D cy LX ad σ H → va_S A s.heap H locs → lv_has ls 2 [(0, .ref (ad t)), (1, .int a1)] → W p l e (fx_R (0)) s m args below meth c H locs 0 0 (fx_Qi D cy LX ad A below args s v σ) (F0 m 0 ls []) := by
    intro H locs ls hP hS hl
    refine lv_aload_n hx hb dX5_halfOf_0 rfl (lv_at hl 0 rfl) ?_
    refine gf_X5_19 (v := .ref (ad (t + 3))) hC hP h_t rfl dX5_halfOf_1 ?_
    refine lv_iload_n hx hb dX5_halfOf_4 rfl (lv_at hl 1 rfl) ?_
    obtain ⟨h1, hf⟩ := fxG_e hf
    refine fx_iald hC hP (lyX_5_3 h_t) (fx_inp h1) dX5_halfOf_5 ?_
    refine lv_iconst hx hb dX5_halfOf_6 ki_2 ?_
    refine lv_idiv hx hb dX5_halfOf_7 (by decide) ?_
    exact fx_iretp hf hC hr hk hP hS dX5_halfOf_8
  exact main _ _ _ hP hS hl

set_option maxHeartbeats 4000000 in
set_option maxRecDepth 100000 in
theorem ctX5_couldPair (l : Launch) {t : Nat} {a1 : Int32} {a2 : Int32} {σ : FH} {v : Int32} (hf : fX5_couldPair t a1 a2 σ = some v) : fx_Mi l yX5_couldPair cX5_couldPair 3 (some .boolean) (1) LX (fun ad ec => [.ref (ad t), .int a1, .int a2]) σ v σ := by
  unfold fX5_couldPair at hf
  obtain ⟨h_t, hf⟩ := fxG_e hf
  refine fx_mi' (own := RX5) rfl (by decide +kernel) ?_
  intro p e s m args below meth c D cy ad ec A hC hr hk hP hS
  have hx := hC.1
  have hb := hC.2.1
  have hl := lv_entry ([.ref (ad t), .int a1, .int a2]) (n := 3) (Nat.le_of_ble_eq_true rfl)
  show W _ _ _ _ _ _ _ _ _ _ _ _ _ _ _ (entryFrame m ([.ref (ad t), .int a1, .int a2] : List Value).toArray 3)
  rw [lg_entry_eq]
  generalize (lg_sl ([.ref (ad t), .int a1, .int a2]) ++ List.replicate (3 - (lg_sl ([.ref (ad t), .int a1, .int a2])).length) Slot.unset).toArray = ls at hl ⊢
  have hl : lv_has ls 3 [(0, .ref (ad t)), (1, .int a1), (2, .int a2)] := hl
  have main : ∀ (H : Heap) (locs : List Loc) (ls : Array Slot), fx_P D cy LX ad σ H → va_S A s.heap H locs → lv_has ls 3 [(0, .ref (ad t)), (1, .int a1), (2, .int a2)] → W p l e (fx_R (1)) s m args below meth c H locs 0 0 (fx_Qi D cy LX ad A below args s v σ) (F0 m 0 ls []) := by
    intro H locs ls hP hS hl
    refine lv_aload_n hx hb dX5_couldPair_0 rfl (lv_at hl 0 rfl) ?_
    refine lv_iload_n hx hb dX5_couldPair_1 rfl (lv_at hl 1 rfl) ?_
    obtain ⟨r2, hc1, hf⟩ := fxBP_e hf
    refine fx_ci hC hS (fx_runV (i := t) (As := [.int a1]) (rest := []) hC hP hS (ctX5_hasWare l hc1 D cy ad ec _) h_t (by decide) rfl kMV_X5_61 kC_X5_hasWare hd_X5_hasWare rfl ⟨(Nat.le_of_ble_eq_true rfl), (Nat.le_of_ble_eq_true rfl)⟩ ⟨Nat.le_refl 0, Nat.le_refl 0⟩ hl.1 (Nat.le_of_ble_eq_true rfl) rfl dX5_couldPair_2) (fun H locs hP hS => ?_)
    refine lv_if_eq (tgt := 40) hx hb dX5_couldPair_5 (by decide) (fun c4 => ?_) (fun c4 => ?_)
    · replace hf := fx_it c4 hf
      refine lv_iconst hx hb dX5_couldPair_40 ki_0 ?_
      exact fx_zretp rfl hf hC hr hk hP hS dX5_couldPair_41
    · replace hf := fx_ie c4 hf
      refine lv_aload_n hx hb dX5_couldPair_8 rfl (lv_at hl 0 rfl) ?_
      refine lv_iload_n hx hb dX5_couldPair_9 rfl (lv_at hl 2 rfl) ?_
      obtain ⟨r6, hc5, hf⟩ := fxBP_e hf
      refine fx_ci hC hS (fx_runV (i := t) (As := [.int a2]) (rest := []) hC hP hS (ctX5_hasWare l hc5 D cy ad ec _) h_t (by decide) rfl kMV_X5_61 kC_X5_hasWare hd_X5_hasWare rfl ⟨(Nat.le_of_ble_eq_true rfl), (Nat.le_of_ble_eq_true rfl)⟩ ⟨Nat.le_refl 0, Nat.le_refl 0⟩ hl.1 (Nat.le_of_ble_eq_true rfl) rfl dX5_couldPair_10) (fun H locs hP hS => ?_)
      refine lv_if_eq (tgt := 40) hx hb dX5_couldPair_13 (by decide) (fun c8 => ?_) (fun c8 => ?_)
      · replace hf := fx_it c8 hf
        refine lv_iconst hx hb dX5_couldPair_40 ki_0 ?_
        exact fx_zretp rfl hf hC hr hk hP hS dX5_couldPair_41
      · replace hf := fx_ie c8 hf
        refine lv_iload_n hx hb dX5_couldPair_16 rfl (lv_at hl 1 rfl) ?_
        refine lv_iload_n hx hb dX5_couldPair_17 rfl (lv_at hl 2 rfl) ?_
        refine lv_icmp_eq (tgt := 40) hx hb dX5_couldPair_18 (by decide) (fun c9 => ?_) (fun c9 => ?_)
        · replace hf := fx_it c9 hf
          refine lv_iconst hx hb dX5_couldPair_40 ki_0 ?_
          exact fx_zretp rfl hf hC hr hk hP hS dX5_couldPair_41
        · replace hf := fx_ie c9 hf
          refine lv_aload_n hx hb dX5_couldPair_21 rfl (lv_at hl 0 rfl) ?_
          refine gf_X5_19 (v := .ref (ad (t + 3))) hC hP h_t rfl dX5_couldPair_22 ?_
          refine lv_iload_n hx hb dX5_couldPair_25 rfl (lv_at hl 1 rfl) ?_
          obtain ⟨h10, hf⟩ := fxG_e hf
          refine fx_iald hC hP (lyX_5_3 h_t) (fx_inp h10) dX5_couldPair_26 ?_
          refine lv_aload_n hx hb dX5_couldPair_27 rfl (lv_at hl 0 rfl) ?_
          refine gf_X5_19 (v := .ref (ad (t + 3))) hC hP h_t rfl dX5_couldPair_28 ?_
          refine lv_iload_n hx hb dX5_couldPair_31 rfl (lv_at hl 2 rfl) ?_
          obtain ⟨h11, hf⟩ := fxG_e hf
          refine fx_iald hC hP (lyX_5_3 h_t) (fx_inp h11) dX5_couldPair_32 ?_
          refine lv_icmp_ne (tgt := 40) hx hb dX5_couldPair_33 (by decide) (fun c12 => ?_) (fun c12 => ?_)
          · replace hf := fx_ie c12 hf
            refine lv_iconst hx hb dX5_couldPair_40 ki_0 ?_
            exact fx_zretp rfl hf hC hr hk hP hS dX5_couldPair_41
          · replace hf := fx_it c12 hf
            refine lv_iconst hx hb dX5_couldPair_36 ki_1 ?_
            refine lv_goto (tgt := 41) hx hb dX5_couldPair_37 (by decide) ?_
            exact fx_zretp rfl hf hC hr hk hP hS dX5_couldPair_41
  exact main _ _ _ hP hS hl

set_option maxHeartbeats 4000000 in
set_option maxRecDepth 100000 in
theorem ctX5_agreement (l : Launch) {t : Nat} {a1 : Int32} {a2 : Int32} {σ : FH} {v : Int32} (hf : fX5_agreement t a1 a2 σ = some v) : fx_Mi l yX5_agreement cX5_agreement 3 (some .int) (1) LX (fun ad ec => [.ref (ad t), .int a1, .int a2]) σ v σ := by
  unfold fX5_agreement at hf
  obtain ⟨h_t, hf⟩ := fxG_e hf
  refine fx_mi' (own := RX5) rfl (by decide +kernel) ?_
  intro p e s m args below meth c D cy ad ec A hC hr hk hP hS
  have hx := hC.1
  have hb := hC.2.1
  have hl := lv_entry ([.ref (ad t), .int a1, .int a2]) (n := 3) (Nat.le_of_ble_eq_true rfl)
  show W _ _ _ _ _ _ _ _ _ _ _ _ _ _ _ (entryFrame m ([.ref (ad t), .int a1, .int a2] : List Value).toArray 3)
  rw [lg_entry_eq]
  generalize (lg_sl ([.ref (ad t), .int a1, .int a2]) ++ List.replicate (3 - (lg_sl ([.ref (ad t), .int a1, .int a2])).length) Slot.unset).toArray = ls at hl ⊢
  have hl : lv_has ls 3 [(0, .ref (ad t)), (1, .int a1), (2, .int a2)] := hl
  have main : ∀ (H : Heap) (locs : List Loc) (ls : Array Slot), fx_P D cy LX ad σ H → va_S A s.heap H locs → lv_has ls 3 [(0, .ref (ad t)), (1, .int a1), (2, .int a2)] → W p l e (fx_R (1)) s m args below meth c H locs 0 0 (fx_Qi D cy LX ad A below args s v σ) (F0 m 0 ls []) := by
    intro H locs ls hP hS hl
    refine lv_aload_n hx hb dX5_agreement_0 rfl (lv_at hl 0 rfl) ?_
    refine gf_X5_45 (v := .int (σ.1 t 0)) hC hP h_t rfl dX5_agreement_1 ?_
    refine lv_aload_n hx hb dX5_agreement_4 rfl (lv_at hl 0 rfl) ?_
    refine gf_X5_31 (v := .ref (ad (t + 7))) hC hP h_t rfl dX5_agreement_5 ?_
    refine lv_iload_n hx hb dX5_agreement_8 rfl (lv_at hl 1 rfl) ?_
    obtain ⟨h1, hf⟩ := fxG_e hf
    refine fx_iald hC hP (lyX_5_8 h_t) (fx_inp h1) dX5_agreement_9 ?_
    refine lv_aload_n hx hb dX5_agreement_10 rfl (lv_at hl 0 rfl) ?_
    refine gf_X5_31 (v := .ref (ad (t + 7))) hC hP h_t rfl dX5_agreement_11 ?_
    refine lv_iload_n hx hb dX5_agreement_14 rfl (lv_at hl 2 rfl) ?_
    obtain ⟨h2, hf⟩ := fxG_e hf
    refine fx_iald hC hP (lyX_5_8 h_t) (fx_inp h2) dX5_agreement_15 ?_
    refine lv_ixor hx hb dX5_agreement_16 ?_
    obtain ⟨r4, hc3, hf⟩ := fxBP_e hf
    refine fx_ci hC hS (fx_runS (As := [.int ((σ.1 (t + 7) (Int32.toNatClampNeg a1)) ^^^ (σ.1 (t + 7) (Int32.toNatClampNeg a2)))]) (rest := [.int (σ.1 t 0)]) hC hP hS (ctJ6_bitCount_0f7a4 l hc3 D cy ad ec _) kMS_X5_65 kC_J6_bitCount_0f7a4 hd_J6_bitCount_0f7a4.2 rfl ⟨(Nat.le_of_ble_eq_true rfl), (Nat.le_of_ble_eq_true rfl)⟩ ⟨Nat.le_refl 0, Nat.le_refl 0⟩ hl.1 (Nat.le_of_ble_eq_true rfl) rfl dX5_agreement_17) (fun H locs hP hS => ?_)
    refine lv_isub hx hb dX5_agreement_20 ?_
    exact fx_iretp hf hC hr hk hP hS dX5_agreement_21
  exact main _ _ _ hP hS hl

set_option maxHeartbeats 4000000 in
set_option maxRecDepth 100000 in
theorem ctX5_weekWork (l : Launch) {t : Nat} {a1 : Int32} {a2 : Int32} {a3 : Int32} {a4 : Int32} {a5 : Int32} {σ σ' : FH} {v : Int32} (hf : fX5_weekWork t a1 a2 a3 a4 a5 σ = some (v, σ')) : fx_Mi l yX5_weekWork cX5_weekWork 7 (some .int) (3) LX (fun ad ec => [.ref (ad t), .int a1, .int a2, .int a3, .int a4, .int a5]) σ v σ' := by
  unfold fX5_weekWork at hf
  obtain ⟨h_t, hf⟩ := fxG_e hf
  refine fx_mi' (own := RX5) rfl (by decide +kernel) ?_
  intro p e s m args below meth c D cy ad ec A hC hr hk hP hS
  have hx := hC.1
  have hb := hC.2.1
  have hl := lv_entry ([.ref (ad t), .int a1, .int a2, .int a3, .int a4, .int a5]) (n := 7) (Nat.le_of_ble_eq_true rfl)
  show W _ _ _ _ _ _ _ _ _ _ _ _ _ _ _ (entryFrame m ([.ref (ad t), .int a1, .int a2, .int a3, .int a4, .int a5] : List Value).toArray 7)
  rw [lg_entry_eq]
  generalize (lg_sl ([.ref (ad t), .int a1, .int a2, .int a3, .int a4, .int a5]) ++ List.replicate (7 - (lg_sl ([.ref (ad t), .int a1, .int a2, .int a3, .int a4, .int a5])).length) Slot.unset).toArray = ls at hl ⊢
  have hl : lv_has ls 7 [(0, .ref (ad t)), (1, .int a1), (2, .int a2), (3, .int a3), (4, .int a4), (5, .int a5)] := hl
  have main : ∀ (H : Heap) (locs : List Loc) (ls : Array Slot), fx_P D cy LX ad σ H → va_S A s.heap H locs → lv_has ls 7 [(0, .ref (ad t)), (1, .int a1), (2, .int a2), (3, .int a3), (4, .int a4), (5, .int a5)] → W p l e (fx_R (3)) s m args below meth c H locs 0 0 (fx_Qi D cy LX ad A below args s v σ') (F0 m 0 ls []) := by
    intro H locs ls hP hS hl
    refine lv_iload_n hx hb dX5_weekWork_0 rfl (lv_at hl 1 rfl) ?_
    refine lv_iconst hx hb dX5_weekWork_1 ki_3 ?_
    obtain ⟨J1, hJ1, hf⟩ := fxL_e hf
    have j_J1 : ∀  (H : Heap) (locs : List Loc) (ls : Array Slot), fx_P D cy LX ad σ H → va_S A s.heap H locs → lv_has ls 7 [(0, .ref (ad t)), (1, .int a1), (2, .int a2), (3, .int a3), (4, .int a4), (5, .int a5)] → J1 = some (v, σ') → W p l e (fx_R (3)) s m args below meth c H locs 0 0 (fx_Qi D cy LX ad A below args s v σ') (F0 m 14 ls []) := by
      intro  H locs ls hP hS hl hf
      replace hf := hJ1.symm.trans hf
      refine lv_iconst hx hb dX5_weekWork_14 ki_0 ?_
      refine lv_bipush hx hb dX5_weekWork_15 kb_9 ?_
      refine lv_aload_n hx hb dX5_weekWork_17 rfl (lv_at hl 0 rfl) ?_
      refine gf_X5_41 (v := .ref (ad (t + 8))) hC hP h_t rfl dX5_weekWork_18 ?_
      refine lv_iload_n hx hb dX5_weekWork_21 rfl (lv_at hl 2 rfl) ?_
      refine lv_iload_n hx hb dX5_weekWork_22 rfl (lv_at hl 3 rfl) ?_
      refine lv_iload hx hb dX5_weekWork_23 (lv_at hl 4 rfl) ?_
      refine lv_iload hx hb dX5_weekWork_25 (lv_at hl 5 rfl) ?_
      obtain ⟨r3, σ4, hc2, hf⟩ := fxBI_e hf
      refine fx_ci hC hS (fx_runV (i := (t + 8)) (As := [.int a2, .int a3, .int a4, .int a5]) (rest := [.int 9, .int 0]) hC hP hS (ctX1_value l hc2 D cy ad ec _) (lyX_5_12 h_t) (by decide) rfl kMV_X5_71 kC_X1_value hd_X1_value rfl ⟨(Nat.le_of_ble_eq_true rfl), (Nat.le_of_ble_eq_true rfl)⟩ ⟨Nat.le_refl 0, Nat.le_refl 0⟩ hl.1 (Nat.le_of_ble_eq_true rfl) rfl dX5_weekWork_27) (fun H locs hP hS => ?_)
      refine fx_min hC hl.1 kL_X5_75 kMt_min kMi kMc_min (Nat.le_of_ble_eq_true rfl) (Nat.le_of_ble_eq_true rfl) ⟨Nat.le_refl 0, Nat.le_refl 0⟩ dX5_weekWork_30 ?_
      refine fx_max hC hl.1 kL_X5_81 kMt_max kMi kMc_max (Nat.le_of_ble_eq_true rfl) (Nat.le_of_ble_eq_true rfl) ⟨Nat.le_refl 0, Nat.le_refl 0⟩ dX5_weekWork_33 ?_
      obtain ⟨v5, ev5, hf⟩ := fxL_e hf
      refine fx_ti ev5 ?_
      refine lv_istore (lv' := [(6, .int v5), (0, .ref (ad t)), (1, .int a1), (2, .int a2), (3, .int a3), (4, .int a4), (5, .int a5)]) hx hb dX5_weekWork_36 hl (by decide) rfl (fun ls hl => ?_)
      refine lv_iload_n hx hb dX5_weekWork_38 rfl (lv_at hl 2 rfl) ?_
      refine lv_iconst hx hb dX5_weekWork_39 ki_1 ?_
      refine lv_icmp_ne (tgt := 48) hx hb dX5_weekWork_40 (by decide) (fun c6 => ?_) (fun c6 => ?_)
      · replace hf := fx_ie c6 hf
        refine lv_iload_n hx hb dX5_weekWork_48 rfl (lv_at hl 2 rfl) ?_
        refine lv_iconst hx hb dX5_weekWork_49 ki_2 ?_
        refine lv_icmp_ne (tgt := 68) hx hb dX5_weekWork_50 (by decide) (fun c7 => ?_) (fun c7 => ?_)
        · replace hf := fx_ie c7 hf
          refine lv_iload hx hb dX5_weekWork_68 (lv_at hl 0 rfl) ?_
          exact fx_iretf hf hC hr hk hP hS dX5_weekWork_70
        · replace hf := fx_it c7 hf
          refine lv_iload hx hb dX5_weekWork_53 (lv_at hl 0 rfl) ?_
          refine lv_iload_n hx hb dX5_weekWork_55 rfl (lv_at hl 4 rfl) ?_
          refine lv_iload_n hx hb dX5_weekWork_56 rfl (lv_at hl 3 rfl) ?_
          refine lv_isub hx hb dX5_weekWork_57 ?_
          refine lv_iconst hx hb dX5_weekWork_58 ki_1 ?_
          refine lv_iadd hx hb dX5_weekWork_59 ?_
          refine lv_iconst hx hb dX5_weekWork_60 ki_2 ?_
          refine lv_idiv hx hb dX5_weekWork_61 (by decide) ?_
          refine fx_min hC hl.1 kL_X5_75 kMt_min kMi kMc_min (Nat.le_of_ble_eq_true rfl) (Nat.le_of_ble_eq_true rfl) ⟨Nat.le_refl 0, Nat.le_refl 0⟩ dX5_weekWork_62 ?_
          refine lv_goto (tgt := 70) hx hb dX5_weekWork_65 (by decide) ?_
          exact fx_iretf hf hC hr hk hP hS dX5_weekWork_70
      · replace hf := fx_it c6 hf
        refine lv_iconst hx hb dX5_weekWork_43 ki_2 ?_
        refine lv_iload hx hb dX5_weekWork_44 (lv_at hl 0 rfl) ?_
        refine lv_imul hx hb dX5_weekWork_46 ?_
        exact fx_iretf hf hC hr hk hP hS dX5_weekWork_47
    refine lv_icmp_ne (tgt := 14) hx hb dX5_weekWork_2 (by decide) (fun c8 => ?_) (fun c8 => ?_)
    · replace hf := fx_ie c8 hf
      exact j_J1  _ _ _ hP hS (lv_sub hl [0, 1, 2, 3, 4, 5] rfl) hf
    · replace hf := fx_it c8 hf
      refine lv_iload hx hb dX5_weekWork_5 (lv_at hl 5 rfl) ?_
      refine lv_iconst hx hb dX5_weekWork_7 ki_2 ?_
      refine lv_irem hx hb dX5_weekWork_8 (by decide) ?_
      refine lv_if_eq (tgt := 14) hx hb dX5_weekWork_9 (by decide) (fun c9 => ?_) (fun c9 => ?_)
      · replace hf := fx_it c9 hf
        exact j_J1  _ _ _ hP hS (lv_sub hl [0, 1, 2, 3, 4, 5] rfl) hf
      · replace hf := fx_ie c9 hf
        refine lv_iconst hx hb dX5_weekWork_12 ki_0 ?_
        exact fx_iretf hf hC hr hk hP hS dX5_weekWork_13
  exact main _ _ _ hP hS hl
