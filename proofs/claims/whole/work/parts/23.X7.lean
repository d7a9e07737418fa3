set_option maxHeartbeats 4000000 in
set_option maxRecDepth 100000 in
theorem ctX7_copyOf (l : Launch) {t : Nat} {a1 : Nat} {σ σ' : FH} (hf : fX7_copyOf t a1 σ = some σ') : fx_Mv l yX7_copyOf cX7_copyOf 3 none (0) LX (fun ad ec => [.ref (ad t), .ref (ad a1)]) σ σ' := by
  unfold fX7_copyOf at hf
  obtain ⟨h_t, hf⟩ := fxG_e hf
  obtain ⟨h_a1, hf⟩ := fxG_e hf
  refine fx_mv' (own := RX7) rfl (by decide +kernel) ?_
  intro p e s m args below meth c D cy ad ec A hC hr hk hP hS
  have hx := hC.1
  have hb := hC.2.1
  have hl := lv_entry ([.ref (ad t), .ref (ad a1)]) (n := 3) (Nat.le_of_ble_eq_true rfl)
  show W _ _ _ _ _ _ _ _ _ _ _ _ _ _ _ (entryFrame m ([.ref (ad t), .ref (ad a1)] : List Value).toArray 3)
  rw [lg_entry_eq]
  generalize (lg_sl ([.ref (ad t), .ref (ad a1)]) ++ List.replicate (3 - (lg_sl ([.ref (ad t), .ref (ad a1)])).length) Slot.unset).toArray = ls at hl ⊢
  have hl : lv_has ls 3 [(0, .ref (ad t)), (1, .ref (ad a1))] := hl
  have main : ∀ (H : Heap) (locs : List Loc) (ls : Array Slot), fx_P D cy LX ad σ H → va_S A s.heap H locs → lv_has ls 3 [(0, .ref (ad t)), (1, .ref (ad a1))] → W p l e (fx_R (0)) s m args below meth c H locs 0 0 (fx_Qv D cy LX ad A below args s σ') (F0 m 0 ls []) := by
    intro H locs ls hP hS hl
    refine lv_iconst hx hb dX7_copyOf_0 ki_0 ?_
    refine lv_istore_n (lv' := [(2, .int 0), (0, .ref (ad t)), (1, .ref (ad a1))]) hx hb dX7_copyOf_1 rfl hl (by decide) rfl (fun ls hl => ?_)
    obtain ⟨K1, hK1, hf⟩ := fxL_e hf
    have k_K1 : ∀ (σ2 : FH) (H : Heap) (locs : List Loc) (ls : Array Slot), fx_P D cy LX ad σ2 H → va_S A s.heap H locs → lv_has ls 3 [(0, .ref (ad t)), (1, .ref (ad a1))] → K1 σ2 = some σ' → W p l e (fx_R (0)) s m args below meth c H locs 0 0 (fx_Qv D cy LX ad A below args s σ') (F0 m 26 ls []) := by
      intro σ2 H locs ls hP hS hl hf
      replace hf := fxk1 hK1 hf
      refine lv_iconst hx hb dX7_copyOf_26 ki_0 ?_
      refine lv_istore_n (lv' := [(2, .int 0), (0, .ref (ad t)), (1, .ref (ad a1))]) hx hb dX7_copyOf_27 rfl hl (by decide) rfl (fun ls hl => ?_)
      obtain ⟨K3, hK3, hf⟩ := fxL_e hf
      have k_K3 : ∀ (σ4 : FH) (H : Heap) (locs : List Loc) (ls : Array Slot), fx_P D cy LX ad σ4 H → va_S A s.heap H locs → lv_has ls 3 [(0, .ref (ad t)), (1, .ref (ad a1))] → K3 σ4 = some σ' → W p l e (fx_R (0)) s m args below meth c H locs 0 0 (fx_Qv D cy LX ad A below args s σ') (F0 m 51 ls []) := by
        intro σ4 H locs ls hP hS hl hf
        replace hf := fxk1 hK3 hf
        refine lv_aload_n hx hb dX7_copyOf_51 rfl (lv_at hl 0 rfl) ?_
        refine lv_aload_n hx hb dX7_copyOf_52 rfl (lv_at hl 1 rfl) ?_
        refine gf_X7_33 (v := .int (σ4.1 a1 2)) hC hP h_a1 rfl dX7_copyOf_53 ?_
        obtain ⟨σ5, eσ5, hf⟩ := fxL_e hf
        refine pf_X7_33 hC hP hS h_t dX7_copyOf_56 (fun H locs hP hS => ?_)
        replace hP := fx_Pe eσ5 hP
        refine lv_aload_n hx hb dX7_copyOf_59 rfl (lv_at hl 0 rfl) ?_
        refine lv_aload_n hx hb dX7_copyOf_60 rfl (lv_at hl 1 rfl) ?_
        refine gf_X7_37 (v := .int (σ5.1 a1 3)) hC hP h_a1 rfl dX7_copyOf_61 ?_
        obtain ⟨σ6, eσ6, hf⟩ := fxL_e hf
        refine pf_X7_37 hC hP hS h_t dX7_copyOf_64 (fun H locs hP hS => ?_)
        replace hP := fx_Pe eσ6 hP
        refine lv_aload_n hx hb dX7_copyOf_67 rfl (lv_at hl 0 rfl) ?_
        refine lv_aload_n hx hb dX7_copyOf_68 rfl (lv_at hl 1 rfl) ?_
        refine gf_X7_40 (v := .int (σ6.1 a1 4)) hC hP h_a1 rfl dX7_copyOf_69 ?_
        obtain ⟨σ7, eσ7, hf⟩ := fxL_e hf
        refine pf_X7_40 hC hP hS h_t dX7_copyOf_72 (fun H locs hP hS => ?_)
        replace hP := fx_Pe eσ7 hP
        exact fx_vretf hf hC hr hk hP hS dX7_copyOf_75
      have L16 : ∀ (n11 : Nat) (w8 : Int32) (σ9 : FH) (H : Heap) (locs : List Loc) (ls : Array Slot), fx_P D cy LX ad σ9 H → va_S A s.heap H locs → lv_has ls 3 [(0, .ref (ad t)), (1, .ref (ad a1)), (2, .int w8)] → fX7_copyOf_28 t a1 K3 n11 w8 σ9 = some σ' → W p l e (fx_R (0)) s m args below meth c H locs 0 0 (fx_Qv D cy LX ad A below args s σ') (F0 m 28 ls []) := by
        intro n11
        induction n11 with
        | zero =>
          intro w8 σ9 H locs ls hP hS hl hf
          rw [fX7_copyOf_28] at hf
          cases hf
        | succ n11 ih10 =>
          intro w8 σ9 H locs ls hP hS hl hf
          rw [fX7_copyOf_28] at hf
          refine lv_iload_n hx hb dX7_copyOf_28 rfl (lv_at hl 2 rfl) ?_
          refine lv_iconst hx hb dX7_copyOf_29 ki_5 ?_
          refine lv_icmp_ge (tgt := 51) hx hb dX7_copyOf_30 (by decide) (fun c12 => ?_) (fun c12 => ?_)
          · replace hf := fx_it c12 hf
            exact k_K3 σ9 _ _ _ hP hS (lv_sub hl [0, 1] rfl) hf
          · replace hf := fx_ie c12 hf
            refine lv_aload_n hx hb dX7_copyOf_33 rfl (lv_at hl 0 rfl) ?_
            refine gf_X7_15 (v := .ref (ad (t + 2))) hC hP h_t rfl dX7_copyOf_34 ?_
            refine lv_iload_n hx hb dX7_copyOf_37 rfl (lv_at hl 2 rfl) ?_
            refine lv_aload_n hx hb dX7_copyOf_38 rfl (lv_at hl 1 rfl) ?_
            refine gf_X7_15 (v := .ref (ad (a1 + 2))) hC hP h_a1 rfl dX7_copyOf_39 ?_
            refine lv_iload_n hx hb dX7_copyOf_42 rfl (lv_at hl 2 rfl) ?_
            obtain ⟨h13, hf⟩ := fxG_e hf
            refine fx_iald hC hP (lyX_7_1 h_a1) (fx_inp h13) dX7_copyOf_43 ?_
            obtain ⟨h14, hf⟩ := fxG_e hf
            obtain ⟨σ15, eσ15, hf⟩ := fxL_e hf
            refine fx_iast hC hP hS (lyX_7_1 h_t) (fx_inp h14) dX7_copyOf_44 (fun H locs hP hS => ?_)
            replace hP := fx_Pe eσ15 hP
            refine lv_iinc (v := (w8 + 1)) (lv' := [(2, .int (w8 + 1)), (0, .ref (ad t)), (1, .ref (ad a1))]) hx hb dX7_copyOf_45 hl (k := 2) rfl (congrArg (fun z => w8 + z) ki_1) (by decide) rfl (fun ls hl => ?_)
            refine lv_goto (tgt := 28) hx hb dX7_copyOf_48 (by decide) ?_
            exact ih10 (w8 + 1) σ15 _ _ _ hP hS (lv_sub hl [1, 2, 0] rfl) hf
      exact L16 FU 0 σ2 _ _ _ hP hS (lv_sub hl [1, 2, 0] rfl) hf
    have L25 : ∀ (n20 : Nat) (w17 : Int32) (σ18 : FH) (H : Heap) (locs : List Loc) (ls : Array Slot), fx_P D cy LX ad σ18 H → va_S A s.heap H locs → lv_has ls 3 [(0, .ref (ad t)), (1, .ref (ad a1)), (2, .int w17)] → fX7_copyOf_2 t a1 K1 n20 w17 σ18 = some σ' → W p l e (fx_R (0)) s m args below meth c H locs 0 0 (fx_Qv D cy LX ad A below args s σ') (F0 m 2 ls []) := by
      intro n20
      induction n20 with
      | zero =>
        intro w17 σ18 H locs ls hP hS hl hf
        rw [fX7_copyOf_2] at hf
        cases hf
      | succ n20 ih19 =>
        intro w17 σ18 H locs ls hP hS hl hf
        rw [fX7_copyOf_2] at hf
        refine lv_iload_n hx hb dX7_copyOf_2 rfl (lv_at hl 2 rfl) ?_
        refine lv_bipush hx hb dX7_copyOf_3 kb_6 ?_
        refine lv_icmp_ge (tgt := 26) hx hb dX7_copyOf_5 (by decide) (fun c21 => ?_) (fun c21 => ?_)
        · replace hf := fx_it c21 hf
          exact k_K1 σ18 _ _ _ hP hS (lv_sub hl [0, 1] rfl) hf
        · replace hf := fx_ie c21 hf
          refine lv_aload_n hx hb dX7_copyOf_8 rfl (lv_at hl 0 rfl) ?_
          refine gf_X7_9 (v := .ref (ad (t + 1))) hC hP h_t rfl dX7_copyOf_9 ?_
          refine lv_iload_n hx hb dX7_copyOf_12 rfl (lv_at hl 2 rfl) ?_
          refine lv_aload_n hx hb dX7_copyOf_13 rfl (lv_at hl 1 rfl) ?_
          refine gf_X7_9 (v := .ref (ad (a1 + 1))) hC hP h_a1 rfl dX7_copyOf_14 ?_
          refine lv_iload_n hx hb dX7_copyOf_17 rfl (lv_at hl 2 rfl) ?_
          obtain ⟨h22, hf⟩ := fxG_e hf
          refine fx_iald hC hP (lyX_7_0 h_a1) (fx_inp h22) dX7_copyOf_18 ?_
          obtain ⟨h23, hf⟩ := fxG_e hf
          obtain ⟨σ24, eσ24, hf⟩ := fxL_e hf
          refine fx_iast hC hP hS (lyX_7_0 h_t) (fx_inp h23) dX7_copyOf_19 (fun H locs hP hS => ?_)
          replace hP := fx_Pe eσ24 hP
          refine lv_iinc (v := (w17 + 1)) (lv' := [(2, .int (w17 + 1)), (0, .ref (ad t)), (1, .ref (ad a1))]) hx hb dX7_copyOf_20 hl (k := 2) rfl (congrArg (fun z => w17 + z) ki_1) (by decide) rfl (fun ls hl => ?_)
          refine lv_goto (tgt := 2) hx hb dX7_copyOf_23 (by decide) ?_
          exact ih19 (w17 + 1) σ24 _ _ _ hP hS (lv_sub hl [1, 2, 0] rfl) hf
    exact L25 FU 0 σ _ _ _ hP hS (lv_sub hl [1, 2, 0] rfl) hf
  exact main _ _ _ hP hS hl

set_option maxHeartbeats 4000000 in
set_option maxRecDepth 100000 in
theorem ctX6_put (l : Launch) {t : Nat} {a1 : Int32} {a2 : Int32} {σ σ' : FH} {v : Int32} (hf : fX6_put t a1 a2 σ = some (v, σ')) : fx_Mi l yX6_put cX6_put 3 (some .boolean) (0) LX (fun ad ec => [.ref (ad t), .int a1, .int a2]) σ v σ' := by
  unfold fX6_put at hf
  obtain ⟨h_t, hf⟩ := fxG_e hf
  refine fx_mi' (own := RX6) rfl (by decide +kernel) ?_
  intro p e s m args below meth c D cy ad ec A hC hr hk hP hS
  have hx := hC.1
  have hb := hC.2.1
  have hl := lv_entry ([.ref (ad t), .int a1, .int a2]) (n := 3) (Nat.le_of_ble_eq_true rfl)
  show W _ _ _ _ _ _ _ _ _ _ _ _ _ _ _ (entryFrame m ([.ref (ad t), .int a1, .int a2] : List Value).toArray 3)
  rw [lg_entry_eq]
  generalize (lg_sl ([.ref (ad t), .int a1, .int a2]) ++ List.replicate (3 - (lg_sl ([.ref (ad t), .int a1, .int a2])).length) Slot.unset).toArray = ls at hl ⊢
  have hl : lv_has ls 3 [(0, .ref (ad t)), (1, .int a1), (2, .int a2)] := hl
  have main : ∀ (H : Heap) (locs : List Loc) (ls : Array Slot), fx_P D cy LX ad σ H → va_S A s.heap H locs → lv_has ls 3 [(0, .ref (ad t)), (1, .int a1), (2, .int a2)] → W p l e (fx_R (0)) s m args below meth c H locs 0 0 (fx_Qi D cy LX ad A below args s v σ') (F0 m 0 ls []) := by
    intro H locs ls hP hS hl
    refine lv_aload_n hx hb dX6_put_0 rfl (lv_at hl 0 rfl) ?_
    refine gf_X6_22 (v := .int (σ.1 t 0)) hC hP h_t rfl dX6_put_1 ?_
    refine lv_if_lt (tgt := 16) hx hb dX6_put_4 (by decide) (fun c1 => ?_) (fun c1 => ?_)
    · replace hf := fx_it c1 hf
      refine lv_iconst hx hb dX6_put_16 ki_0 ?_
      exact fx_zretf rfl hf hC hr hk hP hS dX6_put_17
    · replace hf := fx_ie c1 hf
      refine lv_aload_n hx hb dX6_put_7 rfl (lv_at hl 0 rfl) ?_
      refine gf_X6_22 (v := .int (σ.1 t 0)) hC hP h_t rfl dX6_put_8 ?_
      refine lv_bipush hx hb dX6_put_11 kb_8 ?_
      refine lv_icmp_lt (tgt := 18) hx hb dX6_put_13 (by decide) (fun c2 => ?_) (fun c2 => ?_)
      · replace hf := fx_it c2 hf
        refine lv_aload_n hx hb dX6_put_18 rfl (lv_at hl 0 rfl) ?_
        refine gf_X6_9 (v := .ref (ad (t + 1))) hC hP h_t rfl dX6_put_19 ?_
        refine lv_aload_n hx hb dX6_put_22 rfl (lv_at hl 0 rfl) ?_
        refine gf_X6_22 (v := .int (σ.1 t 0)) hC hP h_t rfl dX6_put_23 ?_
        refine lv_iload_n hx hb dX6_put_26 rfl (lv_at hl 1 rfl) ?_
        obtain ⟨h3, hf⟩ := fxG_e hf
        obtain ⟨σ4, eσ4, hf⟩ := fxL_e hf
        refine fx_iast hC hP hS (lyX_6_1 h_t) (fx_inp h3) dX6_put_27 (fun H locs hP hS => ?_)
        replace hP := fx_Pe eσ4 hP
        refine lv_aload_n hx hb dX6_put_28 rfl (lv_at hl 0 rfl) ?_
        refine gf_X6_15 (v := .ref (ad (t + 2))) hC hP h_t rfl dX6_put_29 ?_
        refine lv_aload_n hx hb dX6_put_32 rfl (lv_at hl 0 rfl) ?_
        refine gf_X6_22 (v := .int (σ4.1 t 0)) hC hP h_t rfl dX6_put_33 ?_
        refine lv_iload_n hx hb dX6_put_36 rfl (lv_at hl 2 rfl) ?_
        obtain ⟨h5, hf⟩ := fxG_e hf
        obtain ⟨σ6, eσ6, hf⟩ := fxL_e hf
        refine fx_zast hC hP hS (lyX_6_2 h_t) (fx_inp h5) dX6_put_37 (fun H locs hP hS => ?_)
        replace hP := fx_Pe eσ6 hP
        refine lv_aload_n hx hb dX6_put_38 rfl (lv_at hl 0 rfl) ?_
        refine lv_dup hx hb dX6_put_39 rfl ?_
        refine gf_X6_22 (v := .int (σ6.1 t 0)) hC hP h_t rfl dX6_put_40 ?_
        refine lv_iconst hx hb dX6_put_43 ki_1 ?_
        refine lv_iadd hx hb dX6_put_44 ?_
        obtain ⟨σ7, eσ7, hf⟩ := fxL_e hf
        refine pf_X6_22 hC hP hS h_t dX6_put_45 (fun H locs hP hS => ?_)
        replace hP := fx_Pe eσ7 hP
        refine lv_iconst hx hb dX6_put_48 ki_1 ?_
        exact fx_zretf rfl hf hC hr hk hP hS dX6_put_49
      · replace hf := fx_ie c2 hf
        refine lv_iconst hx hb dX6_put_16 ki_0 ?_
        exact fx_zretf rfl hf hC hr hk hP hS dX6_put_17
  exact main _ _ _ hP hS hl

set_option maxHeartbeats 4000000 in
set_option maxRecDepth 100000 in
theorem ctX6_copyOf (l : Launch) {t : Nat} {a1 : Nat} {σ σ' : FH} (hf : fX6_copyOf t a1 σ = some σ') : fx_Mv l yX6_copyOf cX6_copyOf 3 none (1) LX (fun ad ec => [.ref (ad t), .ref (ad a1)]) σ σ' := by
  unfold fX6_copyOf at hf
  obtain ⟨h_t, hf⟩ := fxG_e hf
  obtain ⟨h_a1, hf⟩ := fxG_e hf
  refine fx_mv' (own := RX6) rfl (by decide +kernel) ?_
  intro p e s m args below meth c D cy ad ec A hC hr hk hP hS
  have hx := hC.1
  have hb := hC.2.1
  have hl := lv_entry ([.ref (ad t), .ref (ad a1)]) (n := 3) (Nat.le_of_ble_eq_true rfl)
  show W _ _ _ _ _ _ _ _ _ _ _ _ _ _ _ (entryFrame m ([.ref (ad t), .ref (ad a1)] : List Value).toArray 3)
  rw [lg_entry_eq]
  generalize (lg_sl ([.ref (ad t), .ref (ad a1)]) ++ List.replicate (3 - (lg_sl ([.ref (ad t), .ref (ad a1)])).length) Slot.unset).toArray = ls at hl ⊢
  have hl : lv_has ls 3 [(0, .ref (ad t)), (1, .ref (ad a1))] := hl
  have main : ∀ (H : Heap) (locs : List Loc) (ls : Array Slot), fx_P D cy LX ad σ H → va_S A s.heap H locs → lv_has ls 3 [(0, .ref (ad t)), (1, .ref (ad a1))] → W p l e (fx_R (1)) s m args below meth c H locs 0 0 (fx_Qv D cy LX ad A below args s σ') (F0 m 0 ls []) := by
    intro H locs ls hP hS hl
    refine lv_aload_n hx hb dX6_copyOf_0 rfl (lv_at hl 0 rfl) ?_
    refine lv_iconst hx hb dX6_copyOf_1 ki_0 ?_
    obtain ⟨σ1, eσ1, hf⟩ := fxL_e hf
    refine pf_X6_22 hC hP hS h_t dX6_copyOf_2 (fun H locs hP hS => ?_)
    replace hP := fx_Pe eσ1 hP
    refine lv_iconst hx hb dX6_copyOf_5 ki_0 ?_
    refine lv_istore_n (lv' := [(2, .int 0), (0, .ref (ad t)), (1, .ref (ad a1))]) hx hb dX6_copyOf_6 rfl hl (by decide) rfl (fun ls hl => ?_)
    obtain ⟨K2, hK2, hf⟩ := fxL_e hf
    have k_K2 : ∀ (σ3 : FH) (H : Heap) (locs : List Loc) (ls : Array Slot), fx_P D cy LX ad σ3 H → va_S A s.heap H locs → lv_has ls 3 [] → K2 σ3 = some σ' → W p l e (fx_R (1)) s m args below meth c H locs 0 0 (fx_Qv D cy LX ad A below args s σ') (F0 m 38 ls []) := by
      intro σ3 H locs ls hP hS hl hf
      replace hf := fxk1 hK2 hf
      exact fx_vretf hf hC hr hk hP hS dX6_copyOf_38
    have L14 : ∀ (n7 : Nat) (w4 : Int32) (σ5 : FH) (H : Heap) (locs : List Loc) (ls : Array Slot), fx_P D cy LX ad σ5 H → va_S A s.heap H locs → lv_has ls 3 [(0, .ref (ad t)), (1, .ref (ad a1)), (2, .int w4)] → fX6_copyOf_7 t a1 K2 n7 w4 σ5 = some σ' → W p l e (fx_R (1)) s m args below meth c H locs 0 0 (fx_Qv D cy LX ad A below args s σ') (F0 m 7 ls []) := by
      intro n7
      induction n7 with
      | zero =>
        intro w4 σ5 H locs ls hP hS hl hf
        rw [fX6_copyOf_7] at hf
        cases hf
      | succ n7 ih6 =>
        intro w4 σ5 H locs ls hP hS hl hf
        rw [fX6_copyOf_7] at hf
        refine lv_iload_n hx hb dX6_copyOf_7 rfl (lv_at hl 2 rfl) ?_
        refine lv_aload_n hx hb dX6_copyOf_8 rfl (lv_at hl 1 rfl) ?_
        refine gf_X6_22 (v := .int (σ5.1 a1 0)) hC hP h_a1 rfl dX6_copyOf_9 ?_
        refine lv_icmp_ge (tgt := 38) hx hb dX6_copyOf_12 (by decide) (fun c8 => ?_) (fun c8 => ?_)
        · replace hf := fx_it c8 hf
          exact k_K2 σ5 _ _ _ hP hS (lv_sub hl [] rfl) hf
        · replace hf := fx_ie c8 hf
          refine lv_aload_n hx hb dX6_copyOf_15 rfl (lv_at hl 0 rfl) ?_
          refine lv_aload_n hx hb dX6_copyOf_16 rfl (lv_at hl 1 rfl) ?_
          refine gf_X6_9 (v := .ref (ad (a1 + 1))) hC hP h_a1 rfl dX6_copyOf_17 ?_
          refine lv_iload_n hx hb dX6_copyOf_20 rfl (lv_at hl 2 rfl) ?_
          obtain ⟨h9, hf⟩ := fxG_e hf
          refine fx_iald hC hP (lyX_6_1 h_a1) (fx_inp h9) dX6_copyOf_21 ?_
          refine lv_aload_n hx hb dX6_copyOf_22 rfl (lv_at hl 1 rfl) ?_
          refine gf_X6_15 (v := .ref (ad (a1 + 2))) hC hP h_a1 rfl dX6_copyOf_23 ?_
          refine lv_iload_n hx hb dX6_copyOf_26 rfl (lv_at hl 2 rfl) ?_
          obtain ⟨h10, hf⟩ := fxG_e hf
          refine fx_zald hC hP (lyX_6_2 h_a1) (fx_inp h10) dX6_copyOf_27 ?_
          obtain ⟨r12, σ13, hc11, hf⟩ := fxBI_e hf
          refine fx_ci hC hS (fx_runV (i := t) (As := [.int (σ5.1 (a1 + 1) (Int32.toNatClampNeg w4)), .int (σ5.1 (a1 + 2) (Int32.toNatClampNeg w4))]) (rest := []) hC hP hS (ctX6_put l hc11 D cy ad ec _) h_t (by decide) rfl kMV_X6_26 kC_X6_put hd_X6_put rfl ⟨(Nat.le_of_ble_eq_true rfl), (Nat.le_of_ble_eq_true rfl)⟩ ⟨Nat.le_refl 0, Nat.le_refl 0⟩ hl.1 (Nat.le_of_ble_eq_true rfl) rfl dX6_copyOf_28) (fun H locs hP hS => ?_)
          refine lv_pop hx hb dX6_copyOf_31 rfl ?_
          refine lv_iinc (v := (w4 + 1)) (lv' := [(2, .int (w4 + 1)), (0, .ref (ad t)), (1, .ref (ad a1))]) hx hb dX6_copyOf_32 hl (k := 2) rfl (congrArg (fun z => w4 + z) ki_1) (by decide) rfl (fun ls hl => ?_)
          refine lv_goto (tgt := 7) hx hb dX6_copyOf_35 (by decide) ?_
          exact ih6 (w4 + 1) σ13 _ _ _ hP hS (lv_sub hl [1, 2, 0] rfl) hf
    exact L14 FU 0 σ1 _ _ _ hP hS (lv_sub hl [1, 2, 0] rfl) hf
  exact main _ _ _ hP hS hl

set_option maxHeartbeats 4000000 in
set_option maxRecDepth 100000 in
theorem ctX3_lay (l : Launch) {t : Nat} {a1 : Nat} {a2 : Nat} {a3 : Nat} {σ σ' : FH} (hf : fX3_lay t a1 a2 a3 σ = some σ') : fx_Mv l yX3_lay cX3_lay 4 none (2) LX (fun ad ec => [.ref (ad t), .ref (ad a1), .ref (ad a2), .ref (ad a3)]) σ σ' := by
  unfold fX3_lay at hf
  obtain ⟨h_t, hf⟩ := fxG_e hf
  obtain ⟨h_a1, hf⟩ := fxG_e hf
  obtain ⟨h_a2, hf⟩ := fxG_e hf
  obtain ⟨h_a3, hf⟩ := fxG_e hf
  refine fx_mv' (own := RX3) rfl (by decide +kernel) ?_
  intro p e s m args below meth c D cy ad ec A hC hr hk hP hS
  have hx := hC.1
  have hb := hC.2.1
  have hl := lv_entry ([.ref (ad t), .ref (ad a1), .ref (ad a2), .ref (ad a3)]) (n := 4) (Nat.le_of_ble_eq_true rfl)
  show W _ _ _ _ _ _ _ _ _ _ _ _ _ _ _ (entryFrame m ([.ref (ad t), .ref (ad a1), .ref (ad a2), .ref (ad a3)] : List Value).toArray 4)
  rw [lg_entry_eq]
  generalize (lg_sl ([.ref (ad t), .ref (ad a1), .ref (ad a2), .ref (ad a3)]) ++ List.replicate (4 - (lg_sl ([.ref (ad t), .ref (ad a1), .ref (ad a2), .ref (ad a3)])).length) Slot.unset).toArray = ls at hl ⊢
  have hl : lv_has ls 4 [(0, .ref (ad t)), (1, .ref (ad a1)), (2, .ref (ad a2)), (3, .ref (ad a3))] := hl
  have main : ∀ (H : Heap) (locs : List Loc) (ls : Array Slot), fx_P D cy LX ad σ H → va_S A s.heap H locs → lv_has ls 4 [(0, .ref (ad t)), (1, .ref (ad a1)), (2, .ref (ad a2)), (3, .ref (ad a3))] → W p l e (fx_R (2)) s m args below meth c H locs 0 0 (fx_Qv D cy LX ad A below args s σ') (F0 m 0 ls []) := by
    intro H locs ls hP hS hl
    refine lv_aload_n hx hb dX3_lay_0 rfl (lv_at hl 0 rfl) ?_
    refine gf_X3_10 (v := .ref (ad (t + 1))) hC hP h_t rfl dX3_lay_1 ?_
    refine lv_aload_n hx hb dX3_lay_4 rfl (lv_at hl 1 rfl) ?_
    obtain ⟨σ3, hc1, hf⟩ := fxBV_e hf
    refine fx_cv hC hS (fx_runV (i := (t + 1)) (As := [.ref (ad a1)]) (rest := []) hC hP hS (ctX7_copyOf l hc1 D cy ad ec _) (lyX_3_1 h_t) (by decide) rfl kMV_X3_30 kC_X7_copyOf hd_X7_copyOf rfl ⟨(Nat.le_of_ble_eq_true rfl), (Nat.le_of_ble_eq_true rfl)⟩ ⟨Nat.le_refl 0, Nat.le_refl 0⟩ hl.1 (Nat.le_of_ble_eq_true rfl) rfl dX3_lay_5) (fun H locs hP hS => ?_)
    refine lv_aload_n hx hb dX3_lay_8 rfl (lv_at hl 0 rfl) ?_
    refine gf_X3_19 (v := .ref (ad (t + 4))) hC hP h_t rfl dX3_lay_9 ?_
    refine lv_aload_n hx hb dX3_lay_12 rfl (lv_at hl 2 rfl) ?_
    obtain ⟨σ6, hc4, hf⟩ := fxBV_e hf
    refine fx_cv hC hS (fx_runV (i := (t + 4)) (As := [.ref (ad a2)]) (rest := []) hC hP hS (ctX8_copyOf l hc4 D cy ad ec _) (lyX_3_2 h_t) (by decide) rfl kMV_X3_34 kC_X8_copyOf hd_X8_copyOf rfl ⟨(Nat.le_of_ble_eq_true rfl), (Nat.le_of_ble_eq_true rfl)⟩ ⟨Nat.le_refl 0, Nat.le_refl 0⟩ hl.1 (Nat.le_of_ble_eq_true rfl) rfl dX3_lay_13) (fun H locs hP hS => ?_)
    refine lv_aload_n hx hb dX3_lay_16 rfl (lv_at hl 0 rfl) ?_
    refine gf_X3_26 (v := .ref (ad (t + 9))) hC hP h_t rfl dX3_lay_17 ?_
    refine lv_aload_n hx hb dX3_lay_20 rfl (lv_at hl 3 rfl) ?_
    obtain ⟨σ9, hc7, hf⟩ := fxBV_e hf
    refine fx_cv hC hS (fx_runV (i := (t + 9)) (As := [.ref (ad a3)]) (rest := []) hC hP hS (ctX6_copyOf l hc7 D cy ad ec _) (lyX_3_3 h_t) (by decide) rfl kMV_X3_37 kC_X6_copyOf hd_X6_copyOf rfl ⟨(Nat.le_of_ble_eq_true rfl), (Nat.le_of_ble_eq_true rfl)⟩ ⟨Nat.le_refl 0, Nat.le_refl 0⟩ hl.1 (Nat.le_of_ble_eq_true rfl) rfl dX3_lay_21) (fun H locs hP hS => ?_)
    refine lv_aload_n hx hb dX3_lay_24 rfl (lv_at hl 0 rfl) ?_
    refine lv_iconst hx hb dX3_lay_25 ki_1 ?_
    obtain ⟨σ10, eσ10, hf⟩ := fxL_e hf
    refine pf_X3_40 hC hP hS h_t rfl rfl dX3_lay_26 (fun H locs hP hS => ?_)
    replace hP := fx_Pe eσ10 hP
    exact fx_vretf hf hC hr hk hP hS dX3_lay_29
  exact main _ _ _ hP hS hl

set_option maxHeartbeats 4000000 in
set_option maxRecDepth 100000 in
theorem ctX6_weeksTo (l : Launch) {a0 : Nat} {a1 : Int32} {a2 : Int32} {σ σ' : FH} {v : Int32} (hf : fX6_weeksTo a0 a1 a2 σ = some (v, σ')) : fx_Mi l yX6_weeksTo cX6_weeksTo 5 (some .int) (4) LX (fun ad ec => [.ref (ad a0), .int a1, .int a2]) σ v σ' := by
  unfold fX6_weeksTo at hf
  obtain ⟨h_a0, hf⟩ := fxG_e hf
  refine fx_mi' (own := RX6) rfl (by decide +kernel) ?_
  intro p e s m args below meth c D cy ad ec A hC hr hk hP hS
  have hx := hC.1
  have hb := hC.2.1
  have hl := lv_entry ([.ref (ad a0), .int a1, .int a2]) (n := 5) (Nat.le_of_ble_eq_true rfl)
  show W _ _ _ _ _ _ _ _ _ _ _ _ _ _ _ (entryFrame m ([.ref (ad a0), .int a1, .int a2] : List Value).toArray 5)
  rw [lg_entry_eq]
  generalize (lg_sl ([.ref (ad a0), .int a1, .int a2]) ++ List.replicate (5 - (lg_sl ([.ref (ad a0), .int a1, .int a2])).length) Slot.unset).toArray = ls at hl ⊢
  have hl : lv_has ls 5 [(0, .ref (ad a0)), (1, .int a1), (2, .int a2)] := hl
  have main : ∀ (H : Heap) (locs : List Loc) (ls : Array Slot), fx_P D cy LX ad σ H → va_S A s.heap H locs → lv_has ls 5 [(0, .ref (ad a0)), (1, .int a1), (2, .int a2)] → W p l e (fx_R (4)) s m args below meth c H locs 0 0 (fx_Qi D cy LX ad A below args s v σ') (F0 m 0 ls []) := by
    intro H locs ls hP hS hl
    refine lv_iconst hx hb dX6_weeksTo_0 ki_0 ?_
    refine lv_istore_n (lv' := [(3, .int 0), (0, .ref (ad a0)), (1, .int a1), (2, .int a2)]) hx hb dX6_weeksTo_1 rfl hl (by decide) rfl (fun ls hl => ?_)
    refine lv_iconst hx hb dX6_weeksTo_2 ki_0 ?_
    refine lv_istore (lv' := [(4, .int 0), (3, .int 0), (0, .ref (ad a0)), (1, .int a1), (2, .int a2)]) hx hb dX6_weeksTo_3 hl (by decide) rfl (fun ls hl => ?_)
    obtain ⟨K1, hK1, hf⟩ := fxL_e hf
    have k_K1 : ∀ (σ2 : FH) (H : Heap) (locs : List Loc) (ls : Array Slot), fx_P D cy LX ad σ2 H → va_S A s.heap H locs → lv_has ls 5 [] → K1 σ2 = some (v, σ') → W p l e (fx_R (4)) s m args below meth c H locs 0 0 (fx_Qi D cy LX ad A below args s v σ') (F0 m 41 ls []) := by
      intro σ2 H locs ls hP hS hl hf
      replace hf := fxk1 hK1 hf
      refine lv_bipush hx hb dX6_weeksTo_41 kb_31 ?_
      exact fx_iretf hf hC hr hk hP hS dX6_weeksTo_43
    have L14 : ∀ (n7 : Nat) (w3 : Int32) (w4 : Int32) (σ5 : FH) (H : Heap) (locs : List Loc) (ls : Array Slot), fx_P D cy LX ad σ5 H → va_S A s.heap H locs → lv_has ls 5 [(0, .ref (ad a0)), (1, .int a1), (2, .int a2), (3, .int w3), (4, .int w4)] → fX6_weeksTo_5 a0 a1 a2 K1 n7 w3 w4 σ5 = some (v, σ') → W p l e (fx_R (4)) s m args below meth c H locs 0 0 (fx_Qi D cy LX ad A below args s v σ') (F0 m 5 ls []) := by
      intro n7
      induction n7 with
      | zero =>
        intro w3 w4 σ5 H locs ls hP hS hl hf
        rw [fX6_weeksTo_5] at hf
        cases hf
      | succ n7 ih6 =>
        intro w3 w4 σ5 H locs ls hP hS hl hf
        rw [fX6_weeksTo_5] at hf
        refine lv_iload hx hb dX6_weeksTo_5 (lv_at hl 4 rfl) ?_
        refine lv_bipush hx hb dX6_weeksTo_7 kb_30 ?_
        refine lv_icmp_gt (tgt := 41) hx hb dX6_weeksTo_9 (by decide) (fun c8 => ?_) (fun c8 => ?_)
        · replace hf := fx_it c8 hf
          exact k_K1 σ5 _ _ _ hP hS (lv_sub hl [] rfl) hf
        · replace hf := fx_ie c8 hf
          refine lv_iload_n hx hb dX6_weeksTo_12 rfl (lv_at hl 3 rfl) ?_
          refine lv_iload_n hx hb dX6_weeksTo_13 rfl (lv_at hl 1 rfl) ?_
          refine lv_icmp_lt (tgt := 20) hx hb dX6_weeksTo_14 (by decide) (fun c9 => ?_) (fun c9 => ?_)
          · replace hf := fx_it c9 hf
            refine lv_iload_n hx hb dX6_weeksTo_20 rfl (lv_at hl 3 rfl) ?_
            refine lv_aload_n hx hb dX6_weeksTo_21 rfl (lv_at hl 0 rfl) ?_
            refine lv_iconst hx hb dX6_weeksTo_22 ki_0 ?_
            refine lv_iload_n hx hb dX6_weeksTo_23 rfl (lv_at hl 3 rfl) ?_
            refine lv_iload_n hx hb dX6_weeksTo_24 rfl (lv_at hl 1 rfl) ?_
            refine lv_iconst hx hb dX6_weeksTo_25 ki_0 ?_
            refine lv_iload_n hx hb dX6_weeksTo_26 rfl (lv_at hl 2 rfl) ?_
            refine lv_iload hx hb dX6_weeksTo_27 (lv_at hl 4 rfl) ?_
            refine lv_iadd hx hb dX6_weeksTo_29 ?_
            obtain ⟨r11, σ12, hc10, hf⟩ := fxBI_e hf
            refine fx_ci hC hS (fx_runV (i := a0) (As := [.int 0, .int w3, .int a1, .int 0, .int (a2 + w4)]) (rest := [.int w3]) hC hP hS (ctX5_weekWork l hc10 D cy ad ec _) h_a0 (by decide) rfl kMV_X6_34 kC_X5_weekWork hd_X5_weekWork rfl ⟨(Nat.le_of_ble_eq_true rfl), (Nat.le_of_ble_eq_true rfl)⟩ ⟨Nat.le_refl 0, Nat.le_refl 0⟩ hl.1 (Nat.le_of_ble_eq_true rfl) rfl dX6_weeksTo_30) (fun H locs hP hS => ?_)
            refine lv_iadd hx hb dX6_weeksTo_33 ?_
            obtain ⟨v13, ev13, hf⟩ := fxL_e hf
            refine fx_ti ev13 ?_
            refine lv_istore_n (lv' := [(3, .int v13), (0, .ref (ad a0)), (1, .int a1), (2, .int a2), (4, .int w4)]) hx hb dX6_weeksTo_34 rfl hl (by decide) rfl (fun ls hl => ?_)
            refine lv_iinc (v := (w4 + 1)) (lv' := [(4, .int (w4 + 1)), (3, .int v13), (0, .ref (ad a0)), (1, .int a1), (2, .int a2)]) hx hb dX6_weeksTo_35 hl (k := 4) rfl (congrArg (fun z => w4 + z) ki_1) (by decide) rfl (fun ls hl => ?_)
            refine lv_goto (tgt := 5) hx hb dX6_weeksTo_38 (by decide) ?_
            exact ih6 v13 (w4 + 1) σ12 _ _ _ hP hS (lv_sub hl [2, 3, 4, 1, 0] rfl) hf
          · replace hf := fx_ie c9 hf
            refine lv_iload hx hb dX6_weeksTo_17 (lv_at hl 4 rfl) ?_
            exact fx_iretf hf hC hr hk hP hS dX6_weeksTo_19
    exact L14 FU 0 0 σ _ _ _ hP hS (lv_sub hl [2, 3, 4, 1, 0] rfl) hf
  exact main _ _ _ hP hS hl

set_option maxHeartbeats 4000000 in
set_option maxRecDepth 100000 in
theorem ctX6_lookAhead (l : Launch) {t : Nat} {a1 : Nat} {a2 : Int32} {σ σ' : FH} (hf : fX6_lookAhead t a1 a2 σ = some σ') : fx_Mv l yX6_lookAhead cX6_lookAhead 4 none (5) LX (fun ad ec => [.ref (ad t), .ref (ad a1), .int a2]) σ σ' := by
  unfold fX6_lookAhead at hf
  obtain ⟨h_t, hf⟩ := fxG_e hf
  obtain ⟨h_a1, hf⟩ := fxG_e hf
  refine fx_mv' (own := RX6) rfl (by decide +kernel) ?_
  intro p e s m args below meth c D cy ad ec A hC hr hk hP hS
  have hx := hC.1
  have hb := hC.2.1
  have hl := lv_entry ([.ref (ad t), .ref (ad a1), .int a2]) (n := 4) (Nat.le_of_ble_eq_true rfl)
  show W _ _ _ _ _ _ _ _ _ _ _ _ _ _ _ (entryFrame m ([.ref (ad t), .ref (ad a1), .int a2] : List Value).toArray 4)
  rw [lg_entry_eq]
  generalize (lg_sl ([.ref (ad t), .ref (ad a1), .int a2]) ++ List.replicate (4 - (lg_sl ([.ref (ad t), .ref (ad a1), .int a2])).length) Slot.unset).toArray = ls at hl ⊢
  have hl : lv_has ls 4 [(0, .ref (ad t)), (1, .ref (ad a1)), (2, .int a2)] := hl
  have main : ∀ (H : Heap) (locs : List Loc) (ls : Array Slot), fx_P D cy LX ad σ H → va_S A s.heap H locs → lv_has ls 4 [(0, .ref (ad t)), (1, .ref (ad a1)), (2, .int a2)] → W p l e (fx_R (5)) s m args below meth c H locs 0 0 (fx_Qv D cy LX ad A below args s σ') (F0 m 0 ls []) := by
    intro H locs ls hP hS hl
    refine lv_iconst hx hb dX6_lookAhead_0 ki_1 ?_
    refine lv_istore_n (lv' := [(3, .int 1), (0, .ref (ad t)), (1, .ref (ad a1)), (2, .int a2)]) hx hb dX6_lookAhead_1 rfl hl (by decide) rfl (fun ls hl => ?_)
    obtain ⟨K1, hK1, hf⟩ := fxL_e hf
    have k_K1 : ∀ (σ2 : FH) (H : Heap) (locs : List Loc) (ls : Array Slot), fx_P D cy LX ad σ2 H → va_S A s.heap H locs → lv_has ls 4 [] → K1 σ2 = some σ' → W p l e (fx_R (5)) s m args below meth c H locs 0 0 (fx_Qv D cy LX ad A below args s σ') (F0 m 26 ls []) := by
      intro σ2 H locs ls hP hS hl hf
      replace hf := fxk1 hK1 hf
      exact fx_vretf hf hC hr hk hP hS dX6_lookAhead_26
    have L13 : ∀ (n6 : Nat) (w3 : Int32) (σ4 : FH) (H : Heap) (locs : List Loc) (ls : Array Slot), fx_P D cy LX ad σ4 H → va_S A s.heap H locs → lv_has ls 4 [(0, .ref (ad t)), (1, .ref (ad a1)), (2, .int a2), (3, .int w3)] → fX6_lookAhead_2 t a1 a2 K1 n6 w3 σ4 = some σ' → W p l e (fx_R (5)) s m args below meth c H locs 0 0 (fx_Qv D cy LX ad A below args s σ') (F0 m 2 ls []) := by
      intro n6
      induction n6 with
      | zero =>
        intro w3 σ4 H locs ls hP hS hl hf
        rw [fX6_lookAhead_2] at hf
        cases hf
      | succ n6 ih5 =>
        intro w3 σ4 H locs ls hP hS hl hf
        rw [fX6_lookAhead_2] at hf
        refine lv_iload_n hx hb dX6_lookAhead_2 rfl (lv_at hl 3 rfl) ?_
        refine lv_bipush hx hb dX6_lookAhead_3 kb_30 ?_
        refine lv_icmp_gt (tgt := 26) hx hb dX6_lookAhead_5 (by decide) (fun c7 => ?_) (fun c7 => ?_)
        · replace hf := fx_it c7 hf
          exact k_K1 σ4 _ _ _ hP hS (lv_sub hl [] rfl) hf
        · replace hf := fx_ie c7 hf
          refine lv_aload_n hx hb dX6_lookAhead_8 rfl (lv_at hl 0 rfl) ?_
          refine gf_X6_19 (v := .ref (ad (t + 3))) hC hP h_t rfl dX6_lookAhead_9 ?_
          refine lv_iload_n hx hb dX6_lookAhead_12 rfl (lv_at hl 3 rfl) ?_
          refine lv_aload_n hx hb dX6_lookAhead_13 rfl (lv_at hl 1 rfl) ?_
          refine lv_iload_n hx hb dX6_lookAhead_14 rfl (lv_at hl 3 rfl) ?_
          refine lv_iload_n hx hb dX6_lookAhead_15 rfl (lv_at hl 2 rfl) ?_
          obtain ⟨r9, σ10, hc8, hf⟩ := fxBI_e hf
          refine fx_ci hC hS (fx_runS (As := [.ref (ad a1), .int w3, .int a2]) (rest := [.int w3, .ref (ad (t + 3))]) hC hP hS (ctX6_weeksTo l hc8 D cy ad ec _) kMS_X6_30 kC_X6_weeksTo hd_X6_weeksTo.2 rfl ⟨(Nat.le_of_ble_eq_true rfl), (Nat.le_of_ble_eq_true rfl)⟩ ⟨Nat.le_refl 0, Nat.le_refl 0⟩ hl.1 (Nat.le_of_ble_eq_true rfl) rfl dX6_lookAhead_16) (fun H locs hP hS => ?_)
          obtain ⟨h11, hf⟩ := fxG_e hf
          obtain ⟨σ12, eσ12, hf⟩ := fxL_e hf
          refine fx_iast hC hP hS (lyX_6_3 h_t) (fx_inp h11) dX6_lookAhead_19 (fun H locs hP hS => ?_)
          replace hP := fx_Pe eσ12 hP
          refine lv_iinc (v := (w3 + 1)) (lv' := [(3, .int (w3 + 1)), (0, .ref (ad t)), (1, .ref (ad a1)), (2, .int a2)]) hx hb dX6_lookAhead_20 hl (k := 3) rfl (congrArg (fun z => w3 + z) ki_1) (by decide) rfl (fun ls hl => ?_)
          refine lv_goto (tgt := 2) hx hb dX6_lookAhead_23 (by decide) ?_
          exact ih5 (w3 + 1) σ12 _ _ _ hP hS (lv_sub hl [1, 2, 3, 0] rfl) hf
    exact L13 FU 1 σ _ _ _ hP hS (lv_sub hl [1, 2, 3, 0] rfl) hf
  exact main _ _ _ hP hS hl

set_option maxHeartbeats 4000000 in
set_option maxRecDepth 100000 in
theorem ctX6_allows (l : Launch) {t : Nat} {a1 : Int32} {σ : FH} {v : Int32} (hf : fX6_allows t a1 σ = some v) : fx_Mi l yX6_allows cX6_allows 3 (some .boolean) (0) LX (fun ad ec => [.ref (ad t), .int a1]) σ v σ := by
  unfold fX6_allows at hf
  obtain ⟨h_t, hf⟩ := fxG_e hf
  refine fx_mi' (own := RX6) rfl (by decide +kernel) ?_
  intro p e s m args below meth c D cy ad ec A hC hr hk hP hS
  have hx := hC.1
  have hb := hC.2.1
  have hl := lv_entry ([.ref (ad t), .int a1]) (n := 3) (Nat.le_of_ble_eq_true rfl)
  show W _ _ _ _ _ _ _ _ _ _ _ _ _ _ _ (entryFrame m ([.ref (ad t), .int a1] : List Value).toArray 3)
  rw [lg_entry_eq]
  generalize (lg_sl ([.ref (ad t), .int a1]) ++ List.replicate (3 - (lg_sl ([.ref (ad t), .int a1])).length) Slot.unset).toArray = ls at hl ⊢
  have hl : lv_has ls 3 [(0, .ref (ad t)), (1, .int a1)] := hl
  have main : ∀ (H : Heap) (locs : List Loc) (ls : Array Slot), fx_P D cy LX ad σ H → va_S A s.heap H locs → lv_has ls 3 [(0, .ref (ad t)), (1, .int a1)] → W p l e (fx_R (0)) s m args below meth c H locs 0 0 (fx_Qi D cy LX ad A below args s v σ) (F0 m 0 ls []) := by
    intro H locs ls hP hS hl
    refine lv_iload_n hx hb dX6_allows_0 rfl (lv_at hl 1 rfl) ?_
    refine lv_iconst hx hb dX6_allows_1 ki_1 ?_
    refine lv_icmp_lt (tgt := 11) hx hb dX6_allows_2 (by decide) (fun c1 => ?_) (fun c1 => ?_)
    · replace hf := fx_it c1 hf
      refine lv_iconst hx hb dX6_allows_11 ki_0 ?_
      exact fx_zretp rfl hf hC hr hk hP hS dX6_allows_12
    · replace hf := fx_ie c1 hf
      refine lv_iload_n hx hb dX6_allows_5 rfl (lv_at hl 1 rfl) ?_
      refine lv_bipush hx hb dX6_allows_6 kb_30 ?_
      refine lv_icmp_le (tgt := 13) hx hb dX6_allows_8 (by decide) (fun c2 => ?_) (fun c2 => ?_)
      · replace hf := fx_it c2 hf
        refine lv_iconst hx hb dX6_allows_13 ki_0 ?_
        refine lv_istore_n (lv' := [(2, .int 0), (0, .ref (ad t)), (1, .int a1)]) hx hb dX6_allows_14 rfl hl (by decide) rfl (fun ls hl => ?_)
        obtain ⟨K3, hK3, hf⟩ := fxL_e hf
        have k_K3 : ∀  (H : Heap) (locs : List Loc) (ls : Array Slot), fx_P D cy LX ad σ H → va_S A s.heap H locs → lv_has ls 3 [] → K3 = some v → W p l e (fx_R (0)) s m args below meth c H locs 0 0 (fx_Qi D cy LX ad A below args s v σ) (F0 m 60 ls []) := by
          intro  H locs ls hP hS hl hf
          replace hf := hK3.symm.trans hf
          refine lv_iconst hx hb dX6_allows_60 ki_1 ?_
          exact fx_zretp rfl hf hC hr hk hP hS dX6_allows_61
        have L15 : ∀ (n6 : Nat) (w4 : Int32) (H : Heap) (locs : List Loc) (ls : Array Slot), fx_P D cy LX ad σ H → va_S A s.heap H locs → lv_has ls 3 [(0, .ref (ad t)), (1, .int a1), (2, .int w4)] → fX6_allows_15 t a1 σ K3 n6 w4 = some v → W p l e (fx_R (0)) s m args below meth c H locs 0 0 (fx_Qi D cy LX ad A below args s v σ) (F0 m 15 ls []) := by
          intro n6
          induction n6 with
          | zero =>
            intro w4 H locs ls hP hS hl hf
            rw [fX6_allows_15] at hf
            cases hf
          | succ n6 ih5 =>
            intro w4 H locs ls hP hS hl hf
            rw [fX6_allows_15] at hf
            refine lv_iload_n hx hb dX6_allows_15 rfl (lv_at hl 2 rfl) ?_
            refine lv_aload_n hx hb dX6_allows_16 rfl (lv_at hl 0 rfl) ?_
            refine gf_X6_22 (v := .int (σ.1 t 0)) hC hP h_t rfl dX6_allows_17 ?_
            refine lv_icmp_ge (tgt := 60) hx hb dX6_allows_20 (by decide) (fun c7 => ?_) (fun c7 => ?_)
            · replace hf := fx_it c7 hf
              exact k_K3  _ _ _ hP hS (lv_sub hl [] rfl) hf
            · replace hf := fx_ie c7 hf
              refine lv_aload_n hx hb dX6_allows_23 rfl (lv_at hl 0 rfl) ?_
              refine gf_X6_19 (v := .ref (ad (t + 3))) hC hP h_t rfl dX6_allows_24 ?_
              refine lv_iload_n hx hb dX6_allows_27 rfl (lv_at hl 1 rfl) ?_
              obtain ⟨h8, hf⟩ := fxG_e hf
              refine fx_iald hC hP (lyX_6_3 h_t) (fx_inp h8) dX6_allows_28 ?_
              refine lv_aload_n hx hb dX6_allows_29 rfl (lv_at hl 0 rfl) ?_
              refine gf_X6_9 (v := .ref (ad (t + 1))) hC hP h_t rfl dX6_allows_30 ?_
              refine lv_iload_n hx hb dX6_allows_33 rfl (lv_at hl 2 rfl) ?_
              obtain ⟨h9, hf⟩ := fxG_e hf
              refine fx_iald hC hP (lyX_6_1 h_t) (fx_inp h9) dX6_allows_34 ?_
              obtain ⟨v10, ev10, hf⟩ := fxL_e hf
              have j_v10 : ∀ (z11 : Int32), z11 = ((if (σ.1 (t + 1) (Int32.toNatClampNeg w4)) < (σ.1 (t + 3) (Int32.toNatClampNeg a1)) then 0 else 1) : Int32) → ∀ (ls : Array Slot), lv_has ls 3 [(0, .ref (ad t)), (1, .int a1), (2, .int w4)] → W p l e (fx_R (0)) s m args below meth c H locs 0 0 (fx_Qi D cy LX ad A below args s v σ) (F0 m 43 ls [.int z11]) := by
                intro z11 hz11 ls hl
                obtain rfl : v10 = z11 := ev10.trans hz11.symm
                refine lv_aload_n hx hb dX6_allows_43 rfl (lv_at hl 0 rfl) ?_
                refine gf_X6_15 (v := .ref (ad (t + 2))) hC hP h_t rfl dX6_allows_44 ?_
                refine lv_iload_n hx hb dX6_allows_47 rfl (lv_at hl 2 rfl) ?_
                obtain ⟨h13, hf⟩ := fxG_e hf
                refine fx_zald hC hP (lyX_6_2 h_t) (fx_inp h13) dX6_allows_48 ?_
                refine lv_icmp_eq (tgt := 54) hx hb dX6_allows_49 (by decide) (fun c14 => ?_) (fun c14 => ?_)
                · replace hf := fx_it c14 hf
                  refine lv_iinc (v := (w4 + 1)) (lv' := [(2, .int (w4 + 1)), (0, .ref (ad t)), (1, .int a1)]) hx hb dX6_allows_54 hl (k := 2) rfl (congrArg (fun z => w4 + z) ki_1) (by decide) rfl (fun ls hl => ?_)
                  refine lv_goto (tgt := 15) hx hb dX6_allows_57 (by decide) ?_
                  exact ih5 (w4 + 1) _ _ _ hP hS (lv_sub hl [1, 2, 0] rfl) hf
                · replace hf := fx_ie c14 hf
                  refine lv_iconst hx hb dX6_allows_52 ki_0 ?_
                  exact fx_zretp rfl hf hC hr hk hP hS dX6_allows_53
              refine lv_icmp_gt (tgt := 42) hx hb dX6_allows_35 (by decide) (fun c12 => ?_) (fun c12 => ?_)
              · refine lv_iconst hx hb dX6_allows_42 ki_0 ?_
                exact j_v10 0 (if_pos c12).symm ls (lv_sub hl [0, 1, 2] rfl)
              · refine lv_iconst hx hb dX6_allows_38 ki_1 ?_
                refine lv_goto (tgt := 43) hx hb dX6_allows_39 (by decide) ?_
                exact j_v10 1 (if_neg c12).symm ls (lv_sub hl [0, 1, 2] rfl)
        exact L15 FU 0 _ _ _ hP hS (lv_sub hl [1, 2, 0] rfl) hf
      · replace hf := fx_ie c2 hf
        refine lv_iconst hx hb dX6_allows_11 ki_0 ?_
        exact fx_zretp rfl hf hC hr hk hP hS dX6_allows_12
  exact main _ _ _ hP hS hl

set_option maxHeartbeats 4000000 in
set_option maxRecDepth 100000 in
theorem ctX6_allowedBy (l : Launch) {t : Nat} {a1 : Int32} {σ : FH} {v : Int32} (hf : fX6_allowedBy t a1 σ = some v) : fx_Mi l yX6_allowedBy cX6_allowedBy 4 (some .int) (1) LX (fun ad ec => [.ref (ad t), .int a1]) σ v σ := by
  unfold fX6_allowedBy at hf
  obtain ⟨h_t, hf⟩ := fxG_e hf
  refine fx_mi' (own := RX6) rfl (by decide +kernel) ?_
  intro p e s m args below meth c D cy ad ec A hC hr hk hP hS
  have hx := hC.1
  have hb := hC.2.1
  have hl := lv_entry ([.ref (ad t), .int a1]) (n := 4) (Nat.le_of_ble_eq_true rfl)
  show W _ _ _ _ _ _ _ _ _ _ _ _ _ _ _ (entryFrame m ([.ref (ad t), .int a1] : List Value).toArray 4)
  rw [lg_entry_eq]
  generalize (lg_sl ([.ref (ad t), .int a1]) ++ List.replicate (4 - (lg_sl ([.ref (ad t), .int a1])).length) Slot.unset).toArray = ls at hl ⊢
  have hl : lv_has ls 4 [(0, .ref (ad t)), (1, .int a1)] := hl
  have main : ∀ (H : Heap) (locs : List Loc) (ls : Array Slot), fx_P D cy LX ad σ H → va_S A s.heap H locs → lv_has ls 4 [(0, .ref (ad t)), (1, .int a1)] → W p l e (fx_R (1)) s m args below meth c H locs 0 0 (fx_Qi D cy LX ad A below args s v σ) (F0 m 0 ls []) := by
    intro H locs ls hP hS hl
    refine lv_iconst hx hb dX6_allowedBy_0 ki_0 ?_
    refine lv_istore_n (lv' := [(2, .int 0), (0, .ref (ad t)), (1, .int a1)]) hx hb dX6_allowedBy_1 rfl hl (by decide) rfl (fun ls hl => ?_)
    refine lv_iconst hx hb dX6_allowedBy_2 ki_2 ?_
    refine lv_istore_n (lv' := [(3, .int 2), (2, .int 0), (0, .ref (ad t)), (1, .int a1)]) hx hb dX6_allowedBy_3 rfl hl (by decide) rfl (fun ls hl => ?_)
    obtain ⟨K1, hK1, hf⟩ := fxL_e hf
    have k_K1 : ∀ (x2 : Int32) (H : Heap) (locs : List Loc) (ls : Array Slot), fx_P D cy LX ad σ H → va_S A s.heap H locs → lv_has ls 4 [(2, .int x2)] → K1 x2 = some v → W p l e (fx_R (1)) s m args below meth c H locs 0 0 (fx_Qi D cy LX ad A below args s v σ) (F0 m 41 ls []) := by
      intro x2 H locs ls hP hS hl hf
      replace hf := fxk1 hK1 hf
      refine lv_iload_n hx hb dX6_allowedBy_41 rfl (lv_at hl 0 rfl) ?_
      exact fx_iretp hf hC hr hk hP hS dX6_allowedBy_42
    have L14 : ∀ (n6 : Nat) (w3 : Int32) (w4 : Int32) (H : Heap) (locs : List Loc) (ls : Array Slot), fx_P D cy LX ad σ H → va_S A s.heap H locs → lv_has ls 4 [(0, .ref (ad t)), (1, .int a1), (2, .int w3), (3, .int w4)] → fX6_allowedBy_4 t a1 σ K1 n6 w3 w4 = some v → W p l e (fx_R (1)) s m args below meth c H locs 0 0 (fx_Qi D cy LX ad A below args s v σ) (F0 m 4 ls []) := by
      intro n6
      induction n6 with
      | zero =>
        intro w3 w4 H locs ls hP hS hl hf
        rw [fX6_allowedBy_4] at hf
        cases hf
      | succ n6 ih5 =>
        intro w3 w4 H locs ls hP hS hl hf
        rw [fX6_allowedBy_4] at hf
        refine lv_iload_n hx hb dX6_allowedBy_4 rfl (lv_at hl 3 rfl) ?_
        refine lv_bipush hx hb dX6_allowedBy_5 kb_60 ?_
        refine lv_icmp_gt (tgt := 41) hx hb dX6_allowedBy_7 (by decide) (fun c7 => ?_) (fun c7 => ?_)
        · replace hf := fx_it c7 hf
          exact k_K1 w3 _ _ _ hP hS (lv_sub hl [2] rfl) hf
        · replace hf := fx_ie c7 hf
          refine lv_aload_n hx hb dX6_allowedBy_10 rfl (lv_at hl 0 rfl) ?_
          refine gf_X6_19 (v := .ref (ad (t + 3))) hC hP h_t rfl dX6_allowedBy_11 ?_
          refine lv_iload_n hx hb dX6_allowedBy_14 rfl (lv_at hl 3 rfl) ?_
          refine lv_iconst hx hb dX6_allowedBy_15 ki_2 ?_
          refine lv_idiv hx hb dX6_allowedBy_16 (by decide) ?_
          obtain ⟨h8, hf⟩ := fxG_e hf
          refine fx_iald hC hP (lyX_6_3 h_t) (fx_inp h8) dX6_allowedBy_17 ?_
          refine lv_iload_n hx hb dX6_allowedBy_18 rfl (lv_at hl 1 rfl) ?_
          refine lv_icmp_gt (tgt := 35) hx hb dX6_allowedBy_19 (by decide) (fun c9 => ?_) (fun c9 => ?_)
          · replace hf := fx_it c9 hf
            refine lv_iinc (v := (w4 + 1)) (lv' := [(3, .int (w4 + 1)), (0, .ref (ad t)), (1, .int a1), (2, .int w3)]) hx hb dX6_allowedBy_35 hl (k := 3) rfl (congrArg (fun z => w4 + z) ki_1) (by decide) rfl (fun ls hl => ?_)
            refine lv_goto (tgt := 4) hx hb dX6_allowedBy_38 (by decide) ?_
            exact ih5 w3 (w4 + 1) _ _ _ hP hS (lv_sub hl [1, 2, 3, 0] rfl) hf
          · replace hf := fx_ie c9 hf
            refine lv_aload_n hx hb dX6_allowedBy_22 rfl (lv_at hl 0 rfl) ?_
            refine lv_iload_n hx hb dX6_allowedBy_23 rfl (lv_at hl 3 rfl) ?_
            refine lv_iconst hx hb dX6_allowedBy_24 ki_2 ?_
            refine lv_idiv hx hb dX6_allowedBy_25 (by decide) ?_
            obtain ⟨r11, hc10, hf⟩ := fxBP_e hf
            refine fx_ci hC hS (fx_runV (i := t) (As := [.int (w4 / 2)]) (rest := []) hC hP hS (ctX6_allows l hc10 D cy ad ec _) h_t (by decide) rfl kMV_X6_50 kC_X6_allows hd_X6_allows rfl ⟨(Nat.le_of_ble_eq_true rfl), (Nat.le_of_ble_eq_true rfl)⟩ ⟨Nat.le_refl 0, Nat.le_refl 0⟩ hl.1 (Nat.le_of_ble_eq_true rfl) rfl dX6_allowedBy_26) (fun H locs hP hS => ?_)
            refine lv_if_eq (tgt := 35) hx hb dX6_allowedBy_29 (by decide) (fun c13 => ?_) (fun c13 => ?_)
            · replace hf := fx_it c13 hf
              refine lv_iinc (v := (w4 + 1)) (lv' := [(3, .int (w4 + 1)), (0, .ref (ad t)), (1, .int a1), (2, .int w3)]) hx hb dX6_allowedBy_35 hl (k := 3) rfl (congrArg (fun z => w4 + z) ki_1) (by decide) rfl (fun ls hl => ?_)
              refine lv_goto (tgt := 4) hx hb dX6_allowedBy_38 (by decide) ?_
              exact ih5 w3 (w4 + 1) _ _ _ hP hS (lv_sub hl [1, 2, 3, 0] rfl) hf
            · replace hf := fx_ie c13 hf
              refine lv_iinc (v := (w3 + 1)) (lv' := [(2, .int (w3 + 1)), (0, .ref (ad t)), (1, .int a1), (3, .int w4)]) hx hb dX6_allowedBy_32 hl (k := 2) rfl (congrArg (fun z => w3 + z) ki_1) (by decide) rfl (fun ls hl => ?_)
              refine lv_iinc (v := (w4 + 1)) (lv' := [(3, .int (w4 + 1)), (2, .int (w3 + 1)), (0, .ref (ad t)), (1, .int a1)]) hx hb dX6_allowedBy_35 hl (k := 3) rfl (congrArg (fun z => w4 + z) ki_1) (by decide) rfl (fun ls hl => ?_)
              refine lv_goto (tgt := 4) hx hb dX6_allowedBy_38 (by decide) ?_
              exact ih5 (w3 + 1) (w4 + 1) _ _ _ hP hS (lv_sub hl [2, 3, 1, 0] rfl) hf
    exact L14 FU 0 2 _ _ _ hP hS (lv_sub hl [2, 3, 1, 0] rfl) hf
  exact main _ _ _ hP hS hl

set_option maxHeartbeats 4000000 in
set_option maxRecDepth 100000 in
theorem ctX6_bestQuestion (l : Launch) {t : Nat} {σ : FH} {v : Int32} (hf : fX6_bestQuestion t σ = some v) : fx_Mi l yX6_bestQuestion cX6_bestQuestion 7 (some .int) (2) LX (fun ad ec => [.ref (ad t)]) σ v σ := by
  unfold fX6_bestQuestion at hf
  obtain ⟨h_t, hf⟩ := fxG_e hf
  refine fx_mi' (own := RX6) rfl (by decide +kernel) ?_
  intro p e s m args below meth c D cy ad ec A hC hr hk hP hS
  have hx := hC.1
  have hb := hC.2.1
  have hl := lv_entry ([.ref (ad t)]) (n := 7) (Nat.le_of_ble_eq_true rfl)
  show W _ _ _ _ _ _ _ _ _ _ _ _ _ _ _ (entryFrame m ([.ref (ad t)] : List Value).toArray 7)
  rw [lg_entry_eq]
  generalize (lg_sl ([.ref (ad t)]) ++ List.replicate (7 - (lg_sl ([.ref (ad t)])).length) Slot.unset).toArray = ls at hl ⊢
  have hl : lv_has ls 7 [(0, .ref (ad t))] := hl
  have main : ∀ (H : Heap) (locs : List Loc) (ls : Array Slot), fx_P D cy LX ad σ H → va_S A s.heap H locs → lv_has ls 7 [(0, .ref (ad t))] → W p l e (fx_R (2)) s m args below meth c H locs 0 0 (fx_Qi D cy LX ad A below args s v σ) (F0 m 0 ls []) := by
    intro H locs ls hP hS hl
    refine lv_aload_n hx hb dX6_bestQuestion_0 rfl (lv_at hl 0 rfl) ?_
    refine lv_bipush hx hb dX6_bestQuestion_1 kb_31 ?_
    obtain ⟨r2, hc1, hf⟩ := fxBP_e hf
    refine fx_ci hC hS (fx_runV (i := t) (As := [.int 31]) (rest := []) hC hP hS (ctX6_allowedBy l hc1 D cy ad ec _) h_t (by decide) rfl kMV_X6_40 kC_X6_allowedBy hd_X6_allowedBy rfl ⟨(Nat.le_of_ble_eq_true rfl), (Nat.le_of_ble_eq_true rfl)⟩ ⟨Nat.le_refl 0, Nat.le_refl 0⟩ hl.1 (Nat.le_of_ble_eq_true rfl) rfl dX6_bestQuestion_3) (fun H locs hP hS => ?_)
    refine lv_istore_n (lv' := [(1, .int r2), (0, .ref (ad t))]) hx hb dX6_bestQuestion_6 rfl hl (by decide) rfl (fun ls hl => ?_)
    refine lv_iconst hx hb dX6_bestQuestion_7 ki_m1 ?_
    refine lv_istore_n (lv' := [(2, .int (-1)), (1, .int r2), (0, .ref (ad t))]) hx hb dX6_bestQuestion_8 rfl hl (by decide) rfl (fun ls hl => ?_)
    refine lv_iload_n hx hb dX6_bestQuestion_9 rfl (lv_at hl 1 rfl) ?_
    refine lv_istore_n (lv' := [(3, .int r2), (2, .int (-1)), (1, .int r2), (0, .ref (ad t))]) hx hb dX6_bestQuestion_10 rfl hl (by decide) rfl (fun ls hl => ?_)
    refine lv_iconst hx hb dX6_bestQuestion_11 ki_0 ?_
    refine lv_istore (lv' := [(4, .int 0), (3, .int r2), (2, .int (-1)), (1, .int r2), (0, .ref (ad t))]) hx hb dX6_bestQuestion_12 hl (by decide) rfl (fun ls hl => ?_)
    obtain ⟨K4, hK4, hf⟩ := fxL_e hf
    have k_K4 : ∀ (x5 : Int32) (H : Heap) (locs : List Loc) (ls : Array Slot), fx_P D cy LX ad σ H → va_S A s.heap H locs → lv_has ls 7 [(2, .int x5)] → K4 x5 = some v → W p l e (fx_R (2)) s m args below meth c H locs 0 0 (fx_Qi D cy LX ad A below args s v σ) (F0 m 58 ls []) := by
      intro x5 H locs ls hP hS hl hf
      replace hf := fxk1 hK4 hf
      refine lv_iload_n hx hb dX6_bestQuestion_58 rfl (lv_at hl 0 rfl) ?_
      exact fx_iretp hf hC hr hk hP hS dX6_bestQuestion_59
    have L17 : ∀ (n10 : Nat) (w6 : Int32) (w7 : Int32) (w8 : Int32) (H : Heap) (locs : List Loc) (ls : Array Slot), fx_P D cy LX ad σ H → va_S A s.heap H locs → lv_has ls 7 [(0, .ref (ad t)), (1, .int r2), (2, .int w6), (3, .int w7), (4, .int w8)] → fX6_bestQuestion_14 t σ r2 K4 n10 w6 w7 w8 = some v → W p l e (fx_R (2)) s m args below meth c H locs 0 0 (fx_Qi D cy LX ad A below args s v σ) (F0 m 14 ls []) := by
      intro n10
      induction n10 with
      | zero =>
        intro w6 w7 w8 H locs ls hP hS hl hf
        rw [fX6_bestQuestion_14] at hf
        cases hf
      | succ n10 ih9 =>
        intro w6 w7 w8 H locs ls hP hS hl hf
        rw [fX6_bestQuestion_14] at hf
        refine lv_iload hx hb dX6_bestQuestion_14 (lv_at hl 4 rfl) ?_
        refine lv_bipush hx hb dX6_bestQuestion_16 kb_30 ?_
        refine lv_icmp_gt (tgt := 58) hx hb dX6_bestQuestion_18 (by decide) (fun c11 => ?_) (fun c11 => ?_)
        · replace hf := fx_it c11 hf
          exact k_K4 w6 _ _ _ hP hS (lv_sub hl [2] rfl) hf
        · replace hf := fx_ie c11 hf
          refine lv_aload_n hx hb dX6_bestQuestion_21 rfl (lv_at hl 0 rfl) ?_
          refine lv_iload hx hb dX6_bestQuestion_22 (lv_at hl 4 rfl) ?_
          obtain ⟨r13, hc12, hf⟩ := fxBP_e hf
          refine fx_ci hC hS (fx_runV (i := t) (As := [.int w8]) (rest := []) hC hP hS (ctX6_allowedBy l hc12 D cy ad ec _) h_t (by decide) rfl kMV_X6_40 kC_X6_allowedBy hd_X6_allowedBy rfl ⟨(Nat.le_of_ble_eq_true rfl), (Nat.le_of_ble_eq_true rfl)⟩ ⟨Nat.le_refl 0, Nat.le_refl 0⟩ hl.1 (Nat.le_of_ble_eq_true rfl) rfl dX6_bestQuestion_24) (fun H locs hP hS => ?_)
          refine lv_istore (lv' := [(5, .int r13), (0, .ref (ad t)), (1, .int r2), (2, .int w6), (3, .int w7), (4, .int w8)]) hx hb dX6_bestQuestion_27 hl (by decide) rfl (fun ls hl => ?_)
          refine lv_iload hx hb dX6_bestQuestion_29 (lv_at hl 0 rfl) ?_
          refine lv_iload_n hx hb dX6_bestQuestion_31 rfl (lv_at hl 2 rfl) ?_
          refine lv_iload hx hb dX6_bestQuestion_32 (lv_at hl 0 rfl) ?_
          refine lv_isub hx hb dX6_bestQuestion_34 ?_
          refine fx_max hC hl.1 kL_X6_44 kMt_max kMi kMc_max (Nat.le_of_ble_eq_true rfl) (Nat.le_of_ble_eq_true rfl) ⟨Nat.le_refl 0, Nat.le_refl 0⟩ dX6_bestQuestion_35 ?_
          obtain ⟨v15, ev15, hf⟩ := fxL_e hf
          refine fx_ti ev15 ?_
          refine lv_istore (lv' := [(6, .int v15), (5, .int r13), (0, .ref (ad t)), (1, .int r2), (2, .int w6), (3, .int w7), (4, .int w8)]) hx hb dX6_bestQuestion_38 hl (by decide) rfl (fun ls hl => ?_)
          refine lv_iload hx hb dX6_bestQuestion_40 (lv_at hl 0 rfl) ?_
          refine lv_iload_n hx hb dX6_bestQuestion_42 rfl (lv_at hl 5 rfl) ?_
          refine lv_icmp_ge (tgt := 52) hx hb dX6_bestQuestion_43 (by decide) (fun c16 => ?_) (fun c16 => ?_)
          · replace hf := fx_it c16 hf
            refine lv_iinc (v := (w8 + 1)) (lv' := [(4, .int (w8 + 1)), (6, .int v15), (5, .int r13), (0, .ref (ad t)), (1, .int r2), (2, .int w6), (3, .int w7)]) hx hb dX6_bestQuestion_52 hl (k := 6) rfl (congrArg (fun z => w8 + z) ki_1) (by decide) rfl (fun ls hl => ?_)
            refine lv_goto (tgt := 14) hx hb dX6_bestQuestion_55 (by decide) ?_
            exact ih9 w6 w7 (w8 + 1) _ _ _ hP hS (lv_sub hl [3, 4, 5, 6, 0] rfl) hf
          · replace hf := fx_ie c16 hf
            refine lv_iload hx hb dX6_bestQuestion_46 (lv_at hl 6 rfl) ?_
            refine lv_istore_n (lv' := [(2, .int w8), (6, .int v15), (5, .int r13), (0, .ref (ad t)), (1, .int r2), (3, .int w7), (4, .int w8)]) hx hb dX6_bestQuestion_48 rfl hl (by decide) rfl (fun ls hl => ?_)
            refine lv_iload hx hb dX6_bestQuestion_49 (lv_at hl 1 rfl) ?_
            refine lv_istore_n (lv' := [(3, .int v15), (2, .int w8), (6, .int v15), (5, .int r13), (0, .ref (ad t)), (1, .int r2), (4, .int w8)]) hx hb dX6_bestQuestion_51 rfl hl (by decide) rfl (fun ls hl => ?_)
            refine lv_iinc (v := (w8 + 1)) (lv' := [(4, .int (w8 + 1)), (3, .int v15), (2, .int w8), (6, .int v15), (5, .int r13), (0, .ref (ad t)), (1, .int r2)]) hx hb dX6_bestQuestion_52 hl (k := 6) rfl (congrArg (fun z => w8 + z) ki_1) (by decide) rfl (fun ls hl => ?_)
            refine lv_goto (tgt := 14) hx hb dX6_bestQuestion_55 (by decide) ?_
            exact ih9 w8 v15 (w8 + 1) _ _ _ hP hS (lv_sub hl [5, 6, 2, 1, 0] rfl) hf
    exact L17 FU (-1) r2 0 _ _ _ hP hS (lv_sub hl [4, 3, 2, 1, 0] rfl) hf
  exact main _ _ _ hP hS hl

set_option maxHeartbeats 4000000 in
set_option maxRecDepth 100000 in
theorem ctX7_begin (l : Launch) {t : Nat} {a1 : Nat} {σ σ' : FH} (hf : fX7_begin t a1 σ = some σ') : fx_Mv l yX7_begin cX7_begin 3 none (1) LX (fun ad ec => [.ref (ad t), .ref (ad a1)]) σ σ' := by
  unfold fX7_begin at hf
  obtain ⟨h_t, hf⟩ := fxG_e hf
  obtain ⟨h_a1, hf⟩ := fxG_e hf
  refine fx_mv' (own := RX7) rfl (by decide +kernel) ?_
  intro p e s m args below meth c D cy ad ec A hC hr hk hP hS
  have hx := hC.1
  have hb := hC.2.1
  have hl := lv_entry ([.ref (ad t), .ref (ad a1)]) (n := 3) (Nat.le_of_ble_eq_true rfl)
  show W _ _ _ _ _ _ _ _ _ _ _ _ _ _ _ (entryFrame m ([.ref (ad t), .ref (ad a1)] : List Value).toArray 3)
  rw [lg_entry_eq]
  generalize (lg_sl ([.ref (ad t), .ref (ad a1)]) ++ List.replicate (3 - (lg_sl ([.ref (ad t), .ref (ad a1)])).length) Slot.unset).toArray = ls at hl ⊢
  have hl : lv_has ls 3 [(0, .ref (ad t)), (1, .ref (ad a1))] := hl
  have main : ∀ (H : Heap) (locs : List Loc) (ls : Array Slot), fx_P D cy LX ad σ H → va_S A s.heap H locs → lv_has ls 3 [(0, .ref (ad t)), (1, .ref (ad a1))] → W p l e (fx_R (1)) s m args below meth c H locs 0 0 (fx_Qv D cy LX ad A below args s σ') (F0 m 0 ls []) := by
    intro H locs ls hP hS hl
    refine lv_iconst hx hb dX7_begin_0 ki_0 ?_
    refine lv_istore_n (lv' := [(2, .int 0), (0, .ref (ad t)), (1, .ref (ad a1))]) hx hb dX7_begin_1 rfl hl (by decide) rfl (fun ls hl => ?_)
    obtain ⟨K1, hK1, hf⟩ := fxL_e hf
    have k_K1 : ∀ (σ2 : FH) (H : Heap) (locs : List Loc) (ls : Array Slot), fx_P D cy LX ad σ2 H → va_S A s.heap H locs → lv_has ls 3 [(0, .ref (ad t)), (1, .ref (ad a1))] → K1 σ2 = some σ' → W p l e (fx_R (1)) s m args below meth c H locs 0 0 (fx_Qv D cy LX ad A below args s σ') (F0 m 38 ls []) := by
      intro σ2 H locs ls hP hS hl hf
      replace hf := fxk1 hK1 hf
      refine lv_iconst hx hb dX7_begin_38 ki_0 ?_
      refine lv_istore_n (lv' := [(2, .int 0), (0, .ref (ad t)), (1, .ref (ad a1))]) hx hb dX7_begin_39 rfl hl (by decide) rfl (fun ls hl => ?_)
      obtain ⟨K3, hK3, hf⟩ := fxL_e hf
      have k_K3 : ∀ (σ4 : FH) (H : Heap) (locs : List Loc) (ls : Array Slot), fx_P D cy LX ad σ4 H → va_S A s.heap H locs → lv_has ls 3 [(0, .ref (ad t))] → K3 σ4 = some σ' → W p l e (fx_R (1)) s m args below meth c H locs 0 0 (fx_Qv D cy LX ad A below args s σ') (F0 m 75 ls []) := by
        intro σ4 H locs ls hP hS hl hf
        replace hf := fxk1 hK3 hf
        refine lv_aload_n hx hb dX7_begin_75 rfl (lv_at hl 0 rfl) ?_
        refine lv_iconst hx hb dX7_begin_76 ki_0 ?_
        obtain ⟨σ5, eσ5, hf⟩ := fxL_e hf
        refine pf_X7_33 hC hP hS h_t dX7_begin_77 (fun H locs hP hS => ?_)
        replace hP := fx_Pe eσ5 hP
        refine lv_aload_n hx hb dX7_begin_80 rfl (lv_at hl 0 rfl) ?_
        refine lv_iconst hx hb dX7_begin_81 ki_0 ?_
        obtain ⟨σ6, eσ6, hf⟩ := fxL_e hf
        refine pf_X7_37 hC hP hS h_t dX7_begin_82 (fun H locs hP hS => ?_)
        replace hP := fx_Pe eσ6 hP
        refine lv_aload_n hx hb dX7_begin_85 rfl (lv_at hl 0 rfl) ?_
        refine lv_iconst hx hb dX7_begin_86 ki_0 ?_
        obtain ⟨σ7, eσ7, hf⟩ := fxL_e hf
        refine pf_X7_40 hC hP hS h_t dX7_begin_87 (fun H locs hP hS => ?_)
        replace hP := fx_Pe eσ7 hP
        exact fx_vretf hf hC hr hk hP hS dX7_begin_90
      have L22 : ∀ (n11 : Nat) (w8 : Int32) (σ9 : FH) (H : Heap) (locs : List Loc) (ls : Array Slot), fx_P D cy LX ad σ9 H → va_S A s.heap H locs → lv_has ls 3 [(0, .ref (ad t)), (1, .ref (ad a1)), (2, .int w8)] → fX7_begin_40 t a1 K3 n11 w8 σ9 = some σ' → W p l e (fx_R (1)) s m args below meth c H locs 0 0 (fx_Qv D cy LX ad A below args s σ') (F0 m 40 ls []) := by
        intro n11
        induction n11 with
        | zero =>
          intro w8 σ9 H locs ls hP hS hl hf
          rw [fX7_begin_40] at hf
          cases hf
        | succ n11 ih10 =>
          intro w8 σ9 H locs ls hP hS hl hf
          rw [fX7_begin_40] at hf
          refine lv_iload_n hx hb dX7_begin_40 rfl (lv_at hl 2 rfl) ?_
          refine lv_iconst hx hb dX7_begin_41 ki_5 ?_
          refine lv_icmp_ge (tgt := 75) hx hb dX7_begin_42 (by decide) (fun c12 => ?_) (fun c12 => ?_)
          · replace hf := fx_it c12 hf
            exact k_K3 σ9 _ _ _ hP hS (lv_sub hl [0] rfl) hf
          · replace hf := fx_ie c12 hf
            refine lv_aload_n hx hb dX7_begin_45 rfl (lv_at hl 0 rfl) ?_
            refine gf_X7_15 (v := .ref (ad (t + 2))) hC hP h_t rfl dX7_begin_46 ?_
            refine lv_iload_n hx hb dX7_begin_49 rfl (lv_at hl 2 rfl) ?_
            refine lv_aload_n hx hb dX7_begin_50 rfl (lv_at hl 1 rfl) ?_
            refine lv_iload_n hx hb dX7_begin_51 rfl (lv_at hl 2 rfl) ?_
            obtain ⟨r14, hc13, hf⟩ := fxBP_e hf
            refine fx_ci hC hS (fx_runV (i := a1) (As := [.int w8]) (rest := [.int w8, .ref (ad (t + 2))]) hC hP hS (ctX5_hasParty l hc13 D cy ad ec _) h_a1 (by decide) rfl kMV_X7_27 kC_X5_hasParty hd_X5_hasParty rfl ⟨(Nat.le_of_ble_eq_true rfl), (Nat.le_of_ble_eq_true rfl)⟩ ⟨Nat.le_refl 0, Nat.le_refl 0⟩ hl.1 (Nat.le_of_ble_eq_true rfl) rfl dX7_begin_52) (fun H locs hP hS => ?_)
            obtain ⟨J16, hJ16, hf⟩ := fxL_e hf
            have j_J16 : ∀ (y17 : Int32) (H : Heap) (locs : List Loc) (ls : Array Slot), fx_P D cy LX ad σ9 H → va_S A s.heap H locs → lv_has ls 3 [(0, .ref (ad t)), (1, .ref (ad a1)), (2, .int w8)] → J16 y17 = some σ' → W p l e (fx_R (1)) s m args below meth c H locs 0 0 (fx_Qv D cy LX ad A below args s σ') (F0 m 68 ls [.int y17, .int w8, .ref (ad (t + 2))]) := by
              intro y17 H locs ls hP hS hl hf
              replace hf := fxk1 hJ16 hf
              obtain ⟨h18, hf⟩ := fxG_e hf
              obtain ⟨σ19, eσ19, hf⟩ := fxL_e hf
              refine fx_iast hC hP hS (lyX_7_1 h_t) (fx_inp h18) dX7_begin_68 (fun H locs hP hS => ?_)
              replace hP := fx_Pe eσ19 hP
              refine lv_iinc (v := (w8 + 1)) (lv' := [(2, .int (w8 + 1)), (0, .ref (ad t)), (1, .ref (ad a1))]) hx hb dX7_begin_69 hl (k := 2) rfl (congrArg (fun z => w8 + z) ki_1) (by decide) rfl (fun ls hl => ?_)
              refine lv_goto (tgt := 40) hx hb dX7_begin_72 (by decide) ?_
              exact ih10 (w8 + 1) σ19 _ _ _ hP hS (lv_sub hl [1, 2, 0] rfl) hf
            refine lv_if_eq (tgt := 67) hx hb dX7_begin_55 (by decide) (fun c20 => ?_) (fun c20 => ?_)
            · replace hf := fx_it c20 hf
              refine lv_iconst hx hb dX7_begin_67 ki_0 ?_
              exact j_J16 0 _ _ _ hP hS (lv_sub hl [0, 1, 2] rfl) hf
            · replace hf := fx_ie c20 hf
              refine lv_aload_n hx hb dX7_begin_58 rfl (lv_at hl 1 rfl) ?_
              refine gf_X7_30 (v := .ref (ad (a1 + 6))) hC hP h_a1 rfl dX7_begin_59 ?_
              refine lv_iload_n hx hb dX7_begin_62 rfl (lv_at hl 2 rfl) ?_
              obtain ⟨h21, hf⟩ := fxG_e hf
              refine fx_iald hC hP (lyX_5_7 h_a1) (fx_inp h21) dX7_begin_63 ?_
              refine lv_goto (tgt := 68) hx hb dX7_begin_64 (by decide) ?_
              exact j_J16 (σ9.1 (a1 + 6) (Int32.toNatClampNeg w8)) _ _ _ hP hS (lv_sub hl [0, 1, 2] rfl) hf
      exact L22 FU 0 σ2 _ _ _ hP hS (lv_sub hl [1, 2, 0] rfl) hf
    have L37 : ∀ (n26 : Nat) (w23 : Int32) (σ24 : FH) (H : Heap) (locs : List Loc) (ls : Array Slot), fx_P D cy LX ad σ24 H → va_S A s.heap H locs → lv_has ls 3 [(0, .ref (ad t)), (1, .ref (ad a1)), (2, .int w23)] → fX7_begin_2 t a1 K1 n26 w23 σ24 = some σ' → W p l e (fx_R (1)) s m args below meth c H locs 0 0 (fx_Qv D cy LX ad A below args s σ') (F0 m 2 ls []) := by
      intro n26
      induction n26 with
      | zero =>
        intro w23 σ24 H locs ls hP hS hl hf
        rw [fX7_begin_2] at hf
        cases hf
      | succ n26 ih25 =>
        intro w23 σ24 H locs ls hP hS hl hf
        rw [fX7_begin_2] at hf
        refine lv_iload_n hx hb dX7_begin_2 rfl (lv_at hl 2 rfl) ?_
        refine lv_bipush hx hb dX7_begin_3 kb_6 ?_
        refine lv_icmp_ge (tgt := 38) hx hb dX7_begin_5 (by decide) (fun c27 => ?_) (fun c27 => ?_)
        · replace hf := fx_it c27 hf
          exact k_K1 σ24 _ _ _ hP hS (lv_sub hl [0, 1] rfl) hf
        · replace hf := fx_ie c27 hf
          refine lv_aload_n hx hb dX7_begin_8 rfl (lv_at hl 0 rfl) ?_
          refine gf_X7_9 (v := .ref (ad (t + 1))) hC hP h_t rfl dX7_begin_9 ?_
          refine lv_iload_n hx hb dX7_begin_12 rfl (lv_at hl 2 rfl) ?_
          refine lv_aload_n hx hb dX7_begin_13 rfl (lv_at hl 1 rfl) ?_
          refine lv_iload_n hx hb dX7_begin_14 rfl (lv_at hl 2 rfl) ?_
          obtain ⟨r29, hc28, hf⟩ := fxBP_e hf
          refine fx_ci hC hS (fx_runV (i := a1) (As := [.int w23]) (rest := [.int w23, .ref (ad (t + 1))]) hC hP hS (ctX5_hasWare l hc28 D cy ad ec _) h_a1 (by decide) rfl kMV_X7_18 kC_X5_hasWare hd_X5_hasWare rfl ⟨(Nat.le_of_ble_eq_true rfl), (Nat.le_of_ble_eq_true rfl)⟩ ⟨Nat.le_refl 0, Nat.le_refl 0⟩ hl.1 (Nat.le_of_ble_eq_true rfl) rfl dX7_begin_15) (fun H locs hP hS => ?_)
          obtain ⟨J31, hJ31, hf⟩ := fxL_e hf
          have j_J31 : ∀ (y32 : Int32) (H : Heap) (locs : List Loc) (ls : Array Slot), fx_P D cy LX ad σ24 H → va_S A s.heap H locs → lv_has ls 3 [(0, .ref (ad t)), (1, .ref (ad a1)), (2, .int w23)] → J31 y32 = some σ' → W p l e (fx_R (1)) s m args below meth c H locs 0 0 (fx_Qv D cy LX ad A below args s σ') (F0 m 31 ls [.int y32, .int w23, .ref (ad (t + 1))]) := by
            intro y32 H locs ls hP hS hl hf
            replace hf := fxk1 hJ31 hf
            obtain ⟨h33, hf⟩ := fxG_e hf
            obtain ⟨σ34, eσ34, hf⟩ := fxL_e hf
            refine fx_iast hC hP hS (lyX_7_0 h_t) (fx_inp h33) dX7_begin_31 (fun H locs hP hS => ?_)
            replace hP := fx_Pe eσ34 hP
            refine lv_iinc (v := (w23 + 1)) (lv' := [(2, .int (w23 + 1)), (0, .ref (ad t)), (1, .ref (ad a1))]) hx hb dX7_begin_32 hl (k := 2) rfl (congrArg (fun z => w23 + z) ki_1) (by decide) rfl (fun ls hl => ?_)
            refine lv_goto (tgt := 2) hx hb dX7_begin_35 (by decide) ?_
            exact ih25 (w23 + 1) σ34 _ _ _ hP hS (lv_sub hl [1, 2, 0] rfl) hf
          refine lv_if_eq (tgt := 30) hx hb dX7_begin_18 (by decide) (fun c35 => ?_) (fun c35 => ?_)
          · replace hf := fx_it c35 hf
            refine lv_iconst hx hb dX7_begin_30 ki_0 ?_
            exact j_J31 0 _ _ _ hP hS (lv_sub hl [0, 1, 2] rfl) hf
          · replace hf := fx_ie c35 hf
            refine lv_aload_n hx hb dX7_begin_21 rfl (lv_at hl 1 rfl) ?_
            refine gf_X7_24 (v := .ref (ad (a1 + 4))) hC hP h_a1 rfl dX7_begin_22 ?_
            refine lv_iload_n hx hb dX7_begin_25 rfl (lv_at hl 2 rfl) ?_
            obtain ⟨h36, hf⟩ := fxG_e hf
            refine fx_iald hC hP (lyX_5_4 h_a1) (fx_inp h36) dX7_begin_26 ?_
            refine lv_goto (tgt := 31) hx hb dX7_begin_27 (by decide) ?_
            exact j_J31 (σ24.1 (a1 + 4) (Int32.toNatClampNeg w23)) _ _ _ hP hS (lv_sub hl [0, 1, 2] rfl) hf
    exact L37 FU 0 σ _ _ _ hP hS (lv_sub hl [1, 2, 0] rfl) hf
  exact main _ _ _ hP hS hl

set_option maxHeartbeats 4000000 in
set_option maxRecDepth 100000 in
theorem ctX7_workOn (l : Launch) {t : Nat} {a1 : Nat} {a2 : Int32} {a3 : Int32} {σ σ' : FH} {v : Int32} (hf : fX7_workOn t a1 a2 a3 σ = some (v, σ')) : fx_Mi l yX7_workOn cX7_workOn 7 (some .int) (1) LX (fun ad ec => [.ref (ad t), .ref (ad a1), .int a2, .int a3]) σ v σ' := by
  unfold fX7_workOn at hf
  obtain ⟨h_t, hf⟩ := fxG_e hf
  obtain ⟨h_a1, hf⟩ := fxG_e hf
  refine fx_mi' (own := RX7) rfl (by decide +kernel) ?_
  intro p e s m args below meth c D cy ad ec A hC hr hk hP hS
  have hx := hC.1
  have hb := hC.2.1
  have hl := lv_entry ([.ref (ad t), .ref (ad a1), .int a2, .int a3]) (n := 7) (Nat.le_of_ble_eq_true rfl)
  show W _ _ _ _ _ _ _ _ _ _ _ _ _ _ _ (entryFrame m ([.ref (ad t), .ref (ad a1), .int a2, .int a3] : List Value).toArray 7)
  rw [lg_entry_eq]
  generalize (lg_sl ([.ref (ad t), .ref (ad a1), .int a2, .int a3]) ++ List.replicate (7 - (lg_sl ([.ref (ad t), .ref (ad a1), .int a2, .int a3])).length) Slot.unset).toArray = ls at hl ⊢
  have hl : lv_has ls 7 [(0, .ref (ad t)), (1, .ref (ad a1)), (2, .int a2), (3, .int a3)] := hl
  have main : ∀ (H : Heap) (locs : List Loc) (ls : Array Slot), fx_P D cy LX ad σ H → va_S A s.heap H locs → lv_has ls 7 [(0, .ref (ad t)), (1, .ref (ad a1)), (2, .int a2), (3, .int a3)] → W p l e (fx_R (1)) s m args below meth c H locs 0 0 (fx_Qi D cy LX ad A below args s v σ') (F0 m 0 ls []) := by
    intro H locs ls hP hS hl
    refine lv_aload_n hx hb dX7_workOn_0 rfl (lv_at hl 1 rfl) ?_
    refine lv_iload_n hx hb dX7_workOn_1 rfl (lv_at hl 2 rfl) ?_
    obtain ⟨r2, hc1, hf⟩ := fxBP_e hf
    refine fx_ci hC hS (fx_runV (i := a1) (As := [.int a2]) (rest := []) hC hP hS (ctX5_hasWare l hc1 D cy ad ec _) h_a1 (by decide) rfl kMV_X7_18 kC_X5_hasWare hd_X5_hasWare rfl ⟨(Nat.le_of_ble_eq_true rfl), (Nat.le_of_ble_eq_true rfl)⟩ ⟨Nat.le_refl 0, Nat.le_refl 0⟩ hl.1 (Nat.le_of_ble_eq_true rfl) rfl dX7_workOn_2) (fun H locs hP hS => ?_)
    refine lv_if_ne (tgt := 10) hx hb dX7_workOn_5 (by decide) (fun c4 => ?_) (fun c4 => ?_)
    · replace hf := fx_ie c4 hf
      refine lv_aload_n hx hb dX7_workOn_10 rfl (lv_at hl 1 rfl) ?_
      refine lv_iload_n hx hb dX7_workOn_11 rfl (lv_at hl 2 rfl) ?_
      obtain ⟨r6, hc5, hf⟩ := fxBP_e hf
      refine fx_ci hC hS (fx_runV (i := a1) (As := [.int a2]) (rest := []) hC hP hS (ctX5_halfOf l hc5 D cy ad ec _) h_a1 (by decide) rfl kMV_X7_43 kC_X5_halfOf hd_X5_halfOf rfl ⟨(Nat.le_of_ble_eq_true rfl), (Nat.le_of_ble_eq_true rfl)⟩ ⟨Nat.le_refl 0, Nat.le_refl 0⟩ hl.1 (Nat.le_of_ble_eq_true rfl) rfl dX7_workOn_12) (fun H locs hP hS => ?_)
      refine lv_istore (lv' := [(4, .int r6), (0, .ref (ad t)), (1, .ref (ad a1)), (2, .int a2), (3, .int a3)]) hx hb dX7_workOn_15 hl (by decide) rfl (fun ls hl => ?_)
      refine lv_aload_n hx hb dX7_workOn_17 rfl (lv_at hl 1 rfl) ?_
      refine gf_X7_9 (v := .ref (ad (t + 1))) hC hP h_t rfl dX7_workOn_18 ?_
      refine lv_iload_n hx hb dX7_workOn_21 rfl (lv_at hl 3 rfl) ?_
      obtain ⟨h8, hf⟩ := fxG_e hf
      refine fx_iald hC hP (lyX_7_0 h_t) (fx_inp h8) dX7_workOn_22 ?_
      refine lv_iload_n hx hb dX7_workOn_23 rfl (lv_at hl 4 rfl) ?_
      refine lv_iadd hx hb dX7_workOn_24 ?_
      obtain ⟨v9, ev9, hf⟩ := fxL_e hf
      refine fx_ti ev9 ?_
      refine lv_istore (lv' := [(5, .int v9), (4, .int r6), (0, .ref (ad t)), (1, .ref (ad a1)), (2, .int a2), (3, .int a3)]) hx hb dX7_workOn_25 hl (by decide) rfl (fun ls hl => ?_)
      refine lv_aload_n hx hb dX7_workOn_27 rfl (lv_at hl 2 rfl) ?_
      refine gf_X7_9 (v := .ref (ad (t + 1))) hC hP h_t rfl dX7_workOn_28 ?_
      refine lv_iload_n hx hb dX7_workOn_31 rfl (lv_at hl 4 rfl) ?_
      refine lv_iload hx hb dX7_workOn_32 (lv_at hl 0 rfl) ?_
      refine lv_iload hx hb dX7_workOn_34 (lv_at hl 1 rfl) ?_
      refine fx_min hC hl.1 kL_X7_47 kMt_min kMi kMc_min (Nat.le_of_ble_eq_true rfl) (Nat.le_of_ble_eq_true rfl) ⟨Nat.le_refl 0, Nat.le_refl 0⟩ dX7_workOn_36 ?_
      obtain ⟨h10, hf⟩ := fxG_e hf
      obtain ⟨σ11, eσ11, hf⟩ := fxL_e hf
      refine fx_iast hC hP hS (lyX_7_0 h_t) (fx_inp h10) dX7_workOn_39 (fun H locs hP hS => ?_)
      replace hP := fx_Pe eσ11 hP
      refine lv_iconst hx hb dX7_workOn_40 ki_0 ?_
      refine lv_iload hx hb dX7_workOn_41 (lv_at hl 0 rfl) ?_
      refine lv_iload hx hb dX7_workOn_43 (lv_at hl 1 rfl) ?_
      refine lv_isub hx hb dX7_workOn_45 ?_
      refine fx_max hC hl.1 kL_X7_53 kMt_max kMi kMc_max (Nat.le_of_ble_eq_true rfl) (Nat.le_of_ble_eq_true rfl) ⟨Nat.le_refl 0, Nat.le_refl 0⟩ dX7_workOn_46 ?_
      refine lv_aload_n hx hb dX7_workOn_49 rfl (lv_at hl 3 rfl) ?_
      refine gf_X7_56 (v := .int (σ11.1 a1 9)) hC hP h_a1 rfl dX7_workOn_50 ?_
      refine lv_imul hx hb dX7_workOn_53 ?_
      obtain ⟨v12, ev12, hf⟩ := fxL_e hf
      refine fx_ti ev12 ?_
      refine lv_istore (lv' := [(6, .int v12), (5, .int v9), (4, .int r6), (0, .ref (ad t)), (1, .ref (ad a1)), (2, .int a2), (3, .int a3)]) hx hb dX7_workOn_54 hl (by decide) rfl (fun ls hl => ?_)
      refine lv_aload_n hx hb dX7_workOn_56 rfl (lv_at hl 3 rfl) ?_
      refine lv_dup hx hb dX7_workOn_57 rfl ?_
      refine gf_X7_37 (v := .int (σ11.1 t 3)) hC hP h_t rfl dX7_workOn_58 ?_
      refine lv_iload hx hb dX7_workOn_61 (lv_at hl 0 rfl) ?_
      refine lv_iadd hx hb dX7_workOn_63 ?_
      obtain ⟨σ13, eσ13, hf⟩ := fxL_e hf
      refine pf_X7_37 hC hP hS h_t dX7_workOn_64 (fun H locs hP hS => ?_)
      replace hP := fx_Pe eσ13 hP
      refine lv_iload hx hb dX7_workOn_67 (lv_at hl 0 rfl) ?_
      exact fx_iretf hf hC hr hk hP hS dX7_workOn_69
    · replace hf := fx_it c4 hf
      refine lv_iconst hx hb dX7_workOn_8 ki_0 ?_
      exact fx_iretf hf hC hr hk hP hS dX7_workOn_9
  exact main _ _ _ hP hS hl

set_option maxHeartbeats 4000000 in
set_option maxRecDepth 100000 in
theorem ctX7_takeOff (l : Launch) {t : Nat} {a1 : Int32} {a2 : Int32} {σ σ' : FH} (hf : fX7_takeOff t a1 a2 σ = some σ') : fx_Mv l yX7_takeOff cX7_takeOff 3 none (1) LX (fun ad ec => [.ref (ad t), .int a1, .int a2]) σ σ' := by
  unfold fX7_takeOff at hf
  obtain ⟨h_t, hf⟩ := fxG_e hf
  refine fx_mv' (own := RX7) rfl (by decide +kernel) ?_
  intro p e s m args below meth c D cy ad ec A hC hr hk hP hS
  have hx := hC.1
  have hb := hC.2.1
  have hl := lv_entry ([.ref (ad t), .int a1, .int a2]) (n := 3) (Nat.le_of_ble_eq_true rfl)
  show W _ _ _ _ _ _ _ _ _ _ _ _ _ _ _ (entryFrame m ([.ref (ad t), .int a1, .int a2] : List Value).toArray 3)
  rw [lg_entry_eq]
  generalize (lg_sl ([.ref (ad t), .int a1, .int a2]) ++ List.replicate (3 - (lg_sl ([.ref (ad t), .int a1, .int a2])).length) Slot.unset).toArray = ls at hl ⊢
  have hl : lv_has ls 3 [(0, .ref (ad t)), (1, .int a1), (2, .int a2)] := hl
  have main : ∀ (H : Heap) (locs : List Loc) (ls : Array Slot), fx_P D cy LX ad σ H → va_S A s.heap H locs → lv_has ls 3 [(0, .ref (ad t)), (1, .int a1), (2, .int a2)] → W p l e (fx_R (1)) s m args below meth c H locs 0 0 (fx_Qv D cy LX ad A below args s σ') (F0 m 0 ls []) := by
    intro H locs ls hP hS hl
    refine lv_iload_n hx hb dX7_takeOff_0 rfl (lv_at hl 1 rfl) ?_
    refine lv_if_lt (tgt := 31) hx hb dX7_takeOff_1 (by decide) (fun c1 => ?_) (fun c1 => ?_)
    · replace hf := fx_it c1 hf
      exact fx_vretf hf hC hr hk hP hS dX7_takeOff_31
    · replace hf := fx_ie c1 hf
      refine lv_iload_n hx hb dX7_takeOff_4 rfl (lv_at hl 1 rfl) ?_
      refine lv_aload_n hx hb dX7_takeOff_5 rfl (lv_at hl 0 rfl) ?_
      refine gf_X7_9 (v := .ref (ad (t + 1))) hC hP h_t rfl dX7_takeOff_6 ?_
      refine fx_alen (v := 6) hC hP (lyX_7_0 h_t) (by decide) 0 rfl rfl (by decide) dX7_takeOff_9 ?_
      refine lv_icmp_ge (tgt := 31) hx hb dX7_takeOff_10 (by decide) (fun c2 => ?_) (fun c2 => ?_)
      · replace hf := fx_it c2 hf
        exact fx_vretf hf hC hr hk hP hS dX7_takeOff_31
      · replace hf := fx_ie c2 hf
        refine lv_aload_n hx hb dX7_takeOff_13 rfl (lv_at hl 0 rfl) ?_
        refine gf_X7_9 (v := .ref (ad (t + 1))) hC hP h_t rfl dX7_takeOff_14 ?_
        refine lv_iload_n hx hb dX7_takeOff_17 rfl (lv_at hl 1 rfl) ?_
        refine lv_iconst hx hb dX7_takeOff_18 ki_0 ?_
        refine lv_aload_n hx hb dX7_takeOff_19 rfl (lv_at hl 0 rfl) ?_
        refine gf_X7_9 (v := .ref (ad (t + 1))) hC hP h_t rfl dX7_takeOff_20 ?_
        refine lv_iload_n hx hb dX7_takeOff_23 rfl (lv_at hl 1 rfl) ?_
        obtain ⟨h3, hf⟩ := fxG_e hf
        refine fx_iald hC hP (lyX_7_0 h_t) (fx_inp h3) dX7_takeOff_24 ?_
        refine lv_iload_n hx hb dX7_takeOff_25 rfl (lv_at hl 2 rfl) ?_
        refine lv_isub hx hb dX7_takeOff_26 ?_
        refine fx_max hC hl.1 kL_X7_53 kMt_max kMi kMc_max (Nat.le_of_ble_eq_true rfl) (Nat.le_of_ble_eq_true rfl) ⟨Nat.le_refl 0, Nat.le_refl 0⟩ dX7_takeOff_27 ?_
        obtain ⟨h4, hf⟩ := fxG_e hf
        obtain ⟨σ5, eσ5, hf⟩ := fxL_e hf
        refine fx_iast hC hP hS (lyX_7_0 h_t) (fx_inp h4) dX7_takeOff_30 (fun H locs hP hS => ?_)
        replace hP := fx_Pe eσ5 hP
        exact fx_vretf hf hC hr hk hP hS dX7_takeOff_31
  exact main _ _ _ hP hS hl

set_option maxHeartbeats 4000000 in
set_option maxRecDepth 100000 in
theorem ctX7_isHalf (l : Launch) {t : Nat} {a1 : Nat} {a2 : Int32} {σ : FH} {v : Int32} (hf : fX7_isHalf t a1 a2 σ = some v) : fx_Mi l yX7_isHalf cX7_isHalf 3 (some .boolean) (1) LX (fun ad ec => [.ref (ad t), .ref (ad a1), .int a2]) σ v σ := by
  unfold fX7_isHalf at hf
  obtain ⟨h_t, hf⟩ := fxG_e hf
  obtain ⟨h_a1, hf⟩ := fxG_e hf
  refine fx_mi' (own := RX7) rfl (by decide +kernel) ?_
  intro p e s m args below meth c D cy ad ec A hC hr hk hP hS
  have hx := hC.1
  have hb := hC.2.1
  have hl := lv_entry ([.ref (ad t), .ref (ad a1), .int a2]) (n := 3) (Nat.le_of_ble_eq_true rfl)
  show W _ _ _ _ _ _ _ _ _ _ _ _ _ _ _ (entryFrame m ([.ref (ad t), .ref (ad a1), .int a2] : List Value).toArray 3)
  rw [lg_entry_eq]
  generalize (lg_sl ([.ref (ad t), .ref (ad a1), .int a2]) ++ List.replicate (3 - (lg_sl ([.ref (ad t), .ref (ad a1), .int a2])).length) Slot.unset).toArray = ls at hl ⊢
  have hl : lv_has ls 3 [(0, .ref (ad t)), (1, .ref (ad a1)), (2, .int a2)] := hl
  have main : ∀ (H : Heap) (locs : List Loc) (ls : Array Slot), fx_P D cy LX ad σ H → va_S A s.heap H locs → lv_has ls 3 [(0, .ref (ad t)), (1, .ref (ad a1)), (2, .int a2)] → W p l e (fx_R (1)) s m args below meth c H locs 0 0 (fx_Qi D cy LX ad A below args s v σ) (F0 m 0 ls []) := by
    intro H locs ls hP hS hl
    refine lv_aload_n hx hb dX7_isHalf_0 rfl (lv_at hl 0 rfl) ?_
    refine gf_X7_9 (v := .ref (ad (t + 1))) hC hP h_t rfl dX7_isHalf_1 ?_
    refine lv_iload_n hx hb dX7_isHalf_4 rfl (lv_at hl 2 rfl) ?_
    obtain ⟨h1, hf⟩ := fxG_e hf
    refine fx_iald hC hP (lyX_7_0 h_t) (fx_inp h1) dX7_isHalf_5 ?_
    refine lv_aload_n hx hb dX7_isHalf_6 rfl (lv_at hl 1 rfl) ?_
    refine lv_iload_n hx hb dX7_isHalf_7 rfl (lv_at hl 2 rfl) ?_
    obtain ⟨r3, hc2, hf⟩ := fxBP_e hf
    refine fx_ci hC hS (fx_runV (i := a1) (As := [.int a2]) (rest := [.int (σ.1 (t + 1) (Int32.toNatClampNeg a2))]) hC hP hS (ctX5_halfOf l hc2 D cy ad ec _) h_a1 (by decide) rfl kMV_X7_43 kC_X5_halfOf hd_X5_halfOf rfl ⟨(Nat.le_of_ble_eq_true rfl), (Nat.le_of_ble_eq_true rfl)⟩ ⟨Nat.le_refl 0, Nat.le_refl 0⟩ hl.1 (Nat.le_of_ble_eq_true rfl) rfl dX7_isHalf_8) (fun H locs hP hS => ?_)
    obtain ⟨v5, ev5, hf⟩ := fxL_e hf
    have j_v5 : ∀ (z6 : Int32), z6 = ((if (σ.1 (t + 1) (Int32.toNatClampNeg a2)) < r3 then 0 else 1) : Int32) → ∀ (ls : Array Slot), lv_has ls 3 [] → W p l e (fx_R (1)) s m args below meth c H locs 0 0 (fx_Qi D cy LX ad A below args s v σ) (F0 m 19 ls [.int z6]) := by
      intro z6 hz6 ls hl
      obtain rfl : v5 = z6 := ev5.trans hz6.symm
      obtain ⟨h8, hf⟩ := fxG_e hf
      exact fx_zretp (fx_bon h8) hf hC hr hk hP hS dX7_isHalf_19
    refine lv_icmp_lt (tgt := 18) hx hb dX7_isHalf_11 (by decide) (fun c7 => ?_) (fun c7 => ?_)
    · refine lv_iconst hx hb dX7_isHalf_18 ki_0 ?_
      exact j_v5 0 (if_pos c7).symm ls (lv_sub hl [] rfl)
    · refine lv_iconst hx hb dX7_isHalf_14 ki_1 ?_
      refine lv_goto (tgt := 19) hx hb dX7_isHalf_15 (by decide) ?_
      exact j_v5 1 (if_neg c7).symm ls (lv_sub hl [] rfl)
  exact main _ _ _ hP hS hl

set_option maxHeartbeats 4000000 in
set_option maxRecDepth 100000 in
theorem ctX7_canJoin (l : Launch) {t : Nat} {a1 : Nat} {a2 : Int32} {a3 : Int32} {σ : FH} {v : Int32} (hf : fX7_canJoin t a1 a2 a3 σ = some v) : fx_Mi l yX7_canJoin cX7_canJoin 4 (some .boolean) (2) LX (fun ad ec => [.ref (ad t), .ref (ad a1), .int a2, .int a3]) σ v σ := by
  unfold fX7_canJoin at hf
  obtain ⟨h_t, hf⟩ := fxG_e hf
  obtain ⟨h_a1, hf⟩ := fxG_e hf
  refine fx_mi' (own := RX7) rfl (by decide +kernel) ?_
  intro p e s m args below meth c D cy ad ec A hC hr hk hP hS
  have hx := hC.1
  have hb := hC.2.1
  have hl := lv_entry ([.ref (ad t), .ref (ad a1), .int a2, .int a3]) (n := 4) (Nat.le_of_ble_eq_true rfl)
  show W _ _ _ _ _ _ _ _ _ _ _ _ _ _ _ (entryFrame m ([.ref (ad t), .ref (ad a1), .int a2, .int a3] : List Value).toArray 4)
  rw [lg_entry_eq]
  generalize (lg_sl ([.ref (ad t), .ref (ad a1), .int a2, .int a3]) ++ List.replicate (4 - (lg_sl ([.ref (ad t), .ref (ad a1), .int a2, .int a3])).length) Slot.unset).toArray = ls at hl ⊢
  have hl : lv_has ls 4 [(0, .ref (ad t)), (1, .ref (ad a1)), (2, .int a2), (3, .int a3)] := hl
  have main : ∀ (H : Heap) (locs : List Loc) (ls : Array Slot), fx_P D cy LX ad σ H → va_S A s.heap H locs → lv_has ls 4 [(0, .ref (ad t)), (1, .ref (ad a1)), (2, .int a2), (3, .int a3)] → W p l e (fx_R (2)) s m args below meth c H locs 0 0 (fx_Qi D cy LX ad A below args s v σ) (F0 m 0 ls []) := by
    intro H locs ls hP hS hl
    refine lv_aload_n hx hb dX7_canJoin_0 rfl (lv_at hl 1 rfl) ?_
    refine lv_iload_n hx hb dX7_canJoin_1 rfl (lv_at hl 2 rfl) ?_
    refine lv_iload_n hx hb dX7_canJoin_2 rfl (lv_at hl 3 rfl) ?_
    obtain ⟨r2, hc1, hf⟩ := fxBP_e hf
    refine fx_ci hC hS (fx_runV (i := a1) (As := [.int a2, .int a3]) (rest := []) hC hP hS (ctX5_couldPair l hc1 D cy ad ec _) h_a1 (by decide) rfl kMV_X7_59 kC_X5_couldPair hd_X5_couldPair rfl ⟨(Nat.le_of_ble_eq_true rfl), (Nat.le_of_ble_eq_true rfl)⟩ ⟨Nat.le_refl 0, Nat.le_refl 0⟩ hl.1 (Nat.le_of_ble_eq_true rfl) rfl dX7_canJoin_3) (fun H locs hP hS => ?_)
    refine lv_if_eq (tgt := 31) hx hb dX7_canJoin_6 (by decide) (fun c4 => ?_) (fun c4 => ?_)
    · replace hf := fx_it c4 hf
      refine lv_iconst hx hb dX7_canJoin_31 ki_0 ?_
      exact fx_zretp rfl hf hC hr hk hP hS dX7_canJoin_32
    · replace hf := fx_ie c4 hf
      refine lv_aload_n hx hb dX7_canJoin_9 rfl (lv_at hl 0 rfl) ?_
      refine lv_aload_n hx hb dX7_canJoin_10 rfl (lv_at hl 1 rfl) ?_
      refine lv_iload_n hx hb dX7_canJoin_11 rfl (lv_at hl 2 rfl) ?_
      obtain ⟨r6, hc5, hf⟩ := fxBP_e hf
      refine fx_ci hC hS (fx_runV (i := t) (As := [.ref (ad a1), .int a2]) (rest := []) hC hP hS (ctX7_isHalf l hc5 D cy ad ec _) h_t (by decide) rfl kMV_X7_63 kC_X7_isHalf hd_X7_isHalf rfl ⟨(Nat.le_of_ble_eq_true rfl), (Nat.le_of_ble_eq_true rfl)⟩ ⟨Nat.le_refl 0, Nat.le_refl 0⟩ hl.1 (Nat.le_of_ble_eq_true rfl) rfl dX7_canJoin_12) (fun H locs hP hS => ?_)
      refine lv_if_eq (tgt := 31) hx hb dX7_canJoin_15 (by decide) (fun c8 => ?_) (fun c8 => ?_)
      · replace hf := fx_it c8 hf
        refine lv_iconst hx hb dX7_canJoin_31 ki_0 ?_
        exact fx_zretp rfl hf hC hr hk hP hS dX7_canJoin_32
      · replace hf := fx_ie c8 hf
        refine lv_aload_n hx hb dX7_canJoin_18 rfl (lv_at hl 0 rfl) ?_
        refine lv_aload_n hx hb dX7_canJoin_19 rfl (lv_at hl 1 rfl) ?_
        refine lv_iload_n hx hb dX7_canJoin_20 rfl (lv_at hl 3 rfl) ?_
        obtain ⟨r10, hc9, hf⟩ := fxBP_e hf
        refine fx_ci hC hS (fx_runV (i := t) (As := [.ref (ad a1), .int a3]) (rest := []) hC hP hS (ctX7_isHalf l hc9 D cy ad ec _) h_t (by decide) rfl kMV_X7_63 kC_X7_isHalf hd_X7_isHalf rfl ⟨(Nat.le_of_ble_eq_true rfl), (Nat.le_of_ble_eq_true rfl)⟩ ⟨Nat.le_refl 0, Nat.le_refl 0⟩ hl.1 (Nat.le_of_ble_eq_true rfl) rfl dX7_canJoin_21) (fun H locs hP hS => ?_)
        refine lv_if_eq (tgt := 31) hx hb dX7_canJoin_24 (by decide) (fun c12 => ?_) (fun c12 => ?_)
        · replace hf := fx_it c12 hf
          refine lv_iconst hx hb dX7_canJoin_31 ki_0 ?_
          exact fx_zretp rfl hf hC hr hk hP hS dX7_canJoin_32
        · replace hf := fx_ie c12 hf
          refine lv_iconst hx hb dX7_canJoin_27 ki_1 ?_
          refine lv_goto (tgt := 32) hx hb dX7_canJoin_28 (by decide) ?_
          exact fx_zretp rfl hf hC hr hk hP hS dX7_canJoin_32
  exact main _ _ _ hP hS hl

set_option maxHeartbeats 4000000 in
set_option maxRecDepth 100000 in
theorem ctX7_arrest (l : Launch) {t : Nat} {a1 : Nat} {a2 : Int32} {a3 : Int32} {σ σ' : FH} (hf : fX7_arrest t a1 a2 a3 σ = some σ') : fx_Mv l yX7_arrest cX7_arrest 4 none (0) LX (fun ad ec => [.ref (ad t), .ref (ad a1), .int a2, .int a3]) σ σ' := by
  unfold fX7_arrest at hf
  obtain ⟨h_t, hf⟩ := fxG_e hf
  obtain ⟨h_a1, hf⟩ := fxG_e hf
  refine fx_mv' (own := RX7) rfl (by decide +kernel) ?_
  intro p e s m args below meth c D cy ad ec A hC hr hk hP hS
  have hx := hC.1
  have hb := hC.2.1
  have hl := lv_entry ([.ref (ad t), .ref (ad a1), .int a2, .int a3]) (n := 4) (Nat.le_of_ble_eq_true rfl)
  show W _ _ _ _ _ _ _ _ _ _ _ _ _ _ _ (entryFrame m ([.ref (ad t), .ref (ad a1), .int a2, .int a3] : List Value).toArray 4)
  rw [lg_entry_eq]
  generalize (lg_sl ([.ref (ad t), .ref (ad a1), .int a2, .int a3]) ++ List.replicate (4 - (lg_sl ([.ref (ad t), .ref (ad a1), .int a2, .int a3])).length) Slot.unset).toArray = ls at hl ⊢
  have hl : lv_has ls 4 [(0, .ref (ad t)), (1, .ref (ad a1)), (2, .int a2), (3, .int a3)] := hl
  have main : ∀ (H : Heap) (locs : List Loc) (ls : Array Slot), fx_P D cy LX ad σ H → va_S A s.heap H locs → lv_has ls 4 [(0, .ref (ad t)), (1, .ref (ad a1)), (2, .int a2), (3, .int a3)] → W p l e (fx_R (0)) s m args below meth c H locs 0 0 (fx_Qv D cy LX ad A below args s σ') (F0 m 0 ls []) := by
    intro H locs ls hP hS hl
    refine lv_aload_n hx hb dX7_arrest_0 rfl (lv_at hl 0 rfl) ?_
    refine gf_X7_9 (v := .ref (ad (t + 1))) hC hP h_t rfl dX7_arrest_1 ?_
    refine lv_iload_n hx hb dX7_arrest_4 rfl (lv_at hl 2 rfl) ?_
    refine lv_iconst hx hb dX7_arrest_5 ki_0 ?_
    obtain ⟨h1, hf⟩ := fxG_e hf
    obtain ⟨σ2, eσ2, hf⟩ := fxL_e hf
    refine fx_iast hC hP hS (lyX_7_0 h_t) (fx_inp h1) dX7_arrest_6 (fun H locs hP hS => ?_)
    replace hP := fx_Pe eσ2 hP
    refine lv_aload_n hx hb dX7_arrest_7 rfl (lv_at hl 0 rfl) ?_
    refine gf_X7_9 (v := .ref (ad (t + 1))) hC hP h_t rfl dX7_arrest_8 ?_
    refine lv_iload_n hx hb dX7_arrest_11 rfl (lv_at hl 3 rfl) ?_
    refine lv_iconst hx hb dX7_arrest_12 ki_0 ?_
    obtain ⟨h3, hf⟩ := fxG_e hf
    obtain ⟨σ4, eσ4, hf⟩ := fxL_e hf
    refine fx_iast hC hP hS (lyX_7_0 h_t) (fx_inp h3) dX7_arrest_13 (fun H locs hP hS => ?_)
    replace hP := fx_Pe eσ4 hP
    refine lv_aload_n hx hb dX7_arrest_14 rfl (lv_at hl 0 rfl) ?_
    refine lv_dup hx hb dX7_arrest_15 rfl ?_
    refine gf_X7_37 (v := .int (σ4.1 t 3)) hC hP h_t rfl dX7_arrest_16 ?_
    refine lv_bipush hx hb dX7_arrest_19 kb_10 ?_
    refine lv_aload_n hx hb dX7_arrest_21 rfl (lv_at hl 1 rfl) ?_
    refine gf_X7_56 (v := .int (σ4.1 a1 9)) hC hP h_a1 rfl dX7_arrest_22 ?_
    refine lv_imul hx hb dX7_arrest_25 ?_
    refine lv_iadd hx hb dX7_arrest_26 ?_
    obtain ⟨σ5, eσ5, hf⟩ := fxL_e hf
    refine pf_X7_37 hC hP hS h_t dX7_arrest_27 (fun H locs hP hS => ?_)
    replace hP := fx_Pe eσ5 hP
    refine lv_aload_n hx hb dX7_arrest_30 rfl (lv_at hl 0 rfl) ?_
    refine lv_dup hx hb dX7_arrest_31 rfl ?_
    refine gf_X7_40 (v := .int (σ5.1 t 4)) hC hP h_t rfl dX7_arrest_32 ?_
    refine lv_iconst hx hb dX7_arrest_35 ki_1 ?_
    refine lv_iadd hx hb dX7_arrest_36 ?_
    obtain ⟨σ6, eσ6, hf⟩ := fxL_e hf
    refine pf_X7_40 hC hP hS h_t dX7_arrest_37 (fun H locs hP hS => ?_)
    replace hP := fx_Pe eσ6 hP
    exact fx_vretf hf hC hr hk hP hS dX7_arrest_40
  exact main _ _ _ hP hS hl

set_option maxHeartbeats 4000000 in
set_option maxRecDepth 100000 in
theorem ctX7_canLend (l : Launch) {t : Nat} {a1 : Nat} {a2 : Int32} {a3 : Int32} {a4 : Int32} {σ : FH} {v : Int32} (hf : fX7_canLend t a1 a2 a3 a4 σ = some v) : fx_Mi l yX7_canLend cX7_canLend 5 (some .boolean) (1) LX (fun ad ec => [.ref (ad t), .ref (ad a1), .int a2, .int a3, .int a4]) σ v σ := by
  unfold fX7_canLend at hf
  obtain ⟨h_t, hf⟩ := fxG_e hf
  obtain ⟨h_a1, hf⟩ := fxG_e hf
  refine fx_mi' (own := RX7) rfl (by decide +kernel) ?_
  intro p e s m args below meth c D cy ad ec A hC hr hk hP hS
  have hx := hC.1
  have hb := hC.2.1
  have hl := lv_entry ([.ref (ad t), .ref (ad a1), .int a2, .int a3, .int a4]) (n := 5) (Nat.le_of_ble_eq_true rfl)
  show W _ _ _ _ _ _ _ _ _ _ _ _ _ _ _ (entryFrame m ([.ref (ad t), .ref (ad a1), .int a2, .int a3, .int a4] : List Value).toArray 5)
  rw [lg_entry_eq]
  generalize (lg_sl ([.ref (ad t), .ref (ad a1), .int a2, .int a3, .int a4]) ++ List.replicate (5 - (lg_sl ([.ref (ad t), .ref (ad a1), .int a2, .int a3, .int a4])).length) Slot.unset).toArray = ls at hl ⊢
  have hl : lv_has ls 5 [(0, .ref (ad t)), (1, .ref (ad a1)), (2, .int a2), (3, .int a3), (4, .int a4)] := hl
  have main : ∀ (H : Heap) (locs : List Loc) (ls : Array Slot), fx_P D cy LX ad σ H → va_S A s.heap H locs → lv_has ls 5 [(0, .ref (ad t)), (1, .ref (ad a1)), (2, .int a2), (3, .int a3), (4, .int a4)] → W p l e (fx_R (1)) s m args below meth c H locs 0 0 (fx_Qi D cy LX ad A below args s v σ) (F0 m 0 ls []) := by
    intro H locs ls hP hS hl
    refine lv_aload_n hx hb dX7_canLend_0 rfl (lv_at hl 1 rfl) ?_
    refine lv_iload_n hx hb dX7_canLend_1 rfl (lv_at hl 2 rfl) ?_
    obtain ⟨r2, hc1, hf⟩ := fxBP_e hf
    refine fx_ci hC hS (fx_runV (i := a1) (As := [.int a2]) (rest := []) hC hP hS (ctX5_hasParty l hc1 D cy ad ec _) h_a1 (by decide) rfl kMV_X7_27 kC_X5_hasParty hd_X5_hasParty rfl ⟨(Nat.le_of_ble_eq_true rfl), (Nat.le_of_ble_eq_true rfl)⟩ ⟨Nat.le_refl 0, Nat.le_refl 0⟩ hl.1 (Nat.le_of_ble_eq_true rfl) rfl dX7_canLend_2) (fun H locs hP hS => ?_)
    refine lv_if_eq (tgt := 50) hx hb dX7_canLend_5 (by decide) (fun c4 => ?_) (fun c4 => ?_)
    · replace hf := fx_it c4 hf
      refine lv_iconst hx hb dX7_canLend_50 ki_0 ?_
      exact fx_zretp rfl hf hC hr hk hP hS dX7_canLend_51
    · replace hf := fx_ie c4 hf
      refine lv_aload_n hx hb dX7_canLend_8 rfl (lv_at hl 1 rfl) ?_
      refine lv_iload_n hx hb dX7_canLend_9 rfl (lv_at hl 3 rfl) ?_
      obtain ⟨r6, hc5, hf⟩ := fxBP_e hf
      refine fx_ci hC hS (fx_runV (i := a1) (As := [.int a3]) (rest := []) hC hP hS (ctX5_hasParty l hc5 D cy ad ec _) h_a1 (by decide) rfl kMV_X7_27 kC_X5_hasParty hd_X5_hasParty rfl ⟨(Nat.le_of_ble_eq_true rfl), (Nat.le_of_ble_eq_true rfl)⟩ ⟨Nat.le_refl 0, Nat.le_refl 0⟩ hl.1 (Nat.le_of_ble_eq_true rfl) rfl dX7_canLend_10) (fun H locs hP hS => ?_)
      refine lv_if_eq (tgt := 50) hx hb dX7_canLend_13 (by decide) (fun c8 => ?_) (fun c8 => ?_)
      · replace hf := fx_it c8 hf
        refine lv_iconst hx hb dX7_canLend_50 ki_0 ?_
        exact fx_zretp rfl hf hC hr hk hP hS dX7_canLend_51
      · replace hf := fx_ie c8 hf
        refine lv_iload_n hx hb dX7_canLend_16 rfl (lv_at hl 2 rfl) ?_
        refine lv_iload_n hx hb dX7_canLend_17 rfl (lv_at hl 3 rfl) ?_
        refine lv_icmp_eq (tgt := 50) hx hb dX7_canLend_18 (by decide) (fun c9 => ?_) (fun c9 => ?_)
        · replace hf := fx_it c9 hf
          refine lv_iconst hx hb dX7_canLend_50 ki_0 ?_
          exact fx_zretp rfl hf hC hr hk hP hS dX7_canLend_51
        · replace hf := fx_ie c9 hf
          refine lv_aload_n hx hb dX7_canLend_21 rfl (lv_at hl 0 rfl) ?_
          refine gf_X7_15 (v := .ref (ad (t + 2))) hC hP h_t rfl dX7_canLend_22 ?_
          refine lv_iload_n hx hb dX7_canLend_25 rfl (lv_at hl 2 rfl) ?_
          obtain ⟨h10, hf⟩ := fxG_e hf
          refine fx_iald hC hP (lyX_7_1 h_t) (fx_inp h10) dX7_canLend_26 ?_
          refine lv_iload hx hb dX7_canLend_27 (lv_at hl 4 rfl) ?_
          refine lv_icmp_lt (tgt := 50) hx hb dX7_canLend_29 (by decide) (fun c11 => ?_) (fun c11 => ?_)
          · replace hf := fx_it c11 hf
            refine lv_iconst hx hb dX7_canLend_50 ki_0 ?_
            exact fx_zretp rfl hf hC hr hk hP hS dX7_canLend_51
          · replace hf := fx_ie c11 hf
            refine lv_aload_n hx hb dX7_canLend_32 rfl (lv_at hl 0 rfl) ?_
            refine gf_X7_15 (v := .ref (ad (t + 2))) hC hP h_t rfl dX7_canLend_33 ?_
            refine lv_iload_n hx hb dX7_canLend_36 rfl (lv_at hl 3 rfl) ?_
            obtain ⟨h12, hf⟩ := fxG_e hf
            refine fx_iald hC hP (lyX_7_1 h_t) (fx_inp h12) dX7_canLend_37 ?_
            refine lv_iload hx hb dX7_canLend_38 (lv_at hl 4 rfl) ?_
            refine lv_iadd hx hb dX7_canLend_40 ?_
            refine lv_bipush hx hb dX7_canLend_41 kb_99 ?_
            refine lv_icmp_gt (tgt := 50) hx hb dX7_canLend_43 (by decide) (fun c13 => ?_) (fun c13 => ?_)
            · replace hf := fx_it c13 hf
              refine lv_iconst hx hb dX7_canLend_50 ki_0 ?_
              exact fx_zretp rfl hf hC hr hk hP hS dX7_canLend_51
            · replace hf := fx_ie c13 hf
              refine lv_iconst hx hb dX7_canLend_46 ki_1 ?_
              refine lv_goto (tgt := 51) hx hb dX7_canLend_47 (by decide) ?_
              exact fx_zretp rfl hf hC hr hk hP hS dX7_canLend_51
  exact main _ _ _ hP hS hl

set_option maxHeartbeats 4000000 in
set_option maxRecDepth 100000 in
theorem ctX7_moveSeats (l : Launch) {t : Nat} {a1 : Int32} {a2 : Int32} {a3 : Int32} {σ σ' : FH} (hf : fX7_moveSeats t a1 a2 a3 σ = some σ') : fx_Mv l yX7_moveSeats cX7_moveSeats 4 none (0) LX (fun ad ec => [.ref (ad t), .int a1, .int a2, .int a3]) σ σ' := by
  unfold fX7_moveSeats at hf
  obtain ⟨h_t, hf⟩ := fxG_e hf
  refine fx_mv' (own := RX7) rfl (by decide +kernel) ?_
  intro p e s m args below meth c D cy ad ec A hC hr hk hP hS
  have hx := hC.1
  have hb := hC.2.1
  have hl := lv_entry ([.ref (ad t), .int a1, .int a2, .int a3]) (n := 4) (Nat.le_of_ble_eq_true rfl)
  show W _ _ _ _ _ _ _ _ _ _ _ _ _ _ _ (entryFrame m ([.ref (ad t), .int a1, .int a2, .int a3] : List Value).toArray 4)
  rw [lg_entry_eq]
  generalize (lg_sl ([.ref (ad t), .int a1, .int a2, .int a3]) ++ List.replicate (4 - (lg_sl ([.ref (ad t), .int a1, .int a2, .int a3])).length) Slot.unset).toArray = ls at hl ⊢
  have hl : lv_has ls 4 [(0, .ref (ad t)), (1, .int a1), (2, .int a2), (3, .int a3)] := hl
  have main : ∀ (H : Heap) (locs : List Loc) (ls : Array Slot), fx_P D cy LX ad σ H → va_S A s.heap H locs → lv_has ls 4 [(0, .ref (ad t)), (1, .int a1), (2, .int a2), (3, .int a3)] → W p l e (fx_R (0)) s m args below meth c H locs 0 0 (fx_Qv D cy LX ad A below args s σ') (F0 m 0 ls []) := by
    intro H locs ls hP hS hl
    refine lv_aload_n hx hb dX7_moveSeats_0 rfl (lv_at hl 0 rfl) ?_
    refine gf_X7_15 (v := .ref (ad (t + 2))) hC hP h_t rfl dX7_moveSeats_1 ?_
    refine lv_iload_n hx hb dX7_moveSeats_4 rfl (lv_at hl 1 rfl) ?_
    refine lv_dup2_11 hx hb dX7_moveSeats_5 rfl rfl ?_
    obtain ⟨h1, hf⟩ := fxG_e hf
    refine fx_iald hC hP (lyX_7_1 h_t) (fx_inp h1) dX7_moveSeats_6 ?_
    refine lv_iload_n hx hb dX7_moveSeats_7 rfl (lv_at hl 3 rfl) ?_
    refine lv_isub hx hb dX7_moveSeats_8 ?_
    obtain ⟨h2, hf⟩ := fxG_e hf
    obtain ⟨σ3, eσ3, hf⟩ := fxL_e hf
    refine fx_iast hC hP hS (lyX_7_1 h_t) (fx_inp h2) dX7_moveSeats_9 (fun H locs hP hS => ?_)
    replace hP := fx_Pe eσ3 hP
    refine lv_aload_n hx hb dX7_moveSeats_10 rfl (lv_at hl 0 rfl) ?_
    refine gf_X7_15 (v := .ref (ad (t + 2))) hC hP h_t rfl dX7_moveSeats_11 ?_
    refine lv_iload_n hx hb dX7_moveSeats_14 rfl (lv_at hl 2 rfl) ?_
    refine lv_dup2_11 hx hb dX7_moveSeats_15 rfl rfl ?_
    obtain ⟨h4, hf⟩ := fxG_e hf
    refine fx_iald hC hP (lyX_7_1 h_t) (fx_inp h4) dX7_moveSeats_16 ?_
    refine lv_iload_n hx hb dX7_moveSeats_17 rfl (lv_at hl 3 rfl) ?_
    refine lv_iadd hx hb dX7_moveSeats_18 ?_
    obtain ⟨h5, hf⟩ := fxG_e hf
    obtain ⟨σ6, eσ6, hf⟩ := fxL_e hf
    refine fx_iast hC hP hS (lyX_7_1 h_t) (fx_inp h5) dX7_moveSeats_19 (fun H locs hP hS => ?_)
    replace hP := fx_Pe eσ6 hP
    exact fx_vretf hf hC hr hk hP hS dX7_moveSeats_20
  exact main _ _ _ hP hS hl

set_option maxHeartbeats 4000000 in
set_option maxRecDepth 100000 in
theorem ctX7_votesFor (l : Launch) {t : Nat} {a1 : Nat} {a2 : Int32} {σ : FH} {v : Int32} (hf : fX7_votesFor t a1 a2 σ = some v) : fx_Mi l yX7_votesFor cX7_votesFor 5 (some .int) (1) LX (fun ad ec => [.ref (ad t), .ref (ad a1), .int a2]) σ v σ := by
  unfold fX7_votesFor at hf
  obtain ⟨h_t, hf⟩ := fxG_e hf
  obtain ⟨h_a1, hf⟩ := fxG_e hf
  refine fx_mi' (own := RX7) rfl (by decide +kernel) ?_
  intro p e s m args below meth c D cy ad ec A hC hr hk hP hS
  have hx := hC.1
  have hb := hC.2.1
  have hl := lv_entry ([.ref (ad t), .ref (ad a1), .int a2]) (n := 5) (Nat.le_of_ble_eq_true rfl)
  show W _ _ _ _ _ _ _ _ _ _ _ _ _ _ _ (entryFrame m ([.ref (ad t), .ref (ad a1), .int a2] : List Value).toArray 5)
  rw [lg_entry_eq]
  generalize (lg_sl ([.ref (ad t), .ref (ad a1), .int a2]) ++ List.replicate (5 - (lg_sl ([.ref (ad t), .ref (ad a1), .int a2])).length) Slot.unset).toArray = ls at hl ⊢
  have hl : lv_has ls 5 [(0, .ref (ad t)), (1, .ref (ad a1)), (2, .int a2)] := hl
  have main : ∀ (H : Heap) (locs : List Loc) (ls : Array Slot), fx_P D cy LX ad σ H → va_S A s.heap H locs → lv_has ls 5 [(0, .ref (ad t)), (1, .ref (ad a1)), (2, .int a2)] → W p l e (fx_R (1)) s m args below meth c H locs 0 0 (fx_Qi D cy LX ad A below args s v σ) (F0 m 0 ls []) := by
    intro H locs ls hP hS hl
    refine lv_iconst hx hb dX7_votesFor_0 ki_0 ?_
    refine lv_istore_n (lv' := [(3, .int 0), (0, .ref (ad t)), (1, .ref (ad a1)), (2, .int a2)]) hx hb dX7_votesFor_1 rfl hl (by decide) rfl (fun ls hl => ?_)
    refine lv_iconst hx hb dX7_votesFor_2 ki_0 ?_
    refine lv_istore (lv' := [(4, .int 0), (3, .int 0), (0, .ref (ad t)), (1, .ref (ad a1)), (2, .int a2)]) hx hb dX7_votesFor_3 hl (by decide) rfl (fun ls hl => ?_)
    obtain ⟨K1, hK1, hf⟩ := fxL_e hf
    have k_K1 : ∀ (x2 : Int32) (H : Heap) (locs : List Loc) (ls : Array Slot), fx_P D cy LX ad σ H → va_S A s.heap H locs → lv_has ls 5 [(3, .int x2)] → K1 x2 = some v → W p l e (fx_R (1)) s m args below meth c H locs 0 0 (fx_Qi D cy LX ad A below args s v σ) (F0 m 40 ls []) := by
      intro x2 H locs ls hP hS hl hf
      replace hf := fxk1 hK1 hf
      refine lv_iload_n hx hb dX7_votesFor_40 rfl (lv_at hl 0 rfl) ?_
      exact fx_iretp hf hC hr hk hP hS dX7_votesFor_41
    have L14 : ∀ (n6 : Nat) (w3 : Int32) (w4 : Int32) (H : Heap) (locs : List Loc) (ls : Array Slot), fx_P D cy LX ad σ H → va_S A s.heap H locs → lv_has ls 5 [(0, .ref (ad t)), (1, .ref (ad a1)), (2, .int a2), (3, .int w3), (4, .int w4)] → fX7_votesFor_5 t a1 a2 σ K1 n6 w3 w4 = some v → W p l e (fx_R (1)) s m args below meth c H locs 0 0 (fx_Qi D cy LX ad A below args s v σ) (F0 m 5 ls []) := by
      intro n6
      induction n6 with
      | zero =>
        intro w3 w4 H locs ls hP hS hl hf
        rw [fX7_votesFor_5] at hf
        cases hf
      | succ n6 ih5 =>
        intro w3 w4 H locs ls hP hS hl hf
        rw [fX7_votesFor_5] at hf
        refine lv_iload hx hb dX7_votesFor_5 (lv_at hl 4 rfl) ?_
        refine lv_aload_n hx hb dX7_votesFor_7 rfl (lv_at hl 1 rfl) ?_
        refine gf_X7_123 (v := .int (σ.1 a1 5)) hC hP h_a1 rfl dX7_votesFor_8 ?_
        refine lv_icmp_ge (tgt := 40) hx hb dX7_votesFor_11 (by decide) (fun c7 => ?_) (fun c7 => ?_)
        · replace hf := fx_it c7 hf
          exact k_K1 w3 _ _ _ hP hS (lv_sub hl [3] rfl) hf
        · replace hf := fx_ie c7 hf
          refine lv_aload_n hx hb dX7_votesFor_14 rfl (lv_at hl 1 rfl) ?_
          refine lv_iload hx hb dX7_votesFor_15 (lv_at hl 4 rfl) ?_
          refine lv_iload_n hx hb dX7_votesFor_17 rfl (lv_at hl 2 rfl) ?_
          obtain ⟨r9, hc8, hf⟩ := fxBP_e hf
          refine fx_ci hC hS (fx_runV (i := a1) (As := [.int w4, .int a2]) (rest := []) hC hP hS (ctX5_isFor l hc8 D cy ad ec _) h_a1 (by decide) rfl kMV_X7_126 kC_X5_isFor hd_X5_isFor rfl ⟨(Nat.le_of_ble_eq_true rfl), (Nat.le_of_ble_eq_true rfl)⟩ ⟨Nat.le_refl 0, Nat.le_refl 0⟩ hl.1 (Nat.le_of_ble_eq_true rfl) rfl dX7_votesFor_18) (fun H locs hP hS => ?_)
          refine lv_if_eq (tgt := 34) hx hb dX7_votesFor_21 (by decide) (fun c11 => ?_) (fun c11 => ?_)
          · replace hf := fx_it c11 hf
            refine lv_iinc (v := (w4 + 1)) (lv' := [(4, .int (w4 + 1)), (0, .ref (ad t)), (1, .ref (ad a1)), (2, .int a2), (3, .int w3)]) hx hb dX7_votesFor_34 hl (k := 4) rfl (congrArg (fun z => w4 + z) ki_1) (by decide) rfl (fun ls hl => ?_)
            refine lv_goto (tgt := 5) hx hb dX7_votesFor_37 (by decide) ?_
            exact ih5 w3 (w4 + 1) _ _ _ hP hS (lv_sub hl [1, 2, 3, 4, 0] rfl) hf
          · replace hf := fx_ie c11 hf
            refine lv_iload_n hx hb dX7_votesFor_24 rfl (lv_at hl 3 rfl) ?_
            refine lv_aload_n hx hb dX7_votesFor_25 rfl (lv_at hl 0 rfl) ?_
            refine gf_X7_15 (v := .ref (ad (t + 2))) hC hP h_t rfl dX7_votesFor_26 ?_
            refine lv_iload hx hb dX7_votesFor_29 (lv_at hl 4 rfl) ?_
            obtain ⟨h12, hf⟩ := fxG_e hf
            refine fx_iald hC hP (lyX_7_1 h_t) (fx_inp h12) dX7_votesFor_31 ?_
            refine lv_iadd hx hb dX7_votesFor_32 ?_
            obtain ⟨v13, ev13, hf⟩ := fxL_e hf
            refine fx_ti ev13 ?_
            refine lv_istore_n (lv' := [(3, .int v13), (0, .ref (ad t)), (1, .ref (ad a1)), (2, .int a2), (4, .int w4)]) hx hb dX7_votesFor_33 rfl hl (by decide) rfl (fun ls hl => ?_)
            refine lv_iinc (v := (w4 + 1)) (lv' := [(4, .int (w4 + 1)), (3, .int v13), (0, .ref (ad t)), (1, .ref (ad a1)), (2, .int a2)]) hx hb dX7_votesFor_34 hl (k := 4) rfl (congrArg (fun z => w4 + z) ki_1) (by decide) rfl (fun ls hl => ?_)
            refine lv_goto (tgt := 5) hx hb dX7_votesFor_37 (by decide) ?_
            exact ih5 v13 (w4 + 1) _ _ _ hP hS (lv_sub hl [2, 3, 4, 1, 0] rfl) hf
    exact L14 FU 0 0 _ _ _ hP hS (lv_sub hl [2, 3, 4, 1, 0] rfl) hf
  exact main _ _ _ hP hS hl

set_option maxHeartbeats 4000000 in
set_option maxRecDepth 100000 in
theorem ctX7_passWeek (l : Launch) {t : Nat} {a1 : Nat} {σ σ' : FH} {v : Int32} (hf : fX7_passWeek t a1 σ = some (v, σ')) : fx_Mi l yX7_passWeek cX7_passWeek 6 (some .int) (4) LX (fun ad ec => [.ref (ad t), .ref (ad a1)]) σ v σ' := by
  unfold fX7_passWeek at hf
  obtain ⟨h_t, hf⟩ := fxG_e hf
  obtain ⟨h_a1, hf⟩ := fxG_e hf
  refine fx_mi' (own := RX7) rfl (by decide +kernel) ?_
  intro p e s m args below meth c D cy ad ec A hC hr hk hP hS
  have hx := hC.1
  have hb := hC.2.1
  have hl := lv_entry ([.ref (ad t), .ref (ad a1)]) (n := 6) (Nat.le_of_ble_eq_true rfl)
  show W _ _ _ _ _ _ _ _ _ _ _ _ _ _ _ (entryFrame m ([.ref (ad t), .ref (ad a1)] : List Value).toArray 6)
  rw [lg_entry_eq]
  generalize (lg_sl ([.ref (ad t), .ref (ad a1)]) ++ List.replicate (6 - (lg_sl ([.ref (ad t), .ref (ad a1)])).length) Slot.unset).toArray = ls at hl ⊢
  have hl : lv_has ls 6 [(0, .ref (ad t)), (1, .ref (ad a1))] := hl
  have main : ∀ (H : Heap) (locs : List Loc) (ls : Array Slot), fx_P D cy LX ad σ H → va_S A s.heap H locs → lv_has ls 6 [(0, .ref (ad t)), (1, .ref (ad a1))] → W p l e (fx_R (4)) s m args below meth c H locs 0 0 (fx_Qi D cy LX ad A below args s v σ') (F0 m 0 ls []) := by
    intro H locs ls hP hS hl
    refine lv_iconst hx hb dX7_passWeek_0 ki_0 ?_
    refine lv_istore_n (lv' := [(2, .int 0), (0, .ref (ad t)), (1, .ref (ad a1))]) hx hb dX7_passWeek_1 rfl hl (by decide) rfl (fun ls hl => ?_)
    refine lv_iconst hx hb dX7_passWeek_2 ki_0 ?_
    refine lv_istore_n (lv' := [(3, .int 0), (2, .int 0), (0, .ref (ad t)), (1, .ref (ad a1))]) hx hb dX7_passWeek_3 rfl hl (by decide) rfl (fun ls hl => ?_)
    obtain ⟨K1, hK1, hf⟩ := fxL_e hf
    have k_K1 : ∀ (x2 : Int32) (σ3 : FH) (H : Heap) (locs : List Loc) (ls : Array Slot), fx_P D cy LX ad σ3 H → va_S A s.heap H locs → lv_has ls 6 [(0, .ref (ad t)), (2, .int x2)] → K1 x2 σ3 = some (v, σ') → W p l e (fx_R (4)) s m args below meth c H locs 0 0 (fx_Qi D cy LX ad A below args s v σ') (F0 m 66 ls []) := by
      intro x2 σ3 H locs ls hP hS hl hf
      replace hf := fxk2 hK1 hf
      refine lv_aload_n hx hb dX7_passWeek_66 rfl (lv_at hl 0 rfl) ?_
      refine lv_dup hx hb dX7_passWeek_67 rfl ?_
      refine gf_X7_33 (v := .int (σ3.1 t 2)) hC hP h_t rfl dX7_passWeek_68 ?_
      refine lv_iconst hx hb dX7_passWeek_71 ki_1 ?_
      refine lv_iadd hx hb dX7_passWeek_72 ?_
      obtain ⟨σ4, eσ4, hf⟩ := fxL_e hf
      refine pf_X7_33 hC hP hS h_t dX7_passWeek_73 (fun H locs hP hS => ?_)
      replace hP := fx_Pe eσ4 hP
      refine lv_iload_n hx hb dX7_passWeek_76 rfl (lv_at hl 1 rfl) ?_
      exact fx_iretf hf hC hr hk hP hS dX7_passWeek_77
    have L26 : ∀ (n9 : Nat) (w5 : Int32) (w6 : Int32) (σ7 : FH) (H : Heap) (locs : List Loc) (ls : Array Slot), fx_P D cy LX ad σ7 H → va_S A s.heap H locs → lv_has ls 6 [(0, .ref (ad t)), (1, .ref (ad a1)), (2, .int w5), (3, .int w6)] → fX7_passWeek_4 t a1 K1 n9 w5 w6 σ7 = some (v, σ') → W p l e (fx_R (4)) s m args below meth c H locs 0 0 (fx_Qi D cy LX ad A below args s v σ') (F0 m 4 ls []) := by
      intro n9
      induction n9 with
      | zero =>
        intro w5 w6 σ7 H locs ls hP hS hl hf
        rw [fX7_passWeek_4] at hf
        cases hf
      | succ n9 ih8 =>
        intro w5 w6 σ7 H locs ls hP hS hl hf
        rw [fX7_passWeek_4] at hf
        refine lv_iload_n hx hb dX7_passWeek_4 rfl (lv_at hl 3 rfl) ?_
        refine lv_aload_n hx hb dX7_passWeek_5 rfl (lv_at hl 1 rfl) ?_
        refine gf_X7_67 (v := .int (σ7.1 a1 0)) hC hP h_a1 rfl dX7_passWeek_6 ?_
        refine lv_icmp_ge (tgt := 66) hx hb dX7_passWeek_9 (by decide) (fun c10 => ?_) (fun c10 => ?_)
        · replace hf := fx_it c10 hf
          exact k_K1 w5 σ7 _ _ _ hP hS (lv_sub hl [0, 2] rfl) hf
        · replace hf := fx_ie c10 hf
          refine lv_aload_n hx hb dX7_passWeek_12 rfl (lv_at hl 0 rfl) ?_
          refine lv_aload_n hx hb dX7_passWeek_13 rfl (lv_at hl 1 rfl) ?_
          refine lv_iload_n hx hb dX7_passWeek_14 rfl (lv_at hl 3 rfl) ?_
          obtain ⟨r12, hc11, hf⟩ := fxBP_e hf
          refine fx_ci hC hS (fx_runV (i := t) (As := [.ref (ad a1), .int w6]) (rest := []) hC hP hS (ctX7_votesFor l hc11 D cy ad ec _) h_t (by decide) rfl kMV_X7_70 kC_X7_votesFor hd_X7_votesFor rfl ⟨(Nat.le_of_ble_eq_true rfl), (Nat.le_of_ble_eq_true rfl)⟩ ⟨Nat.le_refl 0, Nat.le_refl 0⟩ hl.1 (Nat.le_of_ble_eq_true rfl) rfl dX7_passWeek_15) (fun H locs hP hS => ?_)
          refine lv_istore (lv' := [(4, .int r12), (0, .ref (ad t)), (1, .ref (ad a1)), (2, .int w5), (3, .int w6)]) hx hb dX7_passWeek_18 hl (by decide) rfl (fun ls hl => ?_)
          refine lv_aload_n hx hb dX7_passWeek_20 rfl (lv_at hl 2 rfl) ?_
          refine lv_aload_n hx hb dX7_passWeek_21 rfl (lv_at hl 2 rfl) ?_
          refine gf_X7_74 (v := .ref (ad (a1 + 2))) hC hP h_a1 rfl dX7_passWeek_22 ?_
          refine lv_iload_n hx hb dX7_passWeek_25 rfl (lv_at hl 4 rfl) ?_
          obtain ⟨h14, hf⟩ := fxG_e hf
          refine fx_iald hC hP (lyX_5_2 h_a1) (fx_inp h14) dX7_passWeek_26 ?_
          refine lv_aload_n hx hb dX7_passWeek_27 rfl (lv_at hl 1 rfl) ?_
          refine gf_X7_9 (v := .ref (ad (t + 1))) hC hP h_t rfl dX7_passWeek_28 ?_
          refine lv_iload_n hx hb dX7_passWeek_31 rfl (lv_at hl 4 rfl) ?_
          obtain ⟨h15, hf⟩ := fxG_e hf
          refine fx_iald hC hP (lyX_7_0 h_t) (fx_inp h15) dX7_passWeek_32 ?_
          refine lv_aload_n hx hb dX7_passWeek_33 rfl (lv_at hl 2 rfl) ?_
          refine lv_iload_n hx hb dX7_passWeek_34 rfl (lv_at hl 4 rfl) ?_
          obtain ⟨r17, hc16, hf⟩ := fxBP_e hf
          refine fx_ci hC hS (fx_runV (i := a1) (As := [.int w6]) (rest := [.int (σ7.1 (t + 1) (Int32.toNatClampNeg w6)), .int (σ7.1 (a1 + 2) (Int32.toNatClampNeg w6)), .ref (ad a1)]) hC hP hS (ctX5_halfOf l hc16 D cy ad ec _) h_a1 (by decide) rfl kMV_X7_43 kC_X5_halfOf hd_X5_halfOf rfl ⟨(Nat.le_of_ble_eq_true rfl), (Nat.le_of_ble_eq_true rfl)⟩ ⟨Nat.le_refl 0, Nat.le_refl 0⟩ hl.1 (Nat.le_of_ble_eq_true rfl) rfl dX7_passWeek_35) (fun H locs hP hS => ?_)
          refine lv_iload hx hb dX7_passWeek_38 (lv_at hl 0 rfl) ?_
          refine lv_aload_n hx hb dX7_passWeek_40 rfl (lv_at hl 1 rfl) ?_
          refine gf_X7_33 (v := .int (σ7.1 t 2)) hC hP h_t rfl dX7_passWeek_41 ?_
          obtain ⟨r20, σ21, hc19, hf⟩ := fxBI_e hf
          refine fx_ci hC hS (fx_runV (i := a1) (As := [.int (σ7.1 (a1 + 2) (Int32.toNatClampNeg w6)), .int (σ7.1 (t + 1) (Int32.toNatClampNeg w6)), .int r17, .int r12, .int (σ7.1 t 2)]) (rest := []) hC hP hS (ctX5_weekWork l hc19 D cy ad ec _) h_a1 (by decide) rfl kMV_X7_77 kC_X5_weekWork hd_X5_weekWork rfl ⟨(Nat.le_of_ble_eq_true rfl), (Nat.le_of_ble_eq_true rfl)⟩ ⟨Nat.le_refl 0, Nat.le_refl 0⟩ hl.1 (Nat.le_of_ble_eq_true rfl) rfl dX7_passWeek_44) (fun H locs hP hS => ?_)
          refine lv_istore (lv' := [(5, .int r20), (4, .int r12), (0, .ref (ad t)), (1, .ref (ad a1)), (2, .int w5), (3, .int w6)]) hx hb dX7_passWeek_47 hl (by decide) rfl (fun ls hl => ?_)
          refine lv_iload_n hx hb dX7_passWeek_49 rfl (lv_at hl 4 rfl) ?_
          refine lv_aload_n hx hb dX7_passWeek_50 rfl (lv_at hl 2 rfl) ?_
          refine lv_aload_n hx hb dX7_passWeek_51 rfl (lv_at hl 3 rfl) ?_
          refine lv_iload_n hx hb dX7_passWeek_52 rfl (lv_at hl 5 rfl) ?_
          refine lv_iload hx hb dX7_passWeek_53 (lv_at hl 0 rfl) ?_
          obtain ⟨r23, σ24, hc22, hf⟩ := fxBI_e hf
          refine fx_ci hC hS (fx_runV (i := t) (As := [.ref (ad a1), .int w6, .int r20]) (rest := [.int w5]) hC hP hS (ctX7_workOn l hc22 D cy ad ec _) h_t (by decide) rfl kMV_X7_81 kC_X7_workOn hd_X7_workOn rfl ⟨(Nat.le_of_ble_eq_true rfl), (Nat.le_of_ble_eq_true rfl)⟩ ⟨Nat.le_refl 0, Nat.le_refl 0⟩ hl.1 (Nat.le_of_ble_eq_true rfl) rfl dX7_passWeek_55) (fun H locs hP hS => ?_)
          refine lv_iadd hx hb dX7_passWeek_58 ?_
          obtain ⟨v25, ev25, hf⟩ := fxL_e hf
          refine fx_ti ev25 ?_
          refine lv_istore_n (lv' := [(2, .int v25), (5, .int r20), (4, .int r12), (0, .ref (ad t)), (1, .ref (ad a1)), (3, .int w6)]) hx hb dX7_passWeek_59 rfl hl (by decide) rfl (fun ls hl => ?_)
          refine lv_iinc (v := (w6 + 1)) (lv' := [(3, .int (w6 + 1)), (2, .int v25), (5, .int r20), (4, .int r12), (0, .ref (ad t)), (1, .ref (ad a1))]) hx hb dX7_passWeek_60 hl (k := 5) rfl (congrArg (fun z => w6 + z) ki_1) (by decide) rfl (fun ls hl => ?_)
          refine lv_goto (tgt := 4) hx hb dX7_passWeek_63 (by decide) ?_
          exact ih8 v25 (w6 + 1) σ24 _ _ _ hP hS (lv_sub hl [4, 5, 1, 0] rfl) hf
    exact L26 FU 0 0 σ _ _ _ hP hS (lv_sub hl [2, 3, 1, 0] rfl) hf
  exact main _ _ _ hP hS hl

set_option maxHeartbeats 4000000 in
set_option maxRecDepth 100000 in
theorem ctX7_follow (l : Launch) {t : Nat} {a1 : Nat} {a2 : Nat} {a3 : Int32} {σ σ' : FH} {v : Int32} (hf : fX7_follow t a1 a2 a3 σ = some (v, σ')) : fx_Mi l yX7_follow cX7_follow 7 (some .boolean) (5) LX (fun ad ec => [.ref (ad t), .ref (ad a1), .ref (ad a2), .int a3]) σ v σ' := by
  unfold fX7_follow at hf
  obtain ⟨h_t, hf⟩ := fxG_e hf
  obtain ⟨h_a1, hf⟩ := fxG_e hf
  obtain ⟨h_a2, hf⟩ := fxG_e hf
  refine fx_mi' (own := RX7) rfl (by decide +kernel) ?_
  intro p e s m args below meth c D cy ad ec A hC hr hk hP hS
  have hx := hC.1
  have hb := hC.2.1
  have hl := lv_entry ([.ref (ad t), .ref (ad a1), .ref (ad a2), .int a3]) (n := 7) (Nat.le_of_ble_eq_true rfl)
  show W _ _ _ _ _ _ _ _ _ _ _ _ _ _ _ (entryFrame m ([.ref (ad t), .ref (ad a1), .ref (ad a2), .int a3] : List Value).toArray 7)
  rw [lg_entry_eq]
  generalize (lg_sl ([.ref (ad t), .ref (ad a1), .ref (ad a2), .int a3]) ++ List.replicate (7 - (lg_sl ([.ref (ad t), .ref (ad a1), .ref (ad a2), .int a3])).length) Slot.unset).toArray = ls at hl ⊢
  have hl : lv_has ls 7 [(0, .ref (ad t)), (1, .ref (ad a1)), (2, .ref (ad a2)), (3, .int a3)] := hl
  have main : ∀ (H : Heap) (locs : List Loc) (ls : Array Slot), fx_P D cy LX ad σ H → va_S A s.heap H locs → lv_has ls 7 [(0, .ref (ad t)), (1, .ref (ad a1)), (2, .ref (ad a2)), (3, .int a3)] → W p l e (fx_R (5)) s m args below meth c H locs 0 0 (fx_Qi D cy LX ad A below args s v σ') (F0 m 0 ls []) := by
    intro H locs ls hP hS hl
    refine lv_aload_n hx hb dX7_follow_0 rfl (lv_at hl 2 rfl) ?_
    refine gf_X7_85 (v := .ref (ad (a2 + 2))) hC hP h_a2 rfl dX7_follow_1 ?_
    refine lv_iload_n hx hb dX7_follow_4 rfl (lv_at hl 3 rfl) ?_
    obtain ⟨h1, hf⟩ := fxG_e hf
    refine fx_iald hC hP (lyX_8_2 h_a2) (fx_inp h1) dX7_follow_5 ?_
    obtain ⟨v2, ev2, hf⟩ := fxL_e hf
    refine fx_ti ev2 ?_
    refine lv_istore (lv' := [(4, .int v2), (0, .ref (ad t)), (1, .ref (ad a1)), (2, .ref (ad a2)), (3, .int a3)]) hx hb dX7_follow_6 hl (by decide) rfl (fun ls hl => ?_)
    refine lv_aload_n hx hb dX7_follow_8 rfl (lv_at hl 3 rfl) ?_
    refine gf_X7_90 (v := .ref (ad (a2 + 3))) hC hP h_a2 rfl dX7_follow_9 ?_
    refine lv_iload_n hx hb dX7_follow_12 rfl (lv_at hl 4 rfl) ?_
    obtain ⟨h3, hf⟩ := fxG_e hf
    refine fx_iald hC hP (lyX_8_3 h_a2) (fx_inp h3) dX7_follow_13 ?_
    obtain ⟨v4, ev4, hf⟩ := fxL_e hf
    refine fx_ti ev4 ?_
    refine lv_istore (lv' := [(5, .int v4), (4, .int v2), (0, .ref (ad t)), (1, .ref (ad a1)), (2, .ref (ad a2)), (3, .int a3)]) hx hb dX7_follow_14 hl (by decide) rfl (fun ls hl => ?_)
    refine lv_aload_n hx hb dX7_follow_16 rfl (lv_at hl 4 rfl) ?_
    refine gf_X7_93 (v := .ref (ad (a2 + 4))) hC hP h_a2 rfl dX7_follow_17 ?_
    refine lv_iload_n hx hb dX7_follow_20 rfl (lv_at hl 5 rfl) ?_
    obtain ⟨h5, hf⟩ := fxG_e hf
    refine fx_iald hC hP (lyX_8_4 h_a2) (fx_inp h5) dX7_follow_21 ?_
    obtain ⟨v6, ev6, hf⟩ := fxL_e hf
    refine fx_ti ev6 ?_
    refine lv_istore (lv' := [(6, .int v6), (5, .int v4), (4, .int v2), (0, .ref (ad t)), (1, .ref (ad a1)), (2, .ref (ad a2)), (3, .int a3)]) hx hb dX7_follow_22 hl (by decide) rfl (fun ls hl => ?_)
    refine lv_aload_n hx hb dX7_follow_24 rfl (lv_at hl 5 rfl) ?_
    refine gf_X7_96 (v := .ref (ad (a2 + 1))) hC hP h_a2 rfl dX7_follow_25 ?_
    refine lv_iload_n hx hb dX7_follow_28 rfl (lv_at hl 6 rfl) ?_
    obtain ⟨h7, hf⟩ := fxG_e hf
    refine fx_iald hC hP (lyX_8_1 h_a2) (fx_inp h7) dX7_follow_29 ?_
    by_cases c8 : (σ.1 (a2 + 1) (Int32.toNatClampNeg a3)) = 0
    · replace hf := fx_it c8 hf
      refine lv_tableIn (off := 30) (tgt := 60) hx hb dX7_follow_30 (by rw [c8]; decide) (by rw [c8]; decide) (by rw [c8]; rfl) (by decide) ?_
      refine lv_aload_n hx hb dX7_follow_60 rfl (lv_at hl 3 rfl) ?_
      refine lv_aload_n hx hb dX7_follow_61 rfl (lv_at hl 4 rfl) ?_
      refine lv_iload hx hb dX7_follow_62 (lv_at hl 2 rfl) ?_
      refine lv_iload hx hb dX7_follow_64 (lv_at hl 0 rfl) ?_
      obtain ⟨r10, σ11, hc9, hf⟩ := fxBI_e hf
      refine fx_ci hC hS (fx_runV (i := t) (As := [.ref (ad a1), .int v2, .int v6]) (rest := []) hC hP hS (ctX7_workOn l hc9 D cy ad ec _) h_t (by decide) rfl kMV_X7_81 kC_X7_workOn hd_X7_workOn rfl ⟨(Nat.le_of_ble_eq_true rfl), (Nat.le_of_ble_eq_true rfl)⟩ ⟨Nat.le_refl 0, Nat.le_refl 0⟩ hl.1 (Nat.le_of_ble_eq_true rfl) rfl dX7_follow_66) (fun H locs hP hS => ?_)
      refine lv_pop hx hb dX7_follow_69 rfl ?_
      refine lv_iconst hx hb dX7_follow_70 ki_1 ?_
      exact fx_zretf rfl hf hC hr hk hP hS dX7_follow_71
    replace hf := fx_ie c8 hf
    by_cases c12 : (σ.1 (a2 + 1) (Int32.toNatClampNeg a3)) = 1
    · replace hf := fx_it c12 hf
      refine lv_tableIn (off := 42) (tgt := 72) hx hb dX7_follow_30 (by rw [c12]; decide) (by rw [c12]; decide) (by rw [c12]; rfl) (by decide) ?_
      refine lv_aload_n hx hb dX7_follow_72 rfl (lv_at hl 3 rfl) ?_
      refine lv_iload hx hb dX7_follow_73 (lv_at hl 2 rfl) ?_
      refine lv_iload hx hb dX7_follow_75 (lv_at hl 0 rfl) ?_
      obtain ⟨σ15, hc13, hf⟩ := fxBV_e hf
      refine fx_cv hC hS (fx_runV (i := t) (As := [.int v2, .int v6]) (rest := []) hC hP hS (ctX7_takeOff l hc13 D cy ad ec _) h_t (by decide) rfl kMV_X7_99 kC_X7_takeOff hd_X7_takeOff rfl ⟨(Nat.le_of_ble_eq_true rfl), (Nat.le_of_ble_eq_true rfl)⟩ ⟨Nat.le_refl 0, Nat.le_refl 0⟩ hl.1 (Nat.le_of_ble_eq_true rfl) rfl dX7_follow_77) (fun H locs hP hS => ?_)
      refine lv_iconst hx hb dX7_follow_80 ki_1 ?_
      exact fx_zretf rfl hf hC hr hk hP hS dX7_follow_81
    replace hf := fx_ie c12 hf
    by_cases c16 : (σ.1 (a2 + 1) (Int32.toNatClampNeg a3)) = 2
    · replace hf := fx_it c16 hf
      refine lv_tableIn (off := 52) (tgt := 82) hx hb dX7_follow_30 (by rw [c16]; decide) (by rw [c16]; decide) (by rw [c16]; rfl) (by decide) ?_
      refine lv_aload_n hx hb dX7_follow_82 rfl (lv_at hl 3 rfl) ?_
      refine lv_aload_n hx hb dX7_follow_83 rfl (lv_at hl 4 rfl) ?_
      refine lv_iload hx hb dX7_follow_84 (lv_at hl 2 rfl) ?_
      refine lv_iload hx hb dX7_follow_86 (lv_at hl 1 rfl) ?_
      obtain ⟨r18, hc17, hf⟩ := fxBP_e hf
      refine fx_ci hC hS (fx_runV (i := t) (As := [.ref (ad a1), .int v2, .int v4]) (rest := []) hC hP hS (ctX7_canJoin l hc17 D cy ad ec _) h_t (by decide) rfl kMV_X7_103 kC_X7_canJoin hd_X7_canJoin rfl ⟨(Nat.le_of_ble_eq_true rfl), (Nat.le_of_ble_eq_true rfl)⟩ ⟨Nat.le_refl 0, Nat.le_refl 0⟩ hl.1 (Nat.le_of_ble_eq_true rfl) rfl dX7_follow_88) (fun H locs hP hS => ?_)
      refine lv_if_ne (tgt := 96) hx hb dX7_follow_91 (by decide) (fun c20 => ?_) (fun c20 => ?_)
      · replace hf := fx_ie c20 hf
        refine lv_aload_n hx hb dX7_follow_96 rfl (lv_at hl 3 rfl) ?_
        refine lv_aload_n hx hb dX7_follow_97 rfl (lv_at hl 4 rfl) ?_
        refine lv_iload hx hb dX7_follow_98 (lv_at hl 2 rfl) ?_
        refine lv_iload hx hb dX7_follow_100 (lv_at hl 1 rfl) ?_
        obtain ⟨σ23, hc21, hf⟩ := fxBV_e hf
        refine fx_cv hC hS (fx_runV (i := t) (As := [.ref (ad a1), .int v2, .int v4]) (rest := []) hC hP hS (ctX7_arrest l hc21 D cy ad ec _) h_t (by decide) rfl kMV_X7_107 kC_X7_arrest hd_X7_arrest rfl ⟨(Nat.le_of_ble_eq_true rfl), (Nat.le_of_ble_eq_true rfl)⟩ ⟨Nat.le_refl 0, Nat.le_refl 0⟩ hl.1 (Nat.le_of_ble_eq_true rfl) rfl dX7_follow_102) (fun H locs hP hS => ?_)
        refine lv_iconst hx hb dX7_follow_105 ki_1 ?_
        exact fx_zretf rfl hf hC hr hk hP hS dX7_follow_106
      · replace hf := fx_it c20 hf
        refine lv_iconst hx hb dX7_follow_94 ki_0 ?_
        exact fx_zretf rfl hf hC hr hk hP hS dX7_follow_95
    replace hf := fx_ie c16 hf
    by_cases c24 : (σ.1 (a2 + 1) (Int32.toNatClampNeg a3)) = 3
    · replace hf := fx_it c24 hf
      refine lv_tableIn (off := 77) (tgt := 107) hx hb dX7_follow_30 (by rw [c24]; decide) (by rw [c24]; decide) (by rw [c24]; rfl) (by decide) ?_
      refine lv_aload_n hx hb dX7_follow_107 rfl (lv_at hl 3 rfl) ?_
      refine lv_aload_n hx hb dX7_follow_108 rfl (lv_at hl 4 rfl) ?_
      refine lv_iload hx hb dX7_follow_109 (lv_at hl 2 rfl) ?_
      refine lv_iload hx hb dX7_follow_111 (lv_at hl 1 rfl) ?_
      refine lv_iload hx hb dX7_follow_113 (lv_at hl 0 rfl) ?_
      obtain ⟨r26, hc25, hf⟩ := fxBP_e hf
      refine fx_ci hC hS (fx_runV (i := t) (As := [.ref (ad a1), .int v2, .int v4, .int v6]) (rest := []) hC hP hS (ctX7_canLend l hc25 D cy ad ec _) h_t (by decide) rfl kMV_X7_111 kC_X7_canLend hd_X7_canLend rfl ⟨(Nat.le_of_ble_eq_true rfl), (Nat.le_of_ble_eq_true rfl)⟩ ⟨Nat.le_refl 0, Nat.le_refl 0⟩ hl.1 (Nat.le_of_ble_eq_true rfl) rfl dX7_follow_115) (fun H locs hP hS => ?_)
      refine lv_if_ne (tgt := 123) hx hb dX7_follow_118 (by decide) (fun c28 => ?_) (fun c28 => ?_)
      · replace hf := fx_ie c28 hf
        refine lv_aload_n hx hb dX7_follow_123 rfl (lv_at hl 3 rfl) ?_
        refine lv_iload hx hb dX7_follow_124 (lv_at hl 2 rfl) ?_
        refine lv_iload hx hb dX7_follow_126 (lv_at hl 1 rfl) ?_
        refine lv_iload hx hb dX7_follow_128 (lv_at hl 0 rfl) ?_
        obtain ⟨σ31, hc29, hf⟩ := fxBV_e hf
        refine fx_cv hC hS (fx_runV (i := t) (As := [.int v2, .int v4, .int v6]) (rest := []) hC hP hS (ctX7_moveSeats l hc29 D cy ad ec _) h_t (by decide) rfl kMV_X7_115 kC_X7_moveSeats hd_X7_moveSeats rfl ⟨(Nat.le_of_ble_eq_true rfl), (Nat.le_of_ble_eq_true rfl)⟩ ⟨Nat.le_refl 0, Nat.le_refl 0⟩ hl.1 (Nat.le_of_ble_eq_true rfl) rfl dX7_follow_130) (fun H locs hP hS => ?_)
        refine lv_iconst hx hb dX7_follow_133 ki_1 ?_
        exact fx_zretf rfl hf hC hr hk hP hS dX7_follow_134
      · replace hf := fx_it c28 hf
        refine lv_iconst hx hb dX7_follow_121 ki_0 ?_
        exact fx_zretf rfl hf hC hr hk hP hS dX7_follow_122
    replace hf := fx_ie c24 hf
    have qc8 := fx_ne32 (z := 0) rfl c8
    have qc12 := fx_ne32 (z := 1) rfl c12
    have qc16 := fx_ne32 (z := 2) rfl c16
    have qc24 := fx_ne32 (z := 3) rfl c24
    refine lv_tableOut (tgt := 135) hx hb dX7_follow_30 (by omega) (by decide) ?_
    refine lv_aload_n hx hb dX7_follow_135 rfl (lv_at hl 3 rfl) ?_
    refine lv_aload_n hx hb dX7_follow_136 rfl (lv_at hl 4 rfl) ?_
    obtain ⟨r33, σ34, hc32, hf⟩ := fxBI_e hf
    refine fx_ci hC hS (fx_runV (i := t) (As := [.ref (ad a1)]) (rest := []) hC hP hS (ctX7_passWeek l hc32 D cy ad ec _) h_t (by decide) rfl kMV_X7_119 kC_X7_passWeek hd_X7_passWeek rfl ⟨(Nat.le_of_ble_eq_true rfl), (Nat.le_of_ble_eq_true rfl)⟩ ⟨Nat.le_refl 0, Nat.le_refl 0⟩ hl.1 (Nat.le_of_ble_eq_true rfl) rfl dX7_follow_137) (fun H locs hP hS => ?_)
    refine lv_pop hx hb dX7_follow_140 rfl ?_
    refine lv_iconst hx hb dX7_follow_141 ki_1 ?_
    exact fx_zretf rfl hf hC hr hk hP hS dX7_follow_142
  exact main _ _ _ hP hS hl

set_option maxHeartbeats 4000000 in
set_option maxRecDepth 100000 in
theorem ctX7_allSeats (l : Launch) {t : Nat} {σ : FH} {v : Int32} (hf : fX7_allSeats t σ = some v) : fx_Mi l yX7_allSeats cX7_allSeats 3 (some .int) (0) LX (fun ad ec => [.ref (ad t)]) σ v σ := by
  unfold fX7_allSeats at hf
  obtain ⟨h_t, hf⟩ := fxG_e hf
  refine fx_mi' (own := RX7) rfl (by decide +kernel) ?_
  intro p e s m args below meth c D cy ad ec A hC hr hk hP hS
  have hx := hC.1
  have hb := hC.2.1
  have hl := lv_entry ([.ref (ad t)]) (n := 3) (Nat.le_of_ble_eq_true rfl)
  show W _ _ _ _ _ _ _ _ _ _ _ _ _ _ _ (entryFrame m ([.ref (ad t)] : List Value).toArray 3)
  rw [lg_entry_eq]
  generalize (lg_sl ([.ref (ad t)]) ++ List.replicate (3 - (lg_sl ([.ref (ad t)])).length) Slot.unset).toArray = ls at hl ⊢
  have hl : lv_has ls 3 [(0, .ref (ad t))] := hl
  have main : ∀ (H : Heap) (locs : List Loc) (ls : Array Slot), fx_P D cy LX ad σ H → va_S A s.heap H locs → lv_has ls 3 [(0, .ref (ad t))] → W p l e (fx_R (0)) s m args below meth c H locs 0 0 (fx_Qi D cy LX ad A below args s v σ) (F0 m 0 ls []) := by
    intro H locs ls hP hS hl
    refine lv_iconst hx hb dX7_allSeats_0 ki_0 ?_
    refine lv_istore_n (lv' := [(1, .int 0), (0, .ref (ad t))]) hx hb dX7_allSeats_1 rfl hl (by decide) rfl (fun ls hl => ?_)
    refine lv_iconst hx hb dX7_allSeats_2 ki_0 ?_
    refine lv_istore_n (lv' := [(2, .int 0), (1, .int 0), (0, .ref (ad t))]) hx hb dX7_allSeats_3 rfl hl (by decide) rfl (fun ls hl => ?_)
    obtain ⟨K1, hK1, hf⟩ := fxL_e hf
    have k_K1 : ∀ (x2 : Int32) (H : Heap) (locs : List Loc) (ls : Array Slot), fx_P D cy LX ad σ H → va_S A s.heap H locs → lv_has ls 3 [(1, .int x2)] → K1 x2 = some v → W p l e (fx_R (0)) s m args below meth c H locs 0 0 (fx_Qi D cy LX ad A below args s v σ) (F0 m 28 ls []) := by
      intro x2 H locs ls hP hS hl hf
      replace hf := fxk1 hK1 hf
      refine lv_iload_n hx hb dX7_allSeats_28 rfl (lv_at hl 0 rfl) ?_
      exact fx_iretp hf hC hr hk hP hS dX7_allSeats_29
    have L10 : ∀ (n6 : Nat) (w3 : Int32) (w4 : Int32) (H : Heap) (locs : List Loc) (ls : Array Slot), fx_P D cy LX ad σ H → va_S A s.heap H locs → lv_has ls 3 [(0, .ref (ad t)), (1, .int w3), (2, .int w4)] → fX7_allSeats_4 t σ K1 n6 w3 w4 = some v → W p l e (fx_R (0)) s m args below meth c H locs 0 0 (fx_Qi D cy LX ad A below args s v σ) (F0 m 4 ls []) := by
      intro n6
      induction n6 with
      | zero =>
        intro w3 w4 H locs ls hP hS hl hf
        rw [fX7_allSeats_4] at hf
        cases hf
      | succ n6 ih5 =>
        intro w3 w4 H locs ls hP hS hl hf
        rw [fX7_allSeats_4] at hf
        refine lv_iload_n hx hb dX7_allSeats_4 rfl (lv_at hl 2 rfl) ?_
        refine lv_aload_n hx hb dX7_allSeats_5 rfl (lv_at hl 0 rfl) ?_
        refine gf_X7_15 (v := .ref (ad (t + 2))) hC hP h_t rfl dX7_allSeats_6 ?_
        refine fx_alen (v := 5) hC hP (lyX_7_1 h_t) (by decide) 0 rfl rfl (by decide) dX7_allSeats_9 ?_
        refine lv_icmp_ge (tgt := 28) hx hb dX7_allSeats_10 (by decide) (fun c7 => ?_) (fun c7 => ?_)
        · replace hf := fx_it c7 hf
          exact k_K1 w3 _ _ _ hP hS (lv_sub hl [1] rfl) hf
        · replace hf := fx_ie c7 hf
          refine lv_iload_n hx hb dX7_allSeats_13 rfl (lv_at hl 1 rfl) ?_
          refine lv_aload_n hx hb dX7_allSeats_14 rfl (lv_at hl 0 rfl) ?_
          refine gf_X7_15 (v := .ref (ad (t + 2))) hC hP h_t rfl dX7_allSeats_15 ?_
          refine lv_iload_n hx hb dX7_allSeats_18 rfl (lv_at hl 2 rfl) ?_
          obtain ⟨h8, hf⟩ := fxG_e hf
          refine fx_iald hC hP (lyX_7_1 h_t) (fx_inp h8) dX7_allSeats_19 ?_
          refine lv_iadd hx hb dX7_allSeats_20 ?_
          obtain ⟨v9, ev9, hf⟩ := fxL_e hf
          refine fx_ti ev9 ?_
          refine lv_istore_n (lv' := [(1, .int v9), (0, .ref (ad t)), (2, .int w4)]) hx hb dX7_allSeats_21 rfl hl (by decide) rfl (fun ls hl => ?_)
          refine lv_iinc (v := (w4 + 1)) (lv' := [(2, .int (w4 + 1)), (1, .int v9), (0, .ref (ad t))]) hx hb dX7_allSeats_22 hl (k := 2) rfl (congrArg (fun z => w4 + z) ki_1) (by decide) rfl (fun ls hl => ?_)
          refine lv_goto (tgt := 4) hx hb dX7_allSeats_25 (by decide) ?_
          exact ih5 v9 (w4 + 1) _ _ _ hP hS (lv_sub hl [2, 1, 0] rfl) hf
    exact L10 FU 0 0 _ _ _ hP hS (lv_sub hl [2, 1, 0] rfl) hf
  exact main _ _ _ hP hS hl

set_option maxHeartbeats 4000000 in
set_option maxRecDepth 100000 in
theorem ctX7_allDone (l : Launch) {t : Nat} {σ : FH} {v : Int32} (hf : fX7_allDone t σ = some v) : fx_Mi l yX7_allDone cX7_allDone 3 (some .int) (0) LX (fun ad ec => [.ref (ad t)]) σ v σ := by
  unfold fX7_allDone at hf
  obtain ⟨h_t, hf⟩ := fxG_e hf
  refine fx_mi' (own := RX7) rfl (by decide +kernel) ?_
  intro p e s m args below meth c D cy ad ec A hC hr hk hP hS
  have hx := hC.1
  have hb := hC.2.1
  have hl := lv_entry ([.ref (ad t)]) (n := 3) (Nat.le_of_ble_eq_true rfl)
  show W _ _ _ _ _ _ _ _ _ _ _ _ _ _ _ (entryFrame m ([.ref (ad t)] : List Value).toArray 3)
  rw [lg_entry_eq]
  generalize (lg_sl ([.ref (ad t)]) ++ List.replicate (3 - (lg_sl ([.ref (ad t)])).length) Slot.unset).toArray = ls at hl ⊢
  have hl : lv_has ls 3 [(0, .ref (ad t))] := hl
  have main : ∀ (H : Heap) (locs : List Loc) (ls : Array Slot), fx_P D cy LX ad σ H → va_S A s.heap H locs → lv_has ls 3 [(0, .ref (ad t))] → W p l e (fx_R (0)) s m args below meth c H locs 0 0 (fx_Qi D cy LX ad A below args s v σ) (F0 m 0 ls []) := by
    intro H locs ls hP hS hl
    refine lv_iconst hx hb dX7_allDone_0 ki_0 ?_
    refine lv_istore_n (lv' := [(1, .int 0), (0, .ref (ad t))]) hx hb dX7_allDone_1 rfl hl (by decide) rfl (fun ls hl => ?_)
    refine lv_iconst hx hb dX7_allDone_2 ki_0 ?_
    refine lv_istore_n (lv' := [(2, .int 0), (1, .int 0), (0, .ref (ad t))]) hx hb dX7_allDone_3 rfl hl (by decide) rfl (fun ls hl => ?_)
    obtain ⟨K1, hK1, hf⟩ := fxL_e hf
    have k_K1 : ∀ (x2 : Int32) (H : Heap) (locs : List Loc) (ls : Array Slot), fx_P D cy LX ad σ H → va_S A s.heap H locs → lv_has ls 3 [(1, .int x2)] → K1 x2 = some v → W p l e (fx_R (0)) s m args below meth c H locs 0 0 (fx_Qi D cy LX ad A below args s v σ) (F0 m 28 ls []) := by
      intro x2 H locs ls hP hS hl hf
      replace hf := fxk1 hK1 hf
      refine lv_iload_n hx hb dX7_allDone_28 rfl (lv_at hl 0 rfl) ?_
      exact fx_iretp hf hC hr hk hP hS dX7_allDone_29
    have L10 : ∀ (n6 : Nat) (w3 : Int32) (w4 : Int32) (H : Heap) (locs : List Loc) (ls : Array Slot), fx_P D cy LX ad σ H → va_S A s.heap H locs → lv_has ls 3 [(0, .ref (ad t)), (1, .int w3), (2, .int w4)] → fX7_allDone_4 t σ K1 n6 w3 w4 = some v → W p l e (fx_R (0)) s m args below meth c H locs 0 0 (fx_Qi D cy LX ad A below args s v σ) (F0 m 4 ls []) := by
      intro n6
      induction n6 with
      | zero =>
        intro w3 w4 H locs ls hP hS hl hf
        rw [fX7_allDone_4] at hf
        cases hf
      | succ n6 ih5 =>
        intro w3 w4 H locs ls hP hS hl hf
        rw [fX7_allDone_4] at hf
        refine lv_iload_n hx hb dX7_allDone_4 rfl (lv_at hl 2 rfl) ?_
        refine lv_aload_n hx hb dX7_allDone_5 rfl (lv_at hl 0 rfl) ?_
        refine gf_X7_9 (v := .ref (ad (t + 1))) hC hP h_t rfl dX7_allDone_6 ?_
        refine fx_alen (v := 6) hC hP (lyX_7_0 h_t) (by decide) 0 rfl rfl (by decide) dX7_allDone_9 ?_
        refine lv_icmp_ge (tgt := 28) hx hb dX7_allDone_10 (by decide) (fun c7 => ?_) (fun c7 => ?_)
        · replace hf := fx_it c7 hf
          exact k_K1 w3 _ _ _ hP hS (lv_sub hl [1] rfl) hf
        · replace hf := fx_ie c7 hf
          refine lv_iload_n hx hb dX7_allDone_13 rfl (lv_at hl 1 rfl) ?_
          refine lv_aload_n hx hb dX7_allDone_14 rfl (lv_at hl 0 rfl) ?_
          refine gf_X7_9 (v := .ref (ad (t + 1))) hC hP h_t rfl dX7_allDone_15 ?_
          refine lv_iload_n hx hb dX7_allDone_18 rfl (lv_at hl 2 rfl) ?_
          obtain ⟨h8, hf⟩ := fxG_e hf
          refine fx_iald hC hP (lyX_7_0 h_t) (fx_inp h8) dX7_allDone_19 ?_
          refine lv_iadd hx hb dX7_allDone_20 ?_
          obtain ⟨v9, ev9, hf⟩ := fxL_e hf
          refine fx_ti ev9 ?_
          refine lv_istore_n (lv' := [(1, .int v9), (0, .ref (ad t)), (2, .int w4)]) hx hb dX7_allDone_21 rfl hl (by decide) rfl (fun ls hl => ?_)
          refine lv_iinc (v := (w4 + 1)) (lv' := [(2, .int (w4 + 1)), (1, .int v9), (0, .ref (ad t))]) hx hb dX7_allDone_22 hl (k := 2) rfl (congrArg (fun z => w4 + z) ki_1) (by decide) rfl (fun ls hl => ?_)
          refine lv_goto (tgt := 4) hx hb dX7_allDone_25 (by decide) ?_
          exact ih5 v9 (w4 + 1) _ _ _ hP hS (lv_sub hl [2, 1, 0] rfl) hf
    exact L10 FU 0 0 _ _ _ hP hS (lv_sub hl [2, 1, 0] rfl) hf
  exact main _ _ _ hP hS hl

set_option maxHeartbeats 4000000 in
set_option maxRecDepth 100000 in
theorem ctX7_halfDone (l : Launch) {t : Nat} {a1 : Nat} {σ : FH} {v : Int32} (hf : fX7_halfDone t a1 σ = some v) : fx_Mi l yX7_halfDone cX7_halfDone 4 (some .int) (2) LX (fun ad ec => [.ref (ad t), .ref (ad a1)]) σ v σ := by
  unfold fX7_halfDone at hf
  obtain ⟨h_t, hf⟩ := fxG_e hf
  obtain ⟨h_a1, hf⟩ := fxG_e hf
  refine fx_mi' (own := RX7) rfl (by decide +kernel) ?_
  intro p e s m args below meth c D cy ad ec A hC hr hk hP hS
  have hx := hC.1
  have hb := hC.2.1
  have hl := lv_entry ([.ref (ad t), .ref (ad a1)]) (n := 4) (Nat.le_of_ble_eq_true rfl)
  show W _ _ _ _ _ _ _ _ _ _ _ _ _ _ _ (entryFrame m ([.ref (ad t), .ref (ad a1)] : List Value).toArray 4)
  rw [lg_entry_eq]
  generalize (lg_sl ([.ref (ad t), .ref (ad a1)]) ++ List.replicate (4 - (lg_sl ([.ref (ad t), .ref (ad a1)])).length) Slot.unset).toArray = ls at hl ⊢
  have hl : lv_has ls 4 [(0, .ref (ad t)), (1, .ref (ad a1))] := hl
  have main : ∀ (H : Heap) (locs : List Loc) (ls : Array Slot), fx_P D cy LX ad σ H → va_S A s.heap H locs → lv_has ls 4 [(0, .ref (ad t)), (1, .ref (ad a1))] → W p l e (fx_R (2)) s m args below meth c H locs 0 0 (fx_Qi D cy LX ad A below args s v σ) (F0 m 0 ls []) := by
    intro H locs ls hP hS hl
    refine lv_iconst hx hb dX7_halfDone_0 ki_0 ?_
    refine lv_istore_n (lv' := [(2, .int 0), (0, .ref (ad t)), (1, .ref (ad a1))]) hx hb dX7_halfDone_1 rfl hl (by decide) rfl (fun ls hl => ?_)
    refine lv_iconst hx hb dX7_halfDone_2 ki_0 ?_
    refine lv_istore_n (lv' := [(3, .int 0), (2, .int 0), (0, .ref (ad t)), (1, .ref (ad a1))]) hx hb dX7_halfDone_3 rfl hl (by decide) rfl (fun ls hl => ?_)
    obtain ⟨K1, hK1, hf⟩ := fxL_e hf
    have k_K1 : ∀ (x2 : Int32) (H : Heap) (locs : List Loc) (ls : Array Slot), fx_P D cy LX ad σ H → va_S A s.heap H locs → lv_has ls 4 [(2, .int x2)] → K1 x2 = some v → W p l e (fx_R (2)) s m args below meth c H locs 0 0 (fx_Qi D cy LX ad A below args s v σ) (F0 m 33 ls []) := by
      intro x2 H locs ls hP hS hl hf
      replace hf := fxk1 hK1 hf
      refine lv_iload_n hx hb dX7_halfDone_33 rfl (lv_at hl 0 rfl) ?_
      exact fx_iretp hf hC hr hk hP hS dX7_halfDone_34
    have L14 : ∀ (n6 : Nat) (w3 : Int32) (w4 : Int32) (H : Heap) (locs : List Loc) (ls : Array Slot), fx_P D cy LX ad σ H → va_S A s.heap H locs → lv_has ls 4 [(0, .ref (ad t)), (1, .ref (ad a1)), (2, .int w3), (3, .int w4)] → fX7_halfDone_4 t a1 σ K1 n6 w3 w4 = some v → W p l e (fx_R (2)) s m args below meth c H locs 0 0 (fx_Qi D cy LX ad A below args s v σ) (F0 m 4 ls []) := by
      intro n6
      induction n6 with
      | zero =>
        intro w3 w4 H locs ls hP hS hl hf
        rw [fX7_halfDone_4] at hf
        cases hf
      | succ n6 ih5 =>
        intro w3 w4 H locs ls hP hS hl hf
        rw [fX7_halfDone_4] at hf
        refine lv_iload_n hx hb dX7_halfDone_4 rfl (lv_at hl 3 rfl) ?_
        refine lv_aload_n hx hb dX7_halfDone_5 rfl (lv_at hl 1 rfl) ?_
        refine gf_X7_67 (v := .int (σ.1 a1 0)) hC hP h_a1 rfl dX7_halfDone_6 ?_
        refine lv_icmp_ge (tgt := 33) hx hb dX7_halfDone_9 (by decide) (fun c7 => ?_) (fun c7 => ?_)
        · replace hf := fx_it c7 hf
          exact k_K1 w3 _ _ _ hP hS (lv_sub hl [2] rfl) hf
        · replace hf := fx_ie c7 hf
          refine lv_aload_n hx hb dX7_halfDone_12 rfl (lv_at hl 0 rfl) ?_
          refine lv_aload_n hx hb dX7_halfDone_13 rfl (lv_at hl 1 rfl) ?_
          refine lv_iload_n hx hb dX7_halfDone_14 rfl (lv_at hl 3 rfl) ?_
          obtain ⟨r9, hc8, hf⟩ := fxBP_e hf
          refine fx_ci hC hS (fx_runV (i := t) (As := [.ref (ad a1), .int w4]) (rest := []) hC hP hS (ctX7_isHalf l hc8 D cy ad ec _) h_t (by decide) rfl kMV_X7_63 kC_X7_isHalf hd_X7_isHalf rfl ⟨(Nat.le_of_ble_eq_true rfl), (Nat.le_of_ble_eq_true rfl)⟩ ⟨Nat.le_refl 0, Nat.le_refl 0⟩ hl.1 (Nat.le_of_ble_eq_true rfl) rfl dX7_halfDone_15) (fun H locs hP hS => ?_)
          obtain ⟨v11, ev11, hf⟩ := fxL_e hf
          have j_v11 : ∀ (z12 : Int32), z12 = ((if r9 = 0 then w3 else (w3 ||| (1 <<< (w4 &&& 31)))) : Int32) → ∀ (ls : Array Slot), lv_has ls 4 [(0, .ref (ad t)), (1, .ref (ad a1)), (2, .int z12), (3, .int w4)] → W p l e (fx_R (2)) s m args below meth c H locs 0 0 (fx_Qi D cy LX ad A below args s v σ) (F0 m 27 ls []) := by
            intro z12 hz12 ls hl
            obtain rfl : v11 = z12 := ev11.trans hz12.symm
            refine lv_iinc (v := (w4 + 1)) (lv' := [(3, .int (w4 + 1)), (0, .ref (ad t)), (1, .ref (ad a1)), (2, .int v11)]) hx hb dX7_halfDone_27 hl (k := 3) rfl (congrArg (fun z => w4 + z) ki_1) (by decide) rfl (fun ls hl => ?_)
            refine lv_goto (tgt := 4) hx hb dX7_halfDone_30 (by decide) ?_
            exact ih5 v11 (w4 + 1) _ _ _ hP hS (lv_sub hl [1, 2, 3, 0] rfl) hf
          refine lv_if_eq (tgt := 27) hx hb dX7_halfDone_18 (by decide) (fun c13 => ?_) (fun c13 => ?_)
          · exact j_v11 w3 (if_pos c13).symm ls (lv_sub hl [0, 1, 2, 3] rfl)
          · refine lv_iload_n hx hb dX7_halfDone_21 rfl (lv_at hl 2 rfl) ?_
            refine lv_iconst hx hb dX7_halfDone_22 ki_1 ?_
            refine lv_iload_n hx hb dX7_halfDone_23 rfl (lv_at hl 3 rfl) ?_
            refine lv_ishl hx hb dX7_halfDone_24 ?_
            refine lv_ior hx hb dX7_halfDone_25 ?_
            refine lv_istore_n (lv' := [(2, .int (w3 ||| (1 <<< (w4 &&& 31)))), (0, .ref (ad t)), (1, .ref (ad a1)), (3, .int w4)]) hx hb dX7_halfDone_26 rfl hl (by decide) rfl (fun ls hl => ?_)
            exact j_v11 (w3 ||| (1 <<< (w4 &&& 31))) (if_neg c13).symm ls (lv_sub hl [1, 2, 0, 3] rfl)
    exact L14 FU 0 0 _ _ _ hP hS (lv_sub hl [2, 3, 1, 0] rfl) hf
  exact main _ _ _ hP hS hl

set_option maxHeartbeats 4000000 in
set_option maxRecDepth 100000 in
theorem ctX7_lackOf (l : Launch) {t : Nat} {a1 : Nat} {a2 : Int32} {σ : FH} {v : Int32} (hf : fX7_lackOf t a1 a2 σ = some v) : fx_Mi l yX7_lackOf cX7_lackOf 5 (some .int) (1) LX (fun ad ec => [.ref (ad t), .ref (ad a1), .int a2]) σ v σ := by
  unfold fX7_lackOf at hf
  obtain ⟨h_t, hf⟩ := fxG_e hf
  obtain ⟨h_a1, hf⟩ := fxG_e hf
  refine fx_mi' (own := RX7) rfl (by decide +kernel) ?_
  intro p e s m args below meth c D cy ad ec A hC hr hk hP hS
  have hx := hC.1
  have hb := hC.2.1
  have hl := lv_entry ([.ref (ad t), .ref (ad a1), .int a2]) (n := 5) (Nat.le_of_ble_eq_true rfl)
  show W _ _ _ _ _ _ _ _ _ _ _ _ _ _ _ (entryFrame m ([.ref (ad t), .ref (ad a1), .int a2] : List Value).toArray 5)
  rw [lg_entry_eq]
  generalize (lg_sl ([.ref (ad t), .ref (ad a1), .int a2]) ++ List.replicate (5 - (lg_sl ([.ref (ad t), .ref (ad a1), .int a2])).length) Slot.unset).toArray = ls at hl ⊢
  have hl : lv_has ls 5 [(0, .ref (ad t)), (1, .ref (ad a1)), (2, .int a2)] := hl
  have main : ∀ (H : Heap) (locs : List Loc) (ls : Array Slot), fx_P D cy LX ad σ H → va_S A s.heap H locs → lv_has ls 5 [(0, .ref (ad t)), (1, .ref (ad a1)), (2, .int a2)] → W p l e (fx_R (1)) s m args below meth c H locs 0 0 (fx_Qi D cy LX ad A below args s v σ) (F0 m 0 ls []) := by
    intro H locs ls hP hS hl
    refine lv_iconst hx hb dX7_lackOf_0 ki_0 ?_
    refine lv_istore_n (lv' := [(3, .int 0), (0, .ref (ad t)), (1, .ref (ad a1)), (2, .int a2)]) hx hb dX7_lackOf_1 rfl hl (by decide) rfl (fun ls hl => ?_)
    refine lv_iconst hx hb dX7_lackOf_2 ki_0 ?_
    refine lv_istore (lv' := [(4, .int 0), (3, .int 0), (0, .ref (ad t)), (1, .ref (ad a1)), (2, .int a2)]) hx hb dX7_lackOf_3 hl (by decide) rfl (fun ls hl => ?_)
    obtain ⟨K1, hK1, hf⟩ := fxL_e hf
    have k_K1 : ∀ (x2 : Int32) (H : Heap) (locs : List Loc) (ls : Array Slot), fx_P D cy LX ad σ H → va_S A s.heap H locs → lv_has ls 5 [(3, .int x2)] → K1 x2 = some v → W p l e (fx_R (1)) s m args below meth c H locs 0 0 (fx_Qi D cy LX ad A below args s v σ) (F0 m 47 ls []) := by
      intro x2 H locs ls hP hS hl hf
      replace hf := fxk1 hK1 hf
      refine lv_iload_n hx hb dX7_lackOf_47 rfl (lv_at hl 0 rfl) ?_
      exact fx_iretp hf hC hr hk hP hS dX7_lackOf_48
    have L14 : ∀ (n6 : Nat) (w3 : Int32) (w4 : Int32) (H : Heap) (locs : List Loc) (ls : Array Slot), fx_P D cy LX ad σ H → va_S A s.heap H locs → lv_has ls 5 [(0, .ref (ad t)), (1, .ref (ad a1)), (2, .int a2), (3, .int w3), (4, .int w4)] → fX7_lackOf_5 t a1 a2 σ K1 n6 w3 w4 = some v → W p l e (fx_R (1)) s m args below meth c H locs 0 0 (fx_Qi D cy LX ad A below args s v σ) (F0 m 5 ls []) := by
      intro n6
      induction n6 with
      | zero =>
        intro w3 w4 H locs ls hP hS hl hf
        rw [fX7_lackOf_5] at hf
        cases hf
      | succ n6 ih5 =>
        intro w3 w4 H locs ls hP hS hl hf
        rw [fX7_lackOf_5] at hf
        refine lv_iload hx hb dX7_lackOf_5 (lv_at hl 4 rfl) ?_
        refine lv_aload_n hx hb dX7_lackOf_7 rfl (lv_at hl 1 rfl) ?_
        refine gf_X7_67 (v := .int (σ.1 a1 0)) hC hP h_a1 rfl dX7_lackOf_8 ?_
        refine lv_icmp_ge (tgt := 47) hx hb dX7_lackOf_11 (by decide) (fun c7 => ?_) (fun c7 => ?_)
        · replace hf := fx_it c7 hf
          exact k_K1 w3 _ _ _ hP hS (lv_sub hl [3] rfl) hf
        · replace hf := fx_ie c7 hf
          refine lv_iload_n hx hb dX7_lackOf_14 rfl (lv_at hl 2 rfl) ?_
          refine lv_iload hx hb dX7_lackOf_15 (lv_at hl 4 rfl) ?_
          refine lv_ishr hx hb dX7_lackOf_17 ?_
          refine lv_iconst hx hb dX7_lackOf_18 ki_1 ?_
          refine lv_iand hx hb dX7_lackOf_19 ?_
          refine lv_iconst hx hb dX7_lackOf_20 ki_1 ?_
          refine lv_icmp_ne (tgt := 41) hx hb dX7_lackOf_21 (by decide) (fun c8 => ?_) (fun c8 => ?_)
          · replace hf := fx_ie c8 hf
            refine lv_iinc (v := (w4 + 1)) (lv' := [(4, .int (w4 + 1)), (0, .ref (ad t)), (1, .ref (ad a1)), (2, .int a2), (3, .int w3)]) hx hb dX7_lackOf_41 hl (k := 4) rfl (congrArg (fun z => w4 + z) ki_1) (by decide) rfl (fun ls hl => ?_)
            refine lv_goto (tgt := 5) hx hb dX7_lackOf_44 (by decide) ?_
            exact ih5 w3 (w4 + 1) _ _ _ hP hS (lv_sub hl [1, 2, 3, 4, 0] rfl) hf
          · replace hf := fx_it c8 hf
            refine lv_iload_n hx hb dX7_lackOf_24 rfl (lv_at hl 3 rfl) ?_
            refine lv_aload_n hx hb dX7_lackOf_25 rfl (lv_at hl 1 rfl) ?_
            refine lv_iload hx hb dX7_lackOf_26 (lv_at hl 4 rfl) ?_
            obtain ⟨r10, hc9, hf⟩ := fxBP_e hf
            refine fx_ci hC hS (fx_runV (i := a1) (As := [.int w4]) (rest := [.int w3]) hC hP hS (ctX5_halfOf l hc9 D cy ad ec _) h_a1 (by decide) rfl kMV_X7_43 kC_X5_halfOf hd_X5_halfOf rfl ⟨(Nat.le_of_ble_eq_true rfl), (Nat.le_of_ble_eq_true rfl)⟩ ⟨Nat.le_refl 0, Nat.le_refl 0⟩ hl.1 (Nat.le_of_ble_eq_true rfl) rfl dX7_lackOf_28) (fun H locs hP hS => ?_)
            refine lv_aload_n hx hb dX7_lackOf_31 rfl (lv_at hl 0 rfl) ?_
            refine gf_X7_9 (v := .ref (ad (t + 1))) hC hP h_t rfl dX7_lackOf_32 ?_
            refine lv_iload hx hb dX7_lackOf_35 (lv_at hl 4 rfl) ?_
            obtain ⟨h12, hf⟩ := fxG_e hf
            refine fx_iald hC hP (lyX_7_0 h_t) (fx_inp h12) dX7_lackOf_37 ?_
            refine lv_isub hx hb dX7_lackOf_38 ?_
            refine lv_iadd hx hb dX7_lackOf_39 ?_
            obtain ⟨v13, ev13, hf⟩ := fxL_e hf
            refine fx_ti ev13 ?_
            refine lv_istore_n (lv' := [(3, .int v13), (0, .ref (ad t)), (1, .ref (ad a1)), (2, .int a2), (4, .int w4)]) hx hb dX7_lackOf_40 rfl hl (by decide) rfl (fun ls hl => ?_)
            refine lv_iinc (v := (w4 + 1)) (lv' := [(4, .int (w4 + 1)), (3, .int v13), (0, .ref (ad t)), (1, .ref (ad a1)), (2, .int a2)]) hx hb dX7_lackOf_41 hl (k := 4) rfl (congrArg (fun z => w4 + z) ki_1) (by decide) rfl (fun ls hl => ?_)
            refine lv_goto (tgt := 5) hx hb dX7_lackOf_44 (by decide) ?_
            exact ih5 v13 (w4 + 1) _ _ _ hP hS (lv_sub hl [2, 3, 4, 1, 0] rfl) hf
    exact L14 FU 0 0 _ _ _ hP hS (lv_sub hl [2, 3, 4, 1, 0] rfl) hf
  exact main _ _ _ hP hS hl

set_option maxHeartbeats 4000000 in
set_option maxRecDepth 100000 in
theorem ctX11_standing (l : Launch) {a0 : Int32} {a1 : Int32} {σ : FH} {v : Int32} (hf : fX11_standing a0 a1 σ = some v) : fx_Mi l yX11_standing cX11_standing 2 (some .int) (0) LX (fun ad ec => [.int a0, .int a1]) σ v σ := by
  unfold fX11_standing at hf
  refine fx_mi' (own := RX11) rfl (by decide +kernel) ?_
  intro p e s m args below meth c D cy ad ec A hC hr hk hP hS
  have hx := hC.1
  have hb := hC.2.1
  have hl := lv_entry ([.int a0, .int a1]) (n := 2) (Nat.le_of_ble_eq_true rfl)
  show W _ _ _ _ _ _ _ _ _ _ _ _ _ _ _ (entryFrame m ([.int a0, .int a1] : List Value).toArray 2)
  rw [lg_entry_eq]
  generalize (lg_sl ([.int a0, .int a1]) ++ List.replicate (2 - (lg_sl ([.int a0, .int a1])).length) Slot.unset).toArray = ls at hl ⊢
  have hl : lv_has ls 2 [(0, .int a0), (1, .int a1)] := hl
  have main : ∀ (H : Heap) (locs : List Loc) (ls : Array Slot), fx_P D cy LX ad σ H → va_S A s.heap H locs → lv_has ls 2 [(0, .int a0), (1, .int a1)] → W p l e (fx_R (0)) s m args below meth c H locs 0 0 (fx_Qi D cy LX ad A below args s v σ) (F0 m 0 ls []) := by
    intro H locs ls hP hS hl
    refine lv_iconst hx hb dX11_standing_0 ki_2 ?_
    refine lv_iload_n hx hb dX11_standing_1 rfl (lv_at hl 0 rfl) ?_
    refine lv_imul hx hb dX11_standing_2 ?_
    refine lv_iload_n hx hb dX11_standing_3 rfl (lv_at hl 1 rfl) ?_
    refine lv_icmp_le (tgt := 9) hx hb dX11_standing_4 (by decide) (fun c1 => ?_) (fun c1 => ?_)
    · replace hf := fx_it c1 hf
      refine lv_iload_n hx hb dX11_standing_9 rfl (lv_at hl 1 rfl) ?_
      obtain ⟨v2, ev2, hf⟩ := fxL_e hf
      have j_v2 : ∀ (z3 : Int32), z3 = ((if a1 ≤ 0 then 0 else (if (2 * a0) = a1 then 1 else 0)) : Int32) → ∀ (ls : Array Slot), lv_has ls 2 [] → W p l e (fx_R (0)) s m args below meth c H locs 0 0 (fx_Qi D cy LX ad A below args s v σ) (F0 m 25 ls [.int z3]) := by
        intro z3 hz3 ls hl
        obtain rfl : v2 = z3 := ev2.trans hz3.symm
        exact fx_iretp hf hC hr hk hP hS dX11_standing_25
      refine lv_if_le (tgt := 24) hx hb dX11_standing_10 (by decide) (fun c4 => ?_) (fun c4 => ?_)
      · refine lv_iconst hx hb dX11_standing_24 ki_0 ?_
        exact j_v2 0 (if_pos c4).symm ls (lv_sub hl [] rfl)
      · refine lv_iconst hx hb dX11_standing_13 ki_2 ?_
        refine lv_iload_n hx hb dX11_standing_14 rfl (lv_at hl 0 rfl) ?_
        refine lv_imul hx hb dX11_standing_15 ?_
        refine lv_iload_n hx hb dX11_standing_16 rfl (lv_at hl 1 rfl) ?_
        refine lv_icmp_ne (tgt := 24) hx hb dX11_standing_17 (by decide) (fun c5 => ?_) (fun c5 => ?_)
        · refine lv_iconst hx hb dX11_standing_24 ki_0 ?_
          exact j_v2 0 ((if_neg c4).trans (if_neg c5)).symm ls (lv_sub hl [] rfl)
        · refine lv_iconst hx hb dX11_standing_20 ki_1 ?_
          refine lv_goto (tgt := 25) hx hb dX11_standing_21 (by decide) ?_
          exact j_v2 1 ((if_neg c4).trans (if_pos c5)).symm ls (lv_sub hl [] rfl)
    · replace hf := fx_ie c1 hf
      refine lv_iconst hx hb dX11_standing_7 ki_2 ?_
      exact fx_iretp hf hC hr hk hP hS dX11_standing_8
  exact main _ _ _ hP hS hl

set_option maxHeartbeats 4000000 in
set_option maxRecDepth 100000 in
theorem ctX7_wouldHalve (l : Launch) {t : Nat} {a1 : Nat} {a2 : Int32} {a3 : Int32} {a4 : Int32} {a5 : Int32} {σ : FH} {v : Int32} (hf : fX7_wouldHalve t a1 a2 a3 a4 a5 σ = some v) : fx_Mi l yX7_wouldHalve cX7_wouldHalve 7 (some .boolean) (2) LX (fun ad ec => [.ref (ad t), .ref (ad a1), .int a2, .int a3, .int a4, .int a5]) σ v σ := by
  unfold fX7_wouldHalve at hf
  obtain ⟨h_t, hf⟩ := fxG_e hf
  obtain ⟨h_a1, hf⟩ := fxG_e hf
  refine fx_mi' (own := RX7) rfl (by decide +kernel) ?_
  intro p e s m args below meth c D cy ad ec A hC hr hk hP hS
  have hx := hC.1
  have hb := hC.2.1
  have hl := lv_entry ([.ref (ad t), .ref (ad a1), .int a2, .int a3, .int a4, .int a5]) (n := 7) (Nat.le_of_ble_eq_true rfl)
  show W _ _ _ _ _ _ _ _ _ _ _ _ _ _ _ (entryFrame m ([.ref (ad t), .ref (ad a1), .int a2, .int a3, .int a4, .int a5] : List Value).toArray 7)
  rw [lg_entry_eq]
  generalize (lg_sl ([.ref (ad t), .ref (ad a1), .int a2, .int a3, .int a4, .int a5]) ++ List.replicate (7 - (lg_sl ([.ref (ad t), .ref (ad a1), .int a2, .int a3, .int a4, .int a5])).length) Slot.unset).toArray = ls at hl ⊢
  have hl : lv_has ls 7 [(0, .ref (ad t)), (1, .ref (ad a1)), (2, .int a2), (3, .int a3), (4, .int a4), (5, .int a5)] := hl
  have main : ∀ (H : Heap) (locs : List Loc) (ls : Array Slot), fx_P D cy LX ad σ H → va_S A s.heap H locs → lv_has ls 7 [(0, .ref (ad t)), (1, .ref (ad a1)), (2, .int a2), (3, .int a3), (4, .int a4), (5, .int a5)] → W p l e (fx_R (2)) s m args below meth c H locs 0 0 (fx_Qi D cy LX ad A below args s v σ) (F0 m 0 ls []) := by
    intro H locs ls hP hS hl
    refine lv_aload_n hx hb dX7_wouldHalve_0 rfl (lv_at hl 0 rfl) ?_
    refine lv_aload_n hx hb dX7_wouldHalve_1 rfl (lv_at hl 1 rfl) ?_
    refine lv_iload_n hx hb dX7_wouldHalve_2 rfl (lv_at hl 3 rfl) ?_
    refine lv_iload hx hb dX7_wouldHalve_3 (lv_at hl 4 rfl) ?_
    refine lv_iload hx hb dX7_wouldHalve_5 (lv_at hl 5 rfl) ?_
    obtain ⟨r2, hc1, hf⟩ := fxBP_e hf
    refine fx_ci hC hS (fx_runV (i := t) (As := [.ref (ad a1), .int a3, .int a4, .int a5]) (rest := []) hC hP hS (ctX7_canLend l hc1 D cy ad ec _) h_t (by decide) rfl kMV_X7_111 kC_X7_canLend hd_X7_canLend rfl ⟨(Nat.le_of_ble_eq_true rfl), (Nat.le_of_ble_eq_true rfl)⟩ ⟨Nat.le_refl 0, Nat.le_refl 0⟩ hl.1 (Nat.le_of_ble_eq_true rfl) rfl dX7_wouldHalve_7) (fun H locs hP hS => ?_)
    refine lv_if_ne (tgt := 15) hx hb dX7_wouldHalve_10 (by decide) (fun c4 => ?_) (fun c4 => ?_)
    · replace hf := fx_ie c4 hf
      refine lv_aload_n hx hb dX7_wouldHalve_15 rfl (lv_at hl 0 rfl) ?_
      refine lv_aload_n hx hb dX7_wouldHalve_16 rfl (lv_at hl 1 rfl) ?_
      refine lv_iload_n hx hb dX7_wouldHalve_17 rfl (lv_at hl 2 rfl) ?_
      obtain ⟨r6, hc5, hf⟩ := fxBP_e hf
      refine fx_ci hC hS (fx_runV (i := t) (As := [.ref (ad a1), .int a2]) (rest := []) hC hP hS (ctX7_votesFor l hc5 D cy ad ec _) h_t (by decide) rfl kMV_X7_70 kC_X7_votesFor hd_X7_votesFor rfl ⟨(Nat.le_of_ble_eq_true rfl), (Nat.le_of_ble_eq_true rfl)⟩ ⟨Nat.le_refl 0, Nat.le_refl 0⟩ hl.1 (Nat.le_of_ble_eq_true rfl) rfl dX7_wouldHalve_18) (fun H locs hP hS => ?_)
      refine lv_istore (lv' := [(6, .int r6), (0, .ref (ad t)), (1, .ref (ad a1)), (2, .int a2), (3, .int a3), (4, .int a4), (5, .int a5)]) hx hb dX7_wouldHalve_21 hl (by decide) rfl (fun ls hl => ?_)
      refine lv_aload_n hx hb dX7_wouldHalve_23 rfl (lv_at hl 2 rfl) ?_
      refine lv_iload_n hx hb dX7_wouldHalve_24 rfl (lv_at hl 4 rfl) ?_
      refine lv_iload_n hx hb dX7_wouldHalve_25 rfl (lv_at hl 3 rfl) ?_
      obtain ⟨r9, hc8, hf⟩ := fxBP_e hf
      refine fx_ci hC hS (fx_runV (i := a1) (As := [.int a3, .int a2]) (rest := []) hC hP hS (ctX5_isFor l hc8 D cy ad ec _) h_a1 (by decide) rfl kMV_X7_126 kC_X5_isFor hd_X5_isFor rfl ⟨(Nat.le_of_ble_eq_true rfl), (Nat.le_of_ble_eq_true rfl)⟩ ⟨Nat.le_refl 0, Nat.le_refl 0⟩ hl.1 (Nat.le_of_ble_eq_true rfl) rfl dX7_wouldHalve_26) (fun H locs hP hS => ?_)
      obtain ⟨v11, ev11, hf⟩ := fxL_e hf
      have j_v11 : ∀ (z12 : Int32), z12 = ((if r9 = 0 then r6 else (r6 - a5)) : Int32) → ∀ (ls : Array Slot), lv_has ls 7 [(0, .ref (ad t)), (1, .ref (ad a1)), (2, .int a2), (4, .int a4), (5, .int a5), (6, .int z12)] → W p l e (fx_R (2)) s m args below meth c H locs 0 0 (fx_Qi D cy LX ad A below args s v σ) (F0 m 39 ls []) := by
        intro z12 hz12 ls hl
        obtain rfl : v11 = z12 := ev11.trans hz12.symm
        refine lv_aload_n hx hb dX7_wouldHalve_39 rfl (lv_at hl 1 rfl) ?_
        refine lv_iload hx hb dX7_wouldHalve_40 (lv_at hl 3 rfl) ?_
        refine lv_iload_n hx hb dX7_wouldHalve_42 rfl (lv_at hl 2 rfl) ?_
        obtain ⟨r15, hc14, hf⟩ := fxBP_e hf
        refine fx_ci hC hS (fx_runV (i := a1) (As := [.int a4, .int a2]) (rest := []) hC hP hS (ctX5_isFor l hc14 D cy ad ec _) h_a1 (by decide) rfl kMV_X7_126 kC_X5_isFor hd_X5_isFor rfl ⟨(Nat.le_of_ble_eq_true rfl), (Nat.le_of_ble_eq_true rfl)⟩ ⟨Nat.le_refl 0, Nat.le_refl 0⟩ hl.1 (Nat.le_of_ble_eq_true rfl) rfl dX7_wouldHalve_43) (fun H locs hP hS => ?_)
        obtain ⟨v17, ev17, hf⟩ := fxL_e hf
        have j_v17 : ∀ (z18 : Int32), z18 = ((if r15 = 0 then v11 else (v11 + a5)) : Int32) → ∀ (ls : Array Slot), lv_has ls 7 [(0, .ref (ad t)), (6, .int z18)] → W p l e (fx_R (2)) s m args below meth c H locs 0 0 (fx_Qi D cy LX ad A below args s v σ) (F0 m 56 ls []) := by
          intro z18 hz18 ls hl
          obtain rfl : v17 = z18 := ev17.trans hz18.symm
          refine lv_iload hx hb dX7_wouldHalve_56 (lv_at hl 1 rfl) ?_
          refine lv_aload_n hx hb dX7_wouldHalve_58 rfl (lv_at hl 0 rfl) ?_
          obtain ⟨r21, hc20, hf⟩ := fxBP_e hf
          refine fx_ci hC hS (fx_runV (i := t) (As := []) (rest := [.int v17]) hC hP hS (ctX7_allSeats l hc20 D cy ad ec _) h_t (by decide) rfl kMV_X7_129 kC_X7_allSeats hd_X7_allSeats rfl ⟨(Nat.le_of_ble_eq_true rfl), (Nat.le_of_ble_eq_true rfl)⟩ ⟨Nat.le_refl 0, Nat.le_refl 0⟩ hl.1 (Nat.le_of_ble_eq_true rfl) rfl dX7_wouldHalve_59) (fun H locs hP hS => ?_)
          obtain ⟨r24, hc23, hf⟩ := fxBP_e hf
          refine fx_ci hC hS (fx_runSN (As := [.int v17, .int r21]) (rest := []) (host := "HalfShop") hC hP hS (ctX11_standing l hc23 D cy ad ec _) (fx_nest1 hC) kSN_X11_standing kC_X11_standing hd_X11_standing.2 rfl ⟨(Nat.le_of_ble_eq_true rfl), (Nat.le_of_ble_eq_true rfl)⟩ ⟨Nat.le_refl 0, Nat.le_refl 0⟩ hl.1 (Nat.le_of_ble_eq_true rfl) rfl dX7_wouldHalve_62) (fun H locs hP hS => ?_)
          refine lv_iconst hx hb dX7_wouldHalve_65 ki_1 ?_
          obtain ⟨v26, ev26, hf⟩ := fxL_e hf
          have j_v26 : ∀ (z27 : Int32), z27 = ((if r24 = 1 then 1 else 0) : Int32) → ∀ (ls : Array Slot), lv_has ls 7 [] → W p l e (fx_R (2)) s m args below meth c H locs 0 0 (fx_Qi D cy LX ad A below args s v σ) (F0 m 74 ls [.int z27]) := by
            intro z27 hz27 ls hl
            obtain rfl : v26 = z27 := ev26.trans hz27.symm
            obtain ⟨h29, hf⟩ := fxG_e hf
            exact fx_zretp (fx_bon h29) hf hC hr hk hP hS dX7_wouldHalve_74
          refine lv_icmp_ne (tgt := 73) hx hb dX7_wouldHalve_66 (by decide) (fun c28 => ?_) (fun c28 => ?_)
          · refine lv_iconst hx hb dX7_wouldHalve_73 ki_0 ?_
            exact j_v26 0 (if_neg c28).symm ls (lv_sub hl [] rfl)
          · refine lv_iconst hx hb dX7_wouldHalve_69 ki_1 ?_
            refine lv_goto (tgt := 74) hx hb dX7_wouldHalve_70 (by decide) ?_
            exact j_v26 1 (if_pos c28).symm ls (lv_sub hl [] rfl)
        refine lv_if_eq (tgt := 56) hx hb dX7_wouldHalve_46 (by decide) (fun c19 => ?_) (fun c19 => ?_)
        · exact j_v17 v11 (if_pos c19).symm ls (lv_sub hl [0, 5] rfl)
        · refine lv_iload hx hb dX7_wouldHalve_49 (lv_at hl 5 rfl) ?_
          refine lv_iload hx hb dX7_wouldHalve_51 (lv_at hl 4 rfl) ?_
          refine lv_iadd hx hb dX7_wouldHalve_53 ?_
          refine lv_istore (lv' := [(6, .int (v11 + a5)), (0, .ref (ad t)), (1, .ref (ad a1)), (2, .int a2), (4, .int a4), (5, .int a5)]) hx hb dX7_wouldHalve_54 hl (by decide) rfl (fun ls hl => ?_)
          exact j_v17 (v11 + a5) (if_neg c19).symm ls (lv_sub hl [1, 0] rfl)
      refine lv_if_eq (tgt := 39) hx hb dX7_wouldHalve_29 (by decide) (fun c13 => ?_) (fun c13 => ?_)
      · exact j_v11 r6 (if_pos c13).symm ls (lv_sub hl [1, 2, 3, 5, 6, 0] rfl)
      · refine lv_iload hx hb dX7_wouldHalve_32 (lv_at hl 0 rfl) ?_
        refine lv_iload hx hb dX7_wouldHalve_34 (lv_at hl 6 rfl) ?_
        refine lv_isub hx hb dX7_wouldHalve_36 ?_
        refine lv_istore (lv' := [(6, .int (r6 - a5)), (0, .ref (ad t)), (1, .ref (ad a1)), (2, .int a2), (3, .int a3), (4, .int a4), (5, .int a5)]) hx hb dX7_wouldHalve_37 hl (by decide) rfl (fun ls hl => ?_)
        exact j_v11 (r6 - a5) (if_neg c13).symm ls (lv_sub hl [1, 2, 3, 5, 6, 0] rfl)
    · replace hf := fx_it c4 hf
      refine lv_iconst hx hb dX7_wouldHalve_13 ki_0 ?_
      exact fx_zretp rfl hf hC hr hk hP hS dX7_wouldHalve_14
  exact main _ _ _ hP hS hl
