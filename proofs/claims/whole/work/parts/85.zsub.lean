/-! ===== constructors of the parts ===== -/
theorem vz_nil {D : va_G} {H : Heap} : va_P D vwCl [] H := fun k q h => by simp at h
theorem vz_cons {D : va_G} {q : Nat × va_E} {ws : va_W} {H : Heap} (h : va_at D vwCl q H) (h2 : va_P D vwCl ws H) : va_P D vwCl (q :: ws) H := fun k x hx => by
  cases k with
  | zero => cases hx; exact h
  | succ k => exact h2 k x hx
theorem zOI : Cond.instanceMethod objectInit ∈ fx_tb := fx_tb_in (List.mem_of_getElem? (i := 126) (by decide +kernel)) (by decide +kernel)
theorem zOC : Cond.code objectInit ⟨#[0xb1]⟩ 1 none ∈ fx_tb := fx_tb_in (List.mem_of_getElem? (i := 127) (by decide +kernel)) (by decide +kernel)
theorem zO_X9 : Cond.methodLink RX9 3 objectInit ∈ fx_tb := fx_tb_in (List.mem_of_getElem? (i := 133) (by decide +kernel)) (by decide +kernel)
theorem zA_char : Cond.arrayClass .char ∈ fx_tb := fx_tb_in (List.mem_of_getElem? (i := 166) (by decide +kernel)) (by decide +kernel)
theorem zF_X9_9 : Cond.fieldLink RX9 9 (TX9 0).1 (TX9 0).2.1 (TX9 0).2.2.1 ∈ fx_tb := fx_tb_in (List.mem_of_getElem? (i := 134) (by decide +kernel)) (by decide +kernel)
theorem zO_X2 : Cond.methodLink RX2 3 objectInit ∈ fx_tb := fx_tb_in (List.mem_of_getElem? (i := 178) (by decide +kernel)) (by decide +kernel)
theorem zF_X2_9 : Cond.fieldLink RX2 9 (TX2 0).1 (TX2 0).2.1 (TX2 0).2.2.1 ∈ fx_tb := fx_tb_in (List.mem_of_getElem? (i := 179) (by decide +kernel)) (by decide +kernel)
theorem zO_X4 : Cond.methodLink RX4 3 objectInit ∈ fx_tb := fx_tb_in (List.mem_of_getElem? (i := 172) (by decide +kernel)) (by decide +kernel)
theorem zF_X4_9 : Cond.fieldLink RX4 9 (TX4 0).1 (TX4 0).2.1 (TX4 0).2.2.1 ∈ fx_tb := fx_tb_in (List.mem_of_getElem? (i := 183) (by decide +kernel)) (by decide +kernel)
theorem zK_X4_15 : Cond.classLink RX4 15 RX2 ∈ fx_tb := fx_tb_in (List.mem_of_getElem? (i := 173) (by decide +kernel)) (by decide +kernel)
theorem zI_X2 : Cond.instantiable RX2 1 ∈ fx_tb := fx_tb_in (List.mem_of_getElem? (i := 174) (by decide +kernel)) (by decide +kernel)
theorem zL_X4_17 : Cond.methodLink RX4 17 yX2_init ∈ fx_tb := fx_tb_in (List.mem_of_getElem? (i := 175) (by decide +kernel)) (by decide +kernel)
theorem zIM_X2_init : Cond.instanceMethod yX2_init ∈ fx_tb := fx_tb_in (List.mem_of_getElem? (i := 176) (by decide +kernel)) (by decide +kernel)
theorem zC_X2_init : Cond.code yX2_init cX2_init 2 none ∈ fx_tb := fx_tb_in (List.mem_of_getElem? (i := 177) (by decide +kernel)) (by decide +kernel)
theorem zF_X4_20 : Cond.fieldLink RX4 20 (TX4 1).1 (TX4 1).2.1 (TX4 1).2.2.1 ∈ fx_tb := fx_tb_in (List.mem_of_getElem? (i := 184) (by decide +kernel)) (by decide +kernel)
theorem zO_X1 : Cond.methodLink RX1 3 objectInit ∈ fx_tb := fx_tb_in (List.mem_of_getElem? (i := 201) (by decide +kernel)) (by decide +kernel)
theorem zA_int : Cond.arrayClass .int ∈ fx_tb := fx_tb_in (List.mem_of_getElem? (i := 214) (by decide +kernel)) (by decide +kernel)
theorem zF_X1_9 : Cond.fieldLink RX1 9 (TX1 0).1 (TX1 0).2.1 (TX1 0).2.2.1 ∈ fx_tb := fx_tb_in (List.mem_of_getElem? (i := 202) (by decide +kernel)) (by decide +kernel)
theorem zF_X1_15 : Cond.fieldLink RX1 15 (TX1 2).1 (TX1 2).2.1 (TX1 2).2.2.1 ∈ fx_tb := fx_tb_in (List.mem_of_getElem? (i := 205) (by decide +kernel)) (by decide +kernel)
theorem zO_X5 : Cond.methodLink RX5 3 objectInit ∈ fx_tb := fx_tb_in (List.mem_of_getElem? (i := 195) (by decide +kernel)) (by decide +kernel)
theorem zA_long : Cond.arrayClass .long ∈ fx_tb := fx_tb_in (List.mem_of_getElem? (i := 213) (by decide +kernel)) (by decide +kernel)
theorem zF_X5_9 : Cond.fieldLink RX5 9 (TX5 1).1 (TX5 1).2.1 (TX5 1).2.2.1 ∈ fx_tb := fx_tb_in (List.mem_of_getElem? (i := 219) (by decide +kernel)) (by decide +kernel)
theorem zF_X5_15 : Cond.fieldLink RX5 15 (TX5 2).1 (TX5 2).2.1 (TX5 2).2.2.1 ∈ fx_tb := fx_tb_in (List.mem_of_getElem? (i := 221) (by decide +kernel)) (by decide +kernel)
theorem zF_X5_19 : Cond.fieldLink RX5 19 (TX5 3).1 (TX5 3).2.1 (TX5 3).2.2.1 ∈ fx_tb := fx_tb_in (List.mem_of_getElem? (i := 225) (by decide +kernel)) (by decide +kernel)
theorem zF_X5_22 : Cond.fieldLink RX5 22 (TX5 4).1 (TX5 4).2.1 (TX5 4).2.2.1 ∈ fx_tb := fx_tb_in (List.mem_of_getElem? (i := 228) (by decide +kernel)) (by decide +kernel)
theorem zF_X5_25 : Cond.fieldLink RX5 25 (TX5 6).1 (TX5 6).2.1 (TX5 6).2.2.1 ∈ fx_tb := fx_tb_in (List.mem_of_getElem? (i := 235) (by decide +kernel)) (by decide +kernel)
theorem zF_X5_28 : Cond.fieldLink RX5 28 (TX5 7).1 (TX5 7).2.1 (TX5 7).2.2.1 ∈ fx_tb := fx_tb_in (List.mem_of_getElem? (i := 237) (by decide +kernel)) (by decide +kernel)
theorem zF_X5_31 : Cond.fieldLink RX5 31 (TX5 8).1 (TX5 8).2.1 (TX5 8).2.2.1 ∈ fx_tb := fx_tb_in (List.mem_of_getElem? (i := 240) (by decide +kernel)) (by decide +kernel)
theorem zF_X5_34 : Cond.fieldLink RX5 34 (TX5 9).1 (TX5 9).2.1 (TX5 9).2.2.1 ∈ fx_tb := fx_tb_in (List.mem_of_getElem? (i := 243) (by decide +kernel)) (by decide +kernel)
theorem zK_X5_38 : Cond.classLink RX5 38 RX1 ∈ fx_tb := fx_tb_in (List.mem_of_getElem? (i := 196) (by decide +kernel)) (by decide +kernel)
theorem zI_X1 : Cond.instantiable RX1 3 ∈ fx_tb := fx_tb_in (List.mem_of_getElem? (i := 197) (by decide +kernel)) (by decide +kernel)
theorem zIM_X1_init : Cond.instanceMethod yX1_init ∈ fx_tb := fx_tb_in (List.mem_of_getElem? (i := 199) (by decide +kernel)) (by decide +kernel)
theorem zC_X1_init : Cond.code yX1_init cX1_init 1 none ∈ fx_tb := fx_tb_in (List.mem_of_getElem? (i := 200) (by decide +kernel)) (by decide +kernel)
theorem zF_X5_41 : Cond.fieldLink RX5 41 (TX5 12).1 (TX5 12).2.1 (TX5 12).2.2.1 ∈ fx_tb := fx_tb_in (List.mem_of_getElem? (i := 251) (by decide +kernel)) (by decide +kernel)
theorem zO_X8 : Cond.methodLink RX8 3 objectInit ∈ fx_tb := fx_tb_in (List.mem_of_getElem? (i := 285) (by decide +kernel)) (by decide +kernel)
theorem zF_X8_9 : Cond.fieldLink RX8 9 (TX8 1).1 (TX8 1).2.1 (TX8 1).2.2.1 ∈ fx_tb := fx_tb_in (List.mem_of_getElem? (i := 289) (by decide +kernel)) (by decide +kernel)
theorem zF_X8_15 : Cond.fieldLink RX8 15 (TX8 2).1 (TX8 2).2.1 (TX8 2).2.2.1 ∈ fx_tb := fx_tb_in (List.mem_of_getElem? (i := 291) (by decide +kernel)) (by decide +kernel)
theorem zF_X8_18 : Cond.fieldLink RX8 18 (TX8 3).1 (TX8 3).2.1 (TX8 3).2.2.1 ∈ fx_tb := fx_tb_in (List.mem_of_getElem? (i := 293) (by decide +kernel)) (by decide +kernel)
theorem zF_X8_21 : Cond.fieldLink RX8 21 (TX8 4).1 (TX8 4).2.1 (TX8 4).2.2.1 ∈ fx_tb := fx_tb_in (List.mem_of_getElem? (i := 295) (by decide +kernel)) (by decide +kernel)
theorem zO_X7 : Cond.methodLink RX7 3 objectInit ∈ fx_tb := fx_tb_in (List.mem_of_getElem? (i := 313) (by decide +kernel)) (by decide +kernel)
theorem zF_X7_9 : Cond.fieldLink RX7 9 (TX7 0).1 (TX7 0).2.1 (TX7 0).2.2.1 ∈ fx_tb := fx_tb_in (List.mem_of_getElem? (i := 314) (by decide +kernel)) (by decide +kernel)
theorem zF_X7_15 : Cond.fieldLink RX7 15 (TX7 1).1 (TX7 1).2.1 (TX7 1).2.2.1 ∈ fx_tb := fx_tb_in (List.mem_of_getElem? (i := 316) (by decide +kernel)) (by decide +kernel)
theorem zO_X6 : Cond.methodLink RX6 3 objectInit ∈ fx_tb := fx_tb_in (List.mem_of_getElem? (i := 340) (by decide +kernel)) (by decide +kernel)
theorem zF_X6_9 : Cond.fieldLink RX6 9 (TX6 1).1 (TX6 1).2.1 (TX6 1).2.2.1 ∈ fx_tb := fx_tb_in (List.mem_of_getElem? (i := 343) (by decide +kernel)) (by decide +kernel)
theorem zA_boolean : Cond.arrayClass .boolean ∈ fx_tb := fx_tb_in (List.mem_of_getElem? (i := 355) (by decide +kernel)) (by decide +kernel)
theorem zF_X6_15 : Cond.fieldLink RX6 15 (TX6 2).1 (TX6 2).2.1 (TX6 2).2.2.1 ∈ fx_tb := fx_tb_in (List.mem_of_getElem? (i := 344) (by decide +kernel)) (by decide +kernel)
theorem zF_X6_19 : Cond.fieldLink RX6 19 (TX6 3).1 (TX6 3).2.1 (TX6 3).2.2.1 ∈ fx_tb := fx_tb_in (List.mem_of_getElem? (i := 345) (by decide +kernel)) (by decide +kernel)
theorem zO_X0 : Cond.methodLink RX0 3 objectInit ∈ fx_tb := fx_tb_in (List.mem_of_getElem? (i := 361) (by decide +kernel)) (by decide +kernel)
theorem zF_X0_9 : Cond.fieldLink RX0 9 (TX0 0).1 (TX0 0).2.1 (TX0 0).2.2.1 ∈ fx_tb := fx_tb_in (List.mem_of_getElem? (i := 362) (by decide +kernel)) (by decide +kernel)
theorem zO_X3 : Cond.methodLink RX3 1 objectInit ∈ fx_tb := fx_tb_in (List.mem_of_getElem? (i := 379) (by decide +kernel)) (by decide +kernel)
theorem zK_X3_7 : Cond.classLink RX3 7 RX7 ∈ fx_tb := fx_tb_in (List.mem_of_getElem? (i := 380) (by decide +kernel)) (by decide +kernel)
theorem zI_X7 : Cond.instantiable RX7 5 ∈ fx_tb := fx_tb_in (List.mem_of_getElem? (i := 309) (by decide +kernel)) (by decide +kernel)
theorem zIM_X7_init : Cond.instanceMethod yX7_init ∈ fx_tb := fx_tb_in (List.mem_of_getElem? (i := 311) (by decide +kernel)) (by decide +kernel)
theorem zC_X7_init : Cond.code yX7_init cX7_init 1 none ∈ fx_tb := fx_tb_in (List.mem_of_getElem? (i := 312) (by decide +kernel)) (by decide +kernel)
theorem zF_X3_10 : Cond.fieldLink RX3 10 (TX3 1).1 (TX3 1).2.1 (TX3 1).2.2.1 ∈ fx_tb := fx_tb_in (List.mem_of_getElem? (i := 388) (by decide +kernel)) (by decide +kernel)
theorem zK_X3_16 : Cond.classLink RX3 16 RX8 ∈ fx_tb := fx_tb_in (List.mem_of_getElem? (i := 382) (by decide +kernel)) (by decide +kernel)
theorem zI_X8 : Cond.instantiable RX8 5 ∈ fx_tb := fx_tb_in (List.mem_of_getElem? (i := 281) (by decide +kernel)) (by decide +kernel)
theorem zIM_X8_init : Cond.instanceMethod yX8_init ∈ fx_tb := fx_tb_in (List.mem_of_getElem? (i := 283) (by decide +kernel)) (by decide +kernel)
theorem zC_X8_init : Cond.code yX8_init cX8_init 1 none ∈ fx_tb := fx_tb_in (List.mem_of_getElem? (i := 284) (by decide +kernel)) (by decide +kernel)
theorem zF_X3_19 : Cond.fieldLink RX3 19 (TX3 2).1 (TX3 2).2.1 (TX3 2).2.2.1 ∈ fx_tb := fx_tb_in (List.mem_of_getElem? (i := 390) (by decide +kernel)) (by decide +kernel)
theorem zK_X3_23 : Cond.classLink RX3 23 RX6 ∈ fx_tb := fx_tb_in (List.mem_of_getElem? (i := 384) (by decide +kernel)) (by decide +kernel)
theorem zI_X6 : Cond.instantiable RX6 4 ∈ fx_tb := fx_tb_in (List.mem_of_getElem? (i := 336) (by decide +kernel)) (by decide +kernel)
theorem zIM_X6_init : Cond.instanceMethod yX6_init ∈ fx_tb := fx_tb_in (List.mem_of_getElem? (i := 338) (by decide +kernel)) (by decide +kernel)
theorem zC_X6_init : Cond.code yX6_init cX6_init 1 none ∈ fx_tb := fx_tb_in (List.mem_of_getElem? (i := 339) (by decide +kernel)) (by decide +kernel)
theorem zF_X3_26 : Cond.fieldLink RX3 26 (TX3 3).1 (TX3 3).2.1 (TX3 3).2.2.1 ∈ fx_tb := fx_tb_in (List.mem_of_getElem? (i := 392) (by decide +kernel)) (by decide +kernel)
def zp_X9 (h0 : Nat) (cy : Nat → ClassId) (sz : Nat) : va_W := [(h0, .inr (9, [.ref (sz), .int 0, .int 0, .int 0, .int 0, .int 0, .int 0, .long 0, .int 0])), (sz, .inl (cy 22, (1000, .inl (fun _ => 0))))]
set_option maxHeartbeats 2000000 in
theorem zc_X9 (l : Launch) (h0 : Nat) : vz_M l yX9_init cX9_init 1 1 1 1000 [.ref h0] h0 9 [.null, .int 0, .int 0, .int 0, .int 0, .int 0, .int 0, .long 0, .int 0] (zp_X9 h0) := by
  refine vz_ofW (own := RX9) rfl rfl (by decide +kernel) ?_
  intro p e s m below meth c D cy hC hr hk hO
  have hx := hC.1
  have hb := hC.2.1
  have hlt := hC.2.2.2.2.2.2.2.1
  have hl := lv_entry ([.ref h0]) (n := 1) (Nat.le_of_ble_eq_true rfl)
  rw [lg_entry_eq]
  generalize (lg_sl ([.ref h0]) ++ List.replicate (1 - (lg_sl ([.ref h0])).length) Slot.unset).toArray = ls at hl ⊢
  have hl : lv_has ls 1 [(0, .ref h0)] := hl
  have hz : s.heap.size = s.heap.size := rfl
  have hS : va_S (vz_A h0 s.heap.size) s.heap s.heap [] := va_S.rf
  refine lv_aload_n hx hb dX9_init_0 rfl (lv_at hl 0 rfl) ?_
  refine vz_obj hC zO_X9 zOI zOC hl.1 dX9_init_1 (Nat.le_of_ble_eq_true rfl) (Nat.le_of_ble_eq_true rfl) ?_
  refine lv_aload_n hx hb dX9_init_4 rfl (lv_at hl 0 rfl) ?_
  refine lv_sipush (v := 1000) hx hb dX9_init_5 (by decide) ?_
  refine vz_newa hC (atype := .char) (ty := .char) rfl zA_char 2 rfl (N := 1000) (a0 := (1000, .inl (fun _ => 0))) (fun _ => rfl) (by decide) (by decide) (by decide) (Nat.le_of_ble_eq_true rfl) (Nat.le_of_ble_eq_true rfl) dX9_init_8 hS hz (fun H1 z1 at1 o1 hS1 => ?_)
  have hO := vz_at_k hO (o1 _ (by show h0 < _; omega))
  have a0 : va_at D vwCl (s.heap.size, .inl (cy 22, (1000, .inl (fun _ => 0)))) H1 := at1
  have hz : H1.size = s.heap.size + 1 := by omega
  have hS := hS1
  clear o1
  refine vz_putF hC inT_X9 tyX9 tyX9_ok nmX9 hO rfl 0 (by decide) zF_X9_9 rfl rfl rfl rfl (Nat.le_of_ble_eq_true rfl) dX9_init_10 hS (Or.inl rfl) (fun H1 locs1 z1 hO1 o1 hS1 => ?_)
  have hO : va_at D vwCl (h0, .inr (9, [.ref (s.heap.size), .int 0, .int 0, .int 0, .int 0, .int 0, .int 0, .long 0, .int 0])) H1 := hO1
  have a0 := vz_at_k a0 (o1 _ (by show s.heap.size ≠ h0; omega))
  have hz : H1.size = s.heap.size + 1 := by omega
  have hS := hS1
  clear o1
  exact vz_ret (post := zp_X9 h0) hC hr hk hS (by omega) (vz_cons hO (vz_cons a0 vz_nil)) (Nat.le_of_ble_eq_true rfl) (Nat.le_of_ble_eq_true rfl) dX9_init_13
def zp_X2 (h0 : Nat) (tk : Nat) (cy : Nat → ClassId) (sz : Nat) : va_W := [(h0, .inr (2, [.ref tk]))]
set_option maxHeartbeats 2000000 in
theorem zc_X2 (l : Launch) (h0 : Nat) (tk : Nat) : vz_M l yX2_init cX2_init 2 1 0 0 [.ref h0, .ref tk] h0 2 [.null] (zp_X2 h0 tk) := by
  refine vz_ofW (own := RX2) rfl rfl (by decide +kernel) ?_
  intro p e s m below meth c D cy hC hr hk hO
  have hx := hC.1
  have hb := hC.2.1
  have hlt := hC.2.2.2.2.2.2.2.1
  have hl := lv_entry ([.ref h0, .ref tk]) (n := 2) (Nat.le_of_ble_eq_true rfl)
  rw [lg_entry_eq]
  generalize (lg_sl ([.ref h0, .ref tk]) ++ List.replicate (2 - (lg_sl ([.ref h0, .ref tk])).length) Slot.unset).toArray = ls at hl ⊢
  have hl : lv_has ls 2 [(0, .ref h0), (1, .ref tk)] := hl
  have hz : s.heap.size = s.heap.size := rfl
  have hS : va_S (vz_A h0 s.heap.size) s.heap s.heap [] := va_S.rf
  refine lv_aload_n hx hb dX2_init_0 rfl (lv_at hl 0 rfl) ?_
  refine vz_obj hC zO_X2 zOI zOC hl.1 dX2_init_1 (Nat.le_of_ble_eq_true rfl) (Nat.le_of_ble_eq_true rfl) ?_
  refine lv_aload_n hx hb dX2_init_4 rfl (lv_at hl 0 rfl) ?_
  refine lv_aload_n hx hb dX2_init_5 rfl (lv_at hl 1 rfl) ?_
  refine vz_putF hC inT_X2 tyX2 tyX2_ok nmX2 hO rfl 0 (by decide) zF_X2_9 rfl rfl rfl rfl (Nat.le_of_ble_eq_true rfl) dX2_init_6 hS (Or.inl rfl) (fun H1 locs1 z1 hO1 o1 hS1 => ?_)
  have hO : va_at D vwCl (h0, .inr (2, [.ref tk])) H1 := hO1
  have hz : H1.size = s.heap.size := by omega
  have hS := hS1
  clear o1
  exact vz_ret (post := zp_X2 h0 tk) hC hr hk hS (by omega) (vz_cons hO vz_nil) (Nat.le_of_ble_eq_true rfl) (Nat.le_of_ble_eq_true rfl) dX2_init_9
def zp_X4 (h0 : Nat) (tk : Nat) (cy : Nat → ClassId) (sz : Nat) : va_W := [(h0, .inr (4, [.ref tk, .ref (sz)])), (sz, .inr (2, [.ref tk]))]
set_option maxHeartbeats 2000000 in
theorem zc_X4 (l : Launch) (h0 : Nat) (tk : Nat) : vz_M l yX4_init cX4_init 2 2 1 1 [.ref h0, .ref tk] h0 4 [.null, .null] (zp_X4 h0 tk) := by
  refine vz_ofW (own := RX4) rfl rfl (by decide +kernel) ?_
  intro p e s m below meth c D cy hC hr hk hO
  have hx := hC.1
  have hb := hC.2.1
  have hlt := hC.2.2.2.2.2.2.2.1
  have hl := lv_entry ([.ref h0, .ref tk]) (n := 2) (Nat.le_of_ble_eq_true rfl)
  rw [lg_entry_eq]
  generalize (lg_sl ([.ref h0, .ref tk]) ++ List.replicate (2 - (lg_sl ([.ref h0, .ref tk])).length) Slot.unset).toArray = ls at hl ⊢
  have hl : lv_has ls 2 [(0, .ref h0), (1, .ref tk)] := hl
  have hz : s.heap.size = s.heap.size := rfl
  have hS : va_S (vz_A h0 s.heap.size) s.heap s.heap [] := va_S.rf
  refine lv_aload_n hx hb dX4_init_0 rfl (lv_at hl 0 rfl) ?_
  refine vz_obj hC zO_X4 zOI zOC hl.1 dX4_init_1 (Nat.le_of_ble_eq_true rfl) (Nat.le_of_ble_eq_true rfl) ?_
  refine lv_aload_n hx hb dX4_init_4 rfl (lv_at hl 0 rfl) ?_
  refine lv_aload_n hx hb dX4_init_5 rfl (lv_at hl 1 rfl) ?_
  refine vz_putF hC inT_X4 tyX4 tyX4_ok nmX4 hO rfl 0 (by decide) zF_X4_9 rfl rfl rfl rfl (Nat.le_of_ble_eq_true rfl) dX4_init_6 hS (Or.inl rfl) (fun H1 locs1 z1 hO1 o1 hS1 => ?_)
  have hO : va_at D vwCl (h0, .inr (4, [.ref tk, .null])) H1 := hO1
  have hz : H1.size = s.heap.size := by omega
  have hS := hS1
  clear o1
  refine lv_aload_n hx hb dX4_init_9 rfl (lv_at hl 0 rfl) ?_
  refine vz_new (ci := 2) (fs := [.null]) hC inT_X2 tyX2 tyX2_ok zK_X4_15 zI_X2 kN_X2 rfl (by decide +kernel) (Nat.le_of_ble_eq_true rfl) (Nat.le_of_ble_eq_true rfl) dX4_init_10 hS hz (fun H1 z1 at1 o1 hS1 => ?_)
  have hO := vz_at_k hO (o1 _ (by show h0 < _; omega))
  have atn := at1
  have hz : H1.size = s.heap.size + 1 := by omega
  have hS := hS1
  clear o1 at1
  refine lv_dup hx hb dX4_init_13 rfl ?_
  refine lv_aload_n hx hb dX4_init_14 rfl (lv_at hl 1 rfl) ?_
  refine vz_callI (n := 1) (As := [.ref tk]) (rest := [.ref (s.heap.size), .ref h0]) hC (zc_X2 l (s.heap.size) tk) zL_X4_17 zIM_X2_init kN_X2 zC_X2_init rfl (by decide +kernel) rfl ⟨Nat.le_of_ble_eq_true rfl, Nat.le_of_ble_eq_true rfl⟩ ⟨Nat.le_of_ble_eq_true rfl, Nat.le_of_ble_eq_true rfl⟩ hl.1 (Nat.le_of_ble_eq_true rfl) rfl dX4_init_15 hS atn (fun q hq => hq.elim (fun z => Or.inr (by omega)) (fun z => Or.inr (by omega))) (fun H2 locs2 z2 hp2 o2 hS2 => ?_)
  rw [hz] at hp2 z2
  have hO := vz_at_k hO (o2 _ (by show h0 < _; omega) (by show h0 ≠ _; omega))
  have a0 : va_at D vwCl (s.heap.size, .inr (2, [.ref tk])) H2 := hp2 0 _ rfl
  have hz : H2.size = s.heap.size + 1 := by omega
  have hS := hS2
  clear o2 hp2 z2
  refine vz_putF hC inT_X4 tyX4 tyX4_ok nmX4 hO rfl 1 (by decide) zF_X4_20 rfl rfl rfl rfl (Nat.le_of_ble_eq_true rfl) dX4_init_18 hS (Or.inl rfl) (fun H1 locs1 z1 hO1 o1 hS1 => ?_)
  have hO : va_at D vwCl (h0, .inr (4, [.ref tk, .ref (s.heap.size)])) H1 := hO1
  have a0 := vz_at_k a0 (o1 _ (by show s.heap.size ≠ h0; omega))
  have hz : H1.size = s.heap.size + 1 := by omega
  have hS := hS1
  clear o1
  exact vz_ret (post := zp_X4 h0 tk) hC hr hk hS (by omega) (vz_cons hO (vz_cons a0 vz_nil)) (Nat.le_of_ble_eq_true rfl) (Nat.le_of_ble_eq_true rfl) dX4_init_21
def zp_X1 (h0 : Nat) (cy : Nat → ClassId) (sz : Nat) : va_W := [(h0, .inr (1, [.ref (sz), .int 0, .ref (sz + 1)])), (sz, .inl (cy 20, (1000, .inl (fun _ => 0)))), (sz + 1, .inl (cy 20, (32, .inl (fun _ => 0))))]
set_option maxHeartbeats 2000000 in
theorem zc_X1 (l : Launch) (h0 : Nat) : vz_M l yX1_init cX1_init 1 1 2 1032 [.ref h0] h0 1 [.null, .int 0, .null] (zp_X1 h0) := by
  refine vz_ofW (own := RX1) rfl rfl (by decide +kernel) ?_
  intro p e s m below meth c D cy hC hr hk hO
  have hx := hC.1
  have hb := hC.2.1
  have hlt := hC.2.2.2.2.2.2.2.1
  have hl := lv_entry ([.ref h0]) (n := 1) (Nat.le_of_ble_eq_true rfl)
  rw [lg_entry_eq]
  generalize (lg_sl ([.ref h0]) ++ List.replicate (1 - (lg_sl ([.ref h0])).length) Slot.unset).toArray = ls at hl ⊢
  have hl : lv_has ls 1 [(0, .ref h0)] := hl
  have hz : s.heap.size = s.heap.size := rfl
  have hS : va_S (vz_A h0 s.heap.size) s.heap s.heap [] := va_S.rf
  refine lv_aload_n hx hb dX1_init_0 rfl (lv_at hl 0 rfl) ?_
  refine vz_obj hC zO_X1 zOI zOC hl.1 dX1_init_1 (Nat.le_of_ble_eq_true rfl) (Nat.le_of_ble_eq_true rfl) ?_
  refine lv_aload_n hx hb dX1_init_4 rfl (lv_at hl 0 rfl) ?_
  refine lv_sipush (v := 1000) hx hb dX1_init_5 (by decide) ?_
  refine vz_newa hC (atype := .int) (ty := .int) rfl zA_int 0 rfl (N := 1000) (a0 := (1000, .inl (fun _ => 0))) (fun _ => rfl) (by decide) (by decide) (by decide) (Nat.le_of_ble_eq_true rfl) (Nat.le_of_ble_eq_true rfl) dX1_init_8 hS hz (fun H1 z1 at1 o1 hS1 => ?_)
  have hO := vz_at_k hO (o1 _ (by show h0 < _; omega))
  have a0 : va_at D vwCl (s.heap.size, .inl (cy 20, (1000, .inl (fun _ => 0)))) H1 := at1
  have hz : H1.size = s.heap.size + 1 := by omega
  have hS := hS1
  clear o1
  refine vz_putF hC inT_X1 tyX1 tyX1_ok nmX1 hO rfl 0 (by decide) zF_X1_9 rfl rfl rfl rfl (Nat.le_of_ble_eq_true rfl) dX1_init_10 hS (Or.inl rfl) (fun H1 locs1 z1 hO1 o1 hS1 => ?_)
  have hO : va_at D vwCl (h0, .inr (1, [.ref (s.heap.size), .int 0, .null])) H1 := hO1
  have a0 := vz_at_k a0 (o1 _ (by show s.heap.size ≠ h0; omega))
  have hz : H1.size = s.heap.size + 1 := by omega
  have hS := hS1
  clear o1
  refine lv_aload_n hx hb dX1_init_13 rfl (lv_at hl 0 rfl) ?_
  refine lv_bipush (v := 32) hx hb dX1_init_14 (by decide) ?_
  refine vz_newa hC (atype := .int) (ty := .int) rfl zA_int 0 rfl (N := 32) (a0 := (32, .inl (fun _ => 0))) (fun _ => rfl) (by decide) (by decide) (by decide) (Nat.le_of_ble_eq_true rfl) (Nat.le_of_ble_eq_true rfl) dX1_init_16 hS hz (fun H1 z1 at1 o1 hS1 => ?_)
  have hO := vz_at_k hO (o1 _ (by show h0 < _; omega))
  have a0 := vz_at_k a0 (o1 _ (by show s.heap.size < s.heap.size + 1; omega))
  have a1 : va_at D vwCl (s.heap.size + 1, .inl (cy 20, (32, .inl (fun _ => 0)))) H1 := at1
  have hz : H1.size = s.heap.size + 2 := by omega
  have hS := hS1
  clear o1
  refine vz_putF hC inT_X1 tyX1 tyX1_ok nmX1 hO rfl 2 (by decide) zF_X1_15 rfl rfl rfl rfl (Nat.le_of_ble_eq_true rfl) dX1_init_18 hS (Or.inl rfl) (fun H1 locs1 z1 hO1 o1 hS1 => ?_)
  have hO : va_at D vwCl (h0, .inr (1, [.ref (s.heap.size), .int 0, .ref (s.heap.size + 1)])) H1 := hO1
  have a0 := vz_at_k a0 (o1 _ (by show s.heap.size ≠ h0; omega))
  have a1 := vz_at_k a1 (o1 _ (by show s.heap.size + 1 ≠ h0; omega))
  have hz : H1.size = s.heap.size + 2 := by omega
  have hS := hS1
  clear o1
  exact vz_ret (post := zp_X1 h0) hC hr hk hS (by omega) (vz_cons hO (vz_cons a0 (vz_cons a1 vz_nil))) (Nat.le_of_ble_eq_true rfl) (Nat.le_of_ble_eq_true rfl) dX1_init_21
def zp_X5 (h0 : Nat) (cy : Nat → ClassId) (sz : Nat) : va_W := [(h0, .inr (5, [.int 0, .ref (sz), .ref (sz + 1), .ref (sz + 2), .ref (sz + 3), .int 0, .ref (sz + 4), .ref (sz + 5), .ref (sz + 6), .int 2, .int 0, .int 0, .ref (sz + 7)])), (sz, .inl (cy 21, (6, .inr (.inl (fun _ => 0))))), (sz + 1, .inl (cy 20, (6, .inl (fun _ => 0)))), (sz + 2, .inl (cy 20, (6, .inl (fun _ => 0)))), (sz + 3, .inl (cy 20, (6, .inl (fun _ => 0)))), (sz + 4, .inl (cy 21, (5, .inr (.inl (fun _ => 0))))), (sz + 5, .inl (cy 20, (5, .inl (fun _ => 0)))), (sz + 6, .inl (cy 20, (5, .inl (fun _ => 0)))), (sz + 7, .inr (1, [.ref (sz + 8), .int 0, .ref (sz + 9)])), (sz + 8, .inl (cy 20, (1000, .inl (fun _ => 0)))), (sz + 9, .inl (cy 20, (32, .inl (fun _ => 0))))]
set_option maxHeartbeats 2000000 in
theorem zc_X5 (l : Launch) (h0 : Nat) : vz_M l yX5_init cX5_init 1 2 10 1074 [.ref h0] h0 5 [.int 0, .null, .null, .null, .null, .int 0, .null, .null, .null, .int 0, .int 0, .int 0, .null] (zp_X5 h0) := by
  refine vz_ofW (own := RX5) rfl rfl (by decide +kernel) ?_
  intro p e s m below meth c D cy hC hr hk hO
  have hx := hC.1
  have hb := hC.2.1
  have hlt := hC.2.2.2.2.2.2.2.1
  have hl := lv_entry ([.ref h0]) (n := 1) (Nat.le_of_ble_eq_true rfl)
  rw [lg_entry_eq]
  generalize (lg_sl ([.ref h0]) ++ List.replicate (1 - (lg_sl ([.ref h0])).length) Slot.unset).toArray = ls at hl ⊢
  have hl : lv_has ls 1 [(0, .ref h0)] := hl
  have hz : s.heap.size = s.heap.size := rfl
  have hS : va_S (vz_A h0 s.heap.size) s.heap s.heap [] := va_S.rf
  refine lv_aload_n hx hb dX5_init_0 rfl (lv_at hl 0 rfl) ?_
  refine vz_obj hC zO_X5 zOI zOC hl.1 dX5_init_1 (Nat.le_of_ble_eq_true rfl) (Nat.le_of_ble_eq_true rfl) ?_
  refine lv_aload_n hx hb dX5_init_4 rfl (lv_at hl 0 rfl) ?_
  refine lv_bipush (v := 6) hx hb dX5_init_5 (by decide) ?_
  refine vz_newa hC (atype := .long) (ty := .long) rfl zA_long 1 rfl (N := 6) (a0 := (6, .inr (.inl (fun _ => 0)))) (fun _ => rfl) (by decide) (by decide) (by decide) (Nat.le_of_ble_eq_true rfl) (Nat.le_of_ble_eq_true rfl) dX5_init_7 hS hz (fun H1 z1 at1 o1 hS1 => ?_)
  have hO := vz_at_k hO (o1 _ (by show h0 < _; omega))
  have a0 : va_at D vwCl (s.heap.size, .inl (cy 21, (6, .inr (.inl (fun _ => 0))))) H1 := at1
  have hz : H1.size = s.heap.size + 1 := by omega
  have hS := hS1
  clear o1
  refine vz_putF hC inT_X5 tyX5 tyX5_ok nmX5 hO rfl 1 (by decide) zF_X5_9 rfl rfl rfl rfl (Nat.le_of_ble_eq_true rfl) dX5_init_9 hS (Or.inl rfl) (fun H1 locs1 z1 hO1 o1 hS1 => ?_)
  have hO : va_at D vwCl (h0, .inr (5, [.int 0, .ref (s.heap.size), .null, .null, .null, .int 0, .null, .null, .null, .int 0, .int 0, .int 0, .null])) H1 := hO1
  have a0 := vz_at_k a0 (o1 _ (by show s.heap.size ≠ h0; omega))
  have hz : H1.size = s.heap.size + 1 := by omega
  have hS := hS1
  clear o1
  refine lv_aload_n hx hb dX5_init_12 rfl (lv_at hl 0 rfl) ?_
  refine lv_bipush (v := 6) hx hb dX5_init_13 (by decide) ?_
  refine vz_newa hC (atype := .int) (ty := .int) rfl zA_int 0 rfl (N := 6) (a0 := (6, .inl (fun _ => 0))) (fun _ => rfl) (by decide) (by decide) (by decide) (Nat.le_of_ble_eq_true rfl) (Nat.le_of_ble_eq_true rfl) dX5_init_15 hS hz (fun H1 z1 at1 o1 hS1 => ?_)
  have hO := vz_at_k hO (o1 _ (by show h0 < _; omega))
  have a0 := vz_at_k a0 (o1 _ (by show s.heap.size < s.heap.size + 1; omega))
  have a1 : va_at D vwCl (s.heap.size + 1, .inl (cy 20, (6, .inl (fun _ => 0)))) H1 := at1
  have hz : H1.size = s.heap.size + 2 := by omega
  have hS := hS1
  clear o1
  refine vz_putF hC inT_X5 tyX5 tyX5_ok nmX5 hO rfl 2 (by decide) zF_X5_15 rfl rfl rfl rfl (Nat.le_of_ble_eq_true rfl) dX5_init_17 hS (Or.inl rfl) (fun H1 locs1 z1 hO1 o1 hS1 => ?_)
  have hO : va_at D vwCl (h0, .inr (5, [.int 0, .ref (s.heap.size), .ref (s.heap.size + 1), .null, .null, .int 0, .null, .null, .null, .int 0, .int 0, .int 0, .null])) H1 := hO1
  have a0 := vz_at_k a0 (o1 _ (by show s.heap.size ≠ h0; omega))
  have a1 := vz_at_k a1 (o1 _ (by show s.heap.size + 1 ≠ h0; omega))
  have hz : H1.size = s.heap.size + 2 := by omega
  have hS := hS1
  clear o1
  refine lv_aload_n hx hb dX5_init_20 rfl (lv_at hl 0 rfl) ?_
  refine lv_bipush (v := 6) hx hb dX5_init_21 (by decide) ?_
  refine vz_newa hC (atype := .int) (ty := .int) rfl zA_int 0 rfl (N := 6) (a0 := (6, .inl (fun _ => 0))) (fun _ => rfl) (by decide) (by decide) (by decide) (Nat.le_of_ble_eq_true rfl) (Nat.le_of_ble_eq_true rfl) dX5_init_23 hS hz (fun H1 z1 at1 o1 hS1 => ?_)
  have hO := vz_at_k hO (o1 _ (by show h0 < _; omega))
  have a0 := vz_at_k a0 (o1 _ (by show s.heap.size < s.heap.size + 2; omega))
  have a1 := vz_at_k a1 (o1 _ (by show s.heap.size + 1 < s.heap.size + 2; omega))
  have a2 : va_at D vwCl (s.heap.size + 2, .inl (cy 20, (6, .inl (fun _ => 0)))) H1 := at1
  have hz : H1.size = s.heap.size + 3 := by omega
  have hS := hS1
  clear o1
  refine vz_putF hC inT_X5 tyX5 tyX5_ok nmX5 hO rfl 3 (by decide) zF_X5_19 rfl rfl rfl rfl (Nat.le_of_ble_eq_true rfl) dX5_init_25 hS (Or.inl rfl) (fun H1 locs1 z1 hO1 o1 hS1 => ?_)
  have hO : va_at D vwCl (h0, .inr (5, [.int 0, .ref (s.heap.size), .ref (s.heap.size + 1), .ref (s.heap.size + 2), .null, .int 0, .null, .null, .null, .int 0, .int 0, .int 0, .null])) H1 := hO1
  have a0 := vz_at_k a0 (o1 _ (by show s.heap.size ≠ h0; omega))
  have a1 := vz_at_k a1 (o1 _ (by show s.heap.size + 1 ≠ h0; omega))
  have a2 := vz_at_k a2 (o1 _ (by show s.heap.size + 2 ≠ h0; omega))
  have hz : H1.size = s.heap.size + 3 := by omega
  have hS := hS1
  clear o1
  refine lv_aload_n hx hb dX5_init_28 rfl (lv_at hl 0 rfl) ?_
  refine lv_bipush (v := 6) hx hb dX5_init_29 (by decide) ?_
  refine vz_newa hC (atype := .int) (ty := .int) rfl zA_int 0 rfl (N := 6) (a0 := (6, .inl (fun _ => 0))) (fun _ => rfl) (by decide) (by decide) (by decide) (Nat.le_of_ble_eq_true rfl) (Nat.le_of_ble_eq_true rfl) dX5_init_31 hS hz (fun H1 z1 at1 o1 hS1 => ?_)
  have hO := vz_at_k hO (o1 _ (by show h0 < _; omega))
  have a0 := vz_at_k a0 (o1 _ (by show s.heap.size < s.heap.size + 3; omega))
  have a1 := vz_at_k a1 (o1 _ (by show s.heap.size + 1 < s.heap.size + 3; omega))
  have a2 := vz_at_k a2 (o1 _ (by show s.heap.size + 2 < s.heap.size + 3; omega))
  have a3 : va_at D vwCl (s.heap.size + 3, .inl (cy 20, (6, .inl (fun _ => 0)))) H1 := at1
  have hz : H1.size = s.heap.size + 4 := by omega
  have hS := hS1
  clear o1
  refine vz_putF hC inT_X5 tyX5 tyX5_ok nmX5 hO rfl 4 (by decide) zF_X5_22 rfl rfl rfl rfl (Nat.le_of_ble_eq_true rfl) dX5_init_33 hS (Or.inl rfl) (fun H1 locs1 z1 hO1 o1 hS1 => ?_)
  have hO : va_at D vwCl (h0, .inr (5, [.int 0, .ref (s.heap.size), .ref (s.heap.size + 1), .ref (s.heap.size + 2), .ref (s.heap.size + 3), .int 0, .null, .null, .null, .int 0, .int 0, .int 0, .null])) H1 := hO1
  have a0 := vz_at_k a0 (o1 _ (by show s.heap.size ≠ h0; omega))
  have a1 := vz_at_k a1 (o1 _ (by show s.heap.size + 1 ≠ h0; omega))
  have a2 := vz_at_k a2 (o1 _ (by show s.heap.size + 2 ≠ h0; omega))
  have a3 := vz_at_k a3 (o1 _ (by show s.heap.size + 3 ≠ h0; omega))
  have hz : H1.size = s.heap.size + 4 := by omega
  have hS := hS1
  clear o1
  refine lv_aload_n hx hb dX5_init_36 rfl (lv_at hl 0 rfl) ?_
  refine lv_iconst (v := 5) hx hb dX5_init_37 (by decide) ?_
  refine vz_newa hC (atype := .long) (ty := .long) rfl zA_long 1 rfl (N := 5) (a0 := (5, .inr (.inl (fun _ => 0)))) (fun _ => rfl) (by decide) (by decide) (by decide) (Nat.le_of_ble_eq_true rfl) (Nat.le_of_ble_eq_true rfl) dX5_init_38 hS hz (fun H1 z1 at1 o1 hS1 => ?_)
  have hO := vz_at_k hO (o1 _ (by show h0 < _; omega))
  have a0 := vz_at_k a0 (o1 _ (by show s.heap.size < s.heap.size + 4; omega))
  have a1 := vz_at_k a1 (o1 _ (by show s.heap.size + 1 < s.heap.size + 4; omega))
  have a2 := vz_at_k a2 (o1 _ (by show s.heap.size + 2 < s.heap.size + 4; omega))
  have a3 := vz_at_k a3 (o1 _ (by show s.heap.size + 3 < s.heap.size + 4; omega))
  have a4 : va_at D vwCl (s.heap.size + 4, .inl (cy 21, (5, .inr (.inl (fun _ => 0))))) H1 := at1
  have hz : H1.size = s.heap.size + 5 := by omega
  have hS := hS1
  clear o1
  refine vz_putF hC inT_X5 tyX5 tyX5_ok nmX5 hO rfl 6 (by decide) zF_X5_25 rfl rfl rfl rfl (Nat.le_of_ble_eq_true rfl) dX5_init_40 hS (Or.inl rfl) (fun H1 locs1 z1 hO1 o1 hS1 => ?_)
  have hO : va_at D vwCl (h0, .inr (5, [.int 0, .ref (s.heap.size), .ref (s.heap.size + 1), .ref (s.heap.size + 2), .ref (s.heap.size + 3), .int 0, .ref (s.heap.size + 4), .null, .null, .int 0, .int 0, .int 0, .null])) H1 := hO1
  have a0 := vz_at_k a0 (o1 _ (by show s.heap.size ≠ h0; omega))
  have a1 := vz_at_k a1 (o1 _ (by show s.heap.size + 1 ≠ h0; omega))
  have a2 := vz_at_k a2 (o1 _ (by show s.heap.size + 2 ≠ h0; omega))
  have a3 := vz_at_k a3 (o1 _ (by show s.heap.size + 3 ≠ h0; omega))
  have a4 := vz_at_k a4 (o1 _ (by show s.heap.size + 4 ≠ h0; omega))
  have hz : H1.size = s.heap.size + 5 := by omega
  have hS := hS1
  clear o1
  refine lv_aload_n hx hb dX5_init_43 rfl (lv_at hl 0 rfl) ?_
  refine lv_iconst (v := 5) hx hb dX5_init_44 (by decide) ?_
  refine vz_newa hC (atype := .int) (ty := .int) rfl zA_int 0 rfl (N := 5) (a0 := (5, .inl (fun _ => 0))) (fun _ => rfl) (by decide) (by decide) (by decide) (Nat.le_of_ble_eq_true rfl) (Nat.le_of_ble_eq_true rfl) dX5_init_45 hS hz (fun H1 z1 at1 o1 hS1 => ?_)
  have hO := vz_at_k hO (o1 _ (by show h0 < _; omega))
  have a0 := vz_at_k a0 (o1 _ (by show s.heap.size < s.heap.size + 5; omega))
  have a1 := vz_at_k a1 (o1 _ (by show s.heap.size + 1 < s.heap.size + 5; omega))
  have a2 := vz_at_k a2 (o1 _ (by show s.heap.size + 2 < s.heap.size + 5; omega))
  have a3 := vz_at_k a3 (o1 _ (by show s.heap.size + 3 < s.heap.size + 5; omega))
  have a4 := vz_at_k a4 (o1 _ (by show s.heap.size + 4 < s.heap.size + 5; omega))
  have a5 : va_at D vwCl (s.heap.size + 5, .inl (cy 20, (5, .inl (fun _ => 0)))) H1 := at1
  have hz : H1.size = s.heap.size + 6 := by omega
  have hS := hS1
  clear o1
  refine vz_putF hC inT_X5 tyX5 tyX5_ok nmX5 hO rfl 7 (by decide) zF_X5_28 rfl rfl rfl rfl (Nat.le_of_ble_eq_true rfl) dX5_init_47 hS (Or.inl rfl) (fun H1 locs1 z1 hO1 o1 hS1 => ?_)
  have hO : va_at D vwCl (h0, .inr (5, [.int 0, .ref (s.heap.size), .ref (s.heap.size + 1), .ref (s.heap.size + 2), .ref (s.heap.size + 3), .int 0, .ref (s.heap.size + 4), .ref (s.heap.size + 5), .null, .int 0, .int 0, .int 0, .null])) H1 := hO1
  have a0 := vz_at_k a0 (o1 _ (by show s.heap.size ≠ h0; omega))
  have a1 := vz_at_k a1 (o1 _ (by show s.heap.size + 1 ≠ h0; omega))
  have a2 := vz_at_k a2 (o1 _ (by show s.heap.size + 2 ≠ h0; omega))
  have a3 := vz_at_k a3 (o1 _ (by show s.heap.size + 3 ≠ h0; omega))
  have a4 := vz_at_k a4 (o1 _ (by show s.heap.size + 4 ≠ h0; omega))
  have a5 := vz_at_k a5 (o1 _ (by show s.heap.size + 5 ≠ h0; omega))
  have hz : H1.size = s.heap.size + 6 := by omega
  have hS := hS1
  clear o1
  refine lv_aload_n hx hb dX5_init_50 rfl (lv_at hl 0 rfl) ?_
  refine lv_iconst (v := 5) hx hb dX5_init_51 (by decide) ?_
  refine vz_newa hC (atype := .int) (ty := .int) rfl zA_int 0 rfl (N := 5) (a0 := (5, .inl (fun _ => 0))) (fun _ => rfl) (by decide) (by decide) (by decide) (Nat.le_of_ble_eq_true rfl) (Nat.le_of_ble_eq_true rfl) dX5_init_52 hS hz (fun H1 z1 at1 o1 hS1 => ?_)
  have hO := vz_at_k hO (o1 _ (by show h0 < _; omega))
  have a0 := vz_at_k a0 (o1 _ (by show s.heap.size < s.heap.size + 6; omega))
  have a1 := vz_at_k a1 (o1 _ (by show s.heap.size + 1 < s.heap.size + 6; omega))
  have a2 := vz_at_k a2 (o1 _ (by show s.heap.size + 2 < s.heap.size + 6; omega))
  have a3 := vz_at_k a3 (o1 _ (by show s.heap.size + 3 < s.heap.size + 6; omega))
  have a4 := vz_at_k a4 (o1 _ (by show s.heap.size + 4 < s.heap.size + 6; omega))
  have a5 := vz_at_k a5 (o1 _ (by show s.heap.size + 5 < s.heap.size + 6; omega))
  have a6 : va_at D vwCl (s.heap.size + 6, .inl (cy 20, (5, .inl (fun _ => 0)))) H1 := at1
  have hz : H1.size = s.heap.size + 7 := by omega
  have hS := hS1
  clear o1
  refine vz_putF hC inT_X5 tyX5 tyX5_ok nmX5 hO rfl 8 (by decide) zF_X5_31 rfl rfl rfl rfl (Nat.le_of_ble_eq_true rfl) dX5_init_54 hS (Or.inl rfl) (fun H1 locs1 z1 hO1 o1 hS1 => ?_)
  have hO : va_at D vwCl (h0, .inr (5, [.int 0, .ref (s.heap.size), .ref (s.heap.size + 1), .ref (s.heap.size + 2), .ref (s.heap.size + 3), .int 0, .ref (s.heap.size + 4), .ref (s.heap.size + 5), .ref (s.heap.size + 6), .int 0, .int 0, .int 0, .null])) H1 := hO1
  have a0 := vz_at_k a0 (o1 _ (by show s.heap.size ≠ h0; omega))
  have a1 := vz_at_k a1 (o1 _ (by show s.heap.size + 1 ≠ h0; omega))
  have a2 := vz_at_k a2 (o1 _ (by show s.heap.size + 2 ≠ h0; omega))
  have a3 := vz_at_k a3 (o1 _ (by show s.heap.size + 3 ≠ h0; omega))
  have a4 := vz_at_k a4 (o1 _ (by show s.heap.size + 4 ≠ h0; omega))
  have a5 := vz_at_k a5 (o1 _ (by show s.heap.size + 5 ≠ h0; omega))
  have a6 := vz_at_k a6 (o1 _ (by show s.heap.size + 6 ≠ h0; omega))
  have hz : H1.size = s.heap.size + 7 := by omega
  have hS := hS1
  clear o1
  refine lv_aload_n hx hb dX5_init_57 rfl (lv_at hl 0 rfl) ?_
  refine lv_iconst (v := 2) hx hb dX5_init_58 (by decide) ?_
  refine vz_put hC inT_X5 tyX5 tyX5_ok nmX5 hO rfl 9 (by decide) zF_X5_34 rfl rfl rfl (Nat.le_of_ble_eq_true rfl) dX5_init_59 hS (Or.inl rfl) (fun H1 locs1 z1 hO1 o1 hS1 => ?_)
  have hO : va_at D vwCl (h0, .inr (5, [.int 0, .ref (s.heap.size), .ref (s.heap.size + 1), .ref (s.heap.size + 2), .ref (s.heap.size + 3), .int 0, .ref (s.heap.size + 4), .ref (s.heap.size + 5), .ref (s.heap.size + 6), .int 2, .int 0, .int 0, .null])) H1 := hO1
  have a0 := vz_at_k a0 (o1 _ (by show s.heap.size ≠ h0; omega))
  have a1 := vz_at_k a1 (o1 _ (by show s.heap.size + 1 ≠ h0; omega))
  have a2 := vz_at_k a2 (o1 _ (by show s.heap.size + 2 ≠ h0; omega))
  have a3 := vz_at_k a3 (o1 _ (by show s.heap.size + 3 ≠ h0; omega))
  have a4 := vz_at_k a4 (o1 _ (by show s.heap.size + 4 ≠ h0; omega))
  have a5 := vz_at_k a5 (o1 _ (by show s.heap.size + 5 ≠ h0; omega))
  have a6 := vz_at_k a6 (o1 _ (by show s.heap.size + 6 ≠ h0; omega))
  have hz : H1.size = s.heap.size + 7 := by omega
  have hS := hS1
  clear o1
  refine lv_aload_n hx hb dX5_init_62 rfl (lv_at hl 0 rfl) ?_
  refine vz_new (ci := 1) (fs := [.null, .int 0, .null]) hC inT_X1 tyX1 tyX1_ok zK_X5_38 zI_X1 kN_X1 rfl (by decide +kernel) (Nat.le_of_ble_eq_true rfl) (Nat.le_of_ble_eq_true rfl) dX5_init_63 hS hz (fun H1 z1 at1 o1 hS1 => ?_)
  have hO := vz_at_k hO (o1 _ (by show h0 < _; omega))
  have a0 := vz_at_k a0 (o1 _ (by show s.heap.size < s.heap.size + 7; omega))
  have a1 := vz_at_k a1 (o1 _ (by show s.heap.size + 1 < s.heap.size + 7; omega))
  have a2 := vz_at_k a2 (o1 _ (by show s.heap.size + 2 < s.heap.size + 7; omega))
  have a3 := vz_at_k a3 (o1 _ (by show s.heap.size + 3 < s.heap.size + 7; omega))
  have a4 := vz_at_k a4 (o1 _ (by show s.heap.size + 4 < s.heap.size + 7; omega))
  have a5 := vz_at_k a5 (o1 _ (by show s.heap.size + 5 < s.heap.size + 7; omega))
  have a6 := vz_at_k a6 (o1 _ (by show s.heap.size + 6 < s.heap.size + 7; omega))
  have atn := at1
  have hz : H1.size = s.heap.size + 8 := by omega
  have hS := hS1
  clear o1 at1
  refine lv_dup hx hb dX5_init_66 rfl ?_
  refine vz_callN (n := 0) (As := []) (rest := [.ref (s.heap.size + 7), .ref h0]) hC (zc_X1 l (s.heap.size + 7)) hC.2.2.2.2.2.2.2.2.2.2.1 zIM_X1_init kN_X1 zC_X1_init rfl (by decide +kernel) rfl ⟨Nat.le_of_ble_eq_true rfl, Nat.le_of_ble_eq_true rfl⟩ ⟨Nat.le_of_ble_eq_true rfl, Nat.le_of_ble_eq_true rfl⟩ hl.1 (Nat.le_of_ble_eq_true rfl) rfl dX5_init_67 hS atn (fun q hq => hq.elim (fun z => Or.inr (by omega)) (fun z => Or.inr (by omega))) (fun H2 locs2 z2 hp2 o2 hS2 => ?_)
  rw [hz] at hp2 z2
  have hO := vz_at_k hO (o2 _ (by show h0 < _; omega) (by show h0 ≠ _; omega))
  have a0 := vz_at_k a0 (o2 _ (by show s.heap.size < _; omega) (by show s.heap.size ≠ _; omega))
  have a1 := vz_at_k a1 (o2 _ (by show s.heap.size + 1 < _; omega) (by show s.heap.size + 1 ≠ _; omega))
  have a2 := vz_at_k a2 (o2 _ (by show s.heap.size + 2 < _; omega) (by show s.heap.size + 2 ≠ _; omega))
  have a3 := vz_at_k a3 (o2 _ (by show s.heap.size + 3 < _; omega) (by show s.heap.size + 3 ≠ _; omega))
  have a4 := vz_at_k a4 (o2 _ (by show s.heap.size + 4 < _; omega) (by show s.heap.size + 4 ≠ _; omega))
  have a5 := vz_at_k a5 (o2 _ (by show s.heap.size + 5 < _; omega) (by show s.heap.size + 5 ≠ _; omega))
  have a6 := vz_at_k a6 (o2 _ (by show s.heap.size + 6 < _; omega) (by show s.heap.size + 6 ≠ _; omega))
  have a7 : va_at D vwCl (s.heap.size + 7, .inr (1, [.ref (s.heap.size + 8), .int 0, .ref (s.heap.size + 9)])) H2 := hp2 0 _ rfl
  have a8 : va_at D vwCl (s.heap.size + 8, .inl (cy 20, (1000, .inl (fun _ => 0)))) H2 := hp2 1 _ rfl
  have a9 : va_at D vwCl (s.heap.size + 9, .inl (cy 20, (32, .inl (fun _ => 0)))) H2 := hp2 2 _ rfl
  have hz : H2.size = s.heap.size + 10 := by omega
  have hS := hS2
  clear o2 hp2 z2
  refine vz_putF hC inT_X5 tyX5 tyX5_ok nmX5 hO rfl 12 (by decide) zF_X5_41 rfl rfl rfl rfl (Nat.le_of_ble_eq_true rfl) dX5_init_70 hS (Or.inl rfl) (fun H1 locs1 z1 hO1 o1 hS1 => ?_)
  have hO : va_at D vwCl (h0, .inr (5, [.int 0, .ref (s.heap.size), .ref (s.heap.size + 1), .ref (s.heap.size + 2), .ref (s.heap.size + 3), .int 0, .ref (s.heap.size + 4), .ref (s.heap.size + 5), .ref (s.heap.size + 6), .int 2, .int 0, .int 0, .ref (s.heap.size + 7)])) H1 := hO1
  have a0 := vz_at_k a0 (o1 _ (by show s.heap.size ≠ h0; omega))
  have a1 := vz_at_k a1 (o1 _ (by show s.heap.size + 1 ≠ h0; omega))
  have a2 := vz_at_k a2 (o1 _ (by show s.heap.size + 2 ≠ h0; omega))
  have a3 := vz_at_k a3 (o1 _ (by show s.heap.size + 3 ≠ h0; omega))
  have a4 := vz_at_k a4 (o1 _ (by show s.heap.size + 4 ≠ h0; omega))
  have a5 := vz_at_k a5 (o1 _ (by show s.heap.size + 5 ≠ h0; omega))
  have a6 := vz_at_k a6 (o1 _ (by show s.heap.size + 6 ≠ h0; omega))
  have a7 := vz_at_k a7 (o1 _ (by show s.heap.size + 7 ≠ h0; omega))
  have a8 := vz_at_k a8 (o1 _ (by show s.heap.size + 8 ≠ h0; omega))
  have a9 := vz_at_k a9 (o1 _ (by show s.heap.size + 9 ≠ h0; omega))
  have hz : H1.size = s.heap.size + 10 := by omega
  have hS := hS1
  clear o1
  exact vz_ret (post := zp_X5 h0) hC hr hk hS (by omega) (vz_cons hO (vz_cons a0 (vz_cons a1 (vz_cons a2 (vz_cons a3 (vz_cons a4 (vz_cons a5 (vz_cons a6 (vz_cons a7 (vz_cons a8 (vz_cons a9 vz_nil))))))))))) (Nat.le_of_ble_eq_true rfl) (Nat.le_of_ble_eq_true rfl) dX5_init_73
def zp_X8 (h0 : Nat) (cy : Nat → ClassId) (sz : Nat) : va_W := [(h0, .inr (8, [.int 0, .ref (sz), .ref (sz + 1), .ref (sz + 2), .ref (sz + 3)])), (sz, .inl (cy 20, (40, .inl (fun _ => 0)))), (sz + 1, .inl (cy 20, (40, .inl (fun _ => 0)))), (sz + 2, .inl (cy 20, (40, .inl (fun _ => 0)))), (sz + 3, .inl (cy 20, (40, .inl (fun _ => 0))))]
set_option maxHeartbeats 2000000 in
theorem zc_X8 (l : Launch) (h0 : Nat) : vz_M l yX8_init cX8_init 1 1 4 160 [.ref h0] h0 8 [.int 0, .null, .null, .null, .null] (zp_X8 h0) := by
  refine vz_ofW (own := RX8) rfl rfl (by decide +kernel) ?_
  intro p e s m below meth c D cy hC hr hk hO
  have hx := hC.1
  have hb := hC.2.1
  have hlt := hC.2.2.2.2.2.2.2.1
  have hl := lv_entry ([.ref h0]) (n := 1) (Nat.le_of_ble_eq_true rfl)
  rw [lg_entry_eq]
  generalize (lg_sl ([.ref h0]) ++ List.replicate (1 - (lg_sl ([.ref h0])).length) Slot.unset).toArray = ls at hl ⊢
  have hl : lv_has ls 1 [(0, .ref h0)] := hl
  have hz : s.heap.size = s.heap.size := rfl
  have hS : va_S (vz_A h0 s.heap.size) s.heap s.heap [] := va_S.rf
  refine lv_aload_n hx hb dX8_init_0 rfl (lv_at hl 0 rfl) ?_
  refine vz_obj hC zO_X8 zOI zOC hl.1 dX8_init_1 (Nat.le_of_ble_eq_true rfl) (Nat.le_of_ble_eq_true rfl) ?_
  refine lv_aload_n hx hb dX8_init_4 rfl (lv_at hl 0 rfl) ?_
  refine lv_bipush (v := 40) hx hb dX8_init_5 (by decide) ?_
  refine vz_newa hC (atype := .int) (ty := .int) rfl zA_int 0 rfl (N := 40) (a0 := (40, .inl (fun _ => 0))) (fun _ => rfl) (by decide) (by decide) (by decide) (Nat.le_of_ble_eq_true rfl) (Nat.le_of_ble_eq_true rfl) dX8_init_7 hS hz (fun H1 z1 at1 o1 hS1 => ?_)
  have hO := vz_at_k hO (o1 _ (by show h0 < _; omega))
  have a0 : va_at D vwCl (s.heap.size, .inl (cy 20, (40, .inl (fun _ => 0)))) H1 := at1
  have hz : H1.size = s.heap.size + 1 := by omega
  have hS := hS1
  clear o1
  refine vz_putF hC inT_X8 tyX8 tyX8_ok nmX8 hO rfl 1 (by decide) zF_X8_9 rfl rfl rfl rfl (Nat.le_of_ble_eq_true rfl) dX8_init_9 hS (Or.inl rfl) (fun H1 locs1 z1 hO1 o1 hS1 => ?_)
  have hO : va_at D vwCl (h0, .inr (8, [.int 0, .ref (s.heap.size), .null, .null, .null])) H1 := hO1
  have a0 := vz_at_k a0 (o1 _ (by show s.heap.size ≠ h0; omega))
  have hz : H1.size = s.heap.size + 1 := by omega
  have hS := hS1
  clear o1
  refine lv_aload_n hx hb dX8_init_12 rfl (lv_at hl 0 rfl) ?_
  refine lv_bipush (v := 40) hx hb dX8_init_13 (by decide) ?_
  refine vz_newa hC (atype := .int) (ty := .int) rfl zA_int 0 rfl (N := 40) (a0 := (40, .inl (fun _ => 0))) (fun _ => rfl) (by decide) (by decide) (by decide) (Nat.le_of_ble_eq_true rfl) (Nat.le_of_ble_eq_true rfl) dX8_init_15 hS hz (fun H1 z1 at1 o1 hS1 => ?_)
  have hO := vz_at_k hO (o1 _ (by show h0 < _; omega))
  have a0 := vz_at_k a0 (o1 _ (by show s.heap.size < s.heap.size + 1; omega))
  have a1 : va_at D vwCl (s.heap.size + 1, .inl (cy 20, (40, .inl (fun _ => 0)))) H1 := at1
  have hz : H1.size = s.heap.size + 2 := by omega
  have hS := hS1
  clear o1
  refine vz_putF hC inT_X8 tyX8 tyX8_ok nmX8 hO rfl 2 (by decide) zF_X8_15 rfl rfl rfl rfl (Nat.le_of_ble_eq_true rfl) dX8_init_17 hS (Or.inl rfl) (fun H1 locs1 z1 hO1 o1 hS1 => ?_)
  have hO : va_at D vwCl (h0, .inr (8, [.int 0, .ref (s.heap.size), .ref (s.heap.size + 1), .null, .null])) H1 := hO1
  have a0 := vz_at_k a0 (o1 _ (by show s.heap.size ≠ h0; omega))
  have a1 := vz_at_k a1 (o1 _ (by show s.heap.size + 1 ≠ h0; omega))
  have hz : H1.size = s.heap.size + 2 := by omega
  have hS := hS1
  clear o1
  refine lv_aload_n hx hb dX8_init_20 rfl (lv_at hl 0 rfl) ?_
  refine lv_bipush (v := 40) hx hb dX8_init_21 (by decide) ?_
  refine vz_newa hC (atype := .int) (ty := .int) rfl zA_int 0 rfl (N := 40) (a0 := (40, .inl (fun _ => 0))) (fun _ => rfl) (by decide) (by decide) (by decide) (Nat.le_of_ble_eq_true rfl) (Nat.le_of_ble_eq_true rfl) dX8_init_23 hS hz (fun H1 z1 at1 o1 hS1 => ?_)
  have hO := vz_at_k hO (o1 _ (by show h0 < _; omega))
  have a0 := vz_at_k a0 (o1 _ (by show s.heap.size < s.heap.size + 2; omega))
  have a1 := vz_at_k a1 (o1 _ (by show s.heap.size + 1 < s.heap.size + 2; omega))
  have a2 : va_at D vwCl (s.heap.size + 2, .inl (cy 20, (40, .inl (fun _ => 0)))) H1 := at1
  have hz : H1.size = s.heap.size + 3 := by omega
  have hS := hS1
  clear o1
  refine vz_putF hC inT_X8 tyX8 tyX8_ok nmX8 hO rfl 3 (by decide) zF_X8_18 rfl rfl rfl rfl (Nat.le_of_ble_eq_true rfl) dX8_init_25 hS (Or.inl rfl) (fun H1 locs1 z1 hO1 o1 hS1 => ?_)
  have hO : va_at D vwCl (h0, .inr (8, [.int 0, .ref (s.heap.size), .ref (s.heap.size + 1), .ref (s.heap.size + 2), .null])) H1 := hO1
  have a0 := vz_at_k a0 (o1 _ (by show s.heap.size ≠ h0; omega))
  have a1 := vz_at_k a1 (o1 _ (by show s.heap.size + 1 ≠ h0; omega))
  have a2 := vz_at_k a2 (o1 _ (by show s.heap.size + 2 ≠ h0; omega))
  have hz : H1.size = s.heap.size + 3 := by omega
  have hS := hS1
  clear o1
  refine lv_aload_n hx hb dX8_init_28 rfl (lv_at hl 0 rfl) ?_
  refine lv_bipush (v := 40) hx hb dX8_init_29 (by decide) ?_
  refine vz_newa hC (atype := .int) (ty := .int) rfl zA_int 0 rfl (N := 40) (a0 := (40, .inl (fun _ => 0))) (fun _ => rfl) (by decide) (by decide) (by decide) (Nat.le_of_ble_eq_true rfl) (Nat.le_of_ble_eq_true rfl) dX8_init_31 hS hz (fun H1 z1 at1 o1 hS1 => ?_)
  have hO := vz_at_k hO (o1 _ (by show h0 < _; omega))
  have a0 := vz_at_k a0 (o1 _ (by show s.heap.size < s.heap.size + 3; omega))
  have a1 := vz_at_k a1 (o1 _ (by show s.heap.size + 1 < s.heap.size + 3; omega))
  have a2 := vz_at_k a2 (o1 _ (by show s.heap.size + 2 < s.heap.size + 3; omega))
  have a3 : va_at D vwCl (s.heap.size + 3, .inl (cy 20, (40, .inl (fun _ => 0)))) H1 := at1
  have hz : H1.size = s.heap.size + 4 := by omega
  have hS := hS1
  clear o1
  refine vz_putF hC inT_X8 tyX8 tyX8_ok nmX8 hO rfl 4 (by decide) zF_X8_21 rfl rfl rfl rfl (Nat.le_of_ble_eq_true rfl) dX8_init_33 hS (Or.inl rfl) (fun H1 locs1 z1 hO1 o1 hS1 => ?_)
  have hO : va_at D vwCl (h0, .inr (8, [.int 0, .ref (s.heap.size), .ref (s.heap.size + 1), .ref (s.heap.size + 2), .ref (s.heap.size + 3)])) H1 := hO1
  have a0 := vz_at_k a0 (o1 _ (by show s.heap.size ≠ h0; omega))
  have a1 := vz_at_k a1 (o1 _ (by show s.heap.size + 1 ≠ h0; omega))
  have a2 := vz_at_k a2 (o1 _ (by show s.heap.size + 2 ≠ h0; omega))
  have a3 := vz_at_k a3 (o1 _ (by show s.heap.size + 3 ≠ h0; omega))
  have hz : H1.size = s.heap.size + 4 := by omega
  have hS := hS1
  clear o1
  exact vz_ret (post := zp_X8 h0) hC hr hk hS (by omega) (vz_cons hO (vz_cons a0 (vz_cons a1 (vz_cons a2 (vz_cons a3 vz_nil))))) (Nat.le_of_ble_eq_true rfl) (Nat.le_of_ble_eq_true rfl) dX8_init_36
def zp_X7 (h0 : Nat) (cy : Nat → ClassId) (sz : Nat) : va_W := [(h0, .inr (7, [.ref (sz), .ref (sz + 1), .int 0, .int 0, .int 0])), (sz, .inl (cy 20, (6, .inl (fun _ => 0)))), (sz + 1, .inl (cy 20, (5, .inl (fun _ => 0))))]
set_option maxHeartbeats 2000000 in
theorem zc_X7 (l : Launch) (h0 : Nat) : vz_M l yX7_init cX7_init 1 1 2 11 [.ref h0] h0 7 [.null, .null, .int 0, .int 0, .int 0] (zp_X7 h0) := by
  refine vz_ofW (own := RX7) rfl rfl (by decide +kernel) ?_
  intro p e s m below meth c D cy hC hr hk hO
  have hx := hC.1
  have hb := hC.2.1
  have hlt := hC.2.2.2.2.2.2.2.1
  have hl := lv_entry ([.ref h0]) (n := 1) (Nat.le_of_ble_eq_true rfl)
  rw [lg_entry_eq]
  generalize (lg_sl ([.ref h0]) ++ List.replicate (1 - (lg_sl ([.ref h0])).length) Slot.unset).toArray = ls at hl ⊢
  have hl : lv_has ls 1 [(0, .ref h0)] := hl
  have hz : s.heap.size = s.heap.size := rfl
  have hS : va_S (vz_A h0 s.heap.size) s.heap s.heap [] := va_S.rf
  refine lv_aload_n hx hb dX7_init_0 rfl (lv_at hl 0 rfl) ?_
  refine vz_obj hC zO_X7 zOI zOC hl.1 dX7_init_1 (Nat.le_of_ble_eq_true rfl) (Nat.le_of_ble_eq_true rfl) ?_
  refine lv_aload_n hx hb dX7_init_4 rfl (lv_at hl 0 rfl) ?_
  refine lv_bipush (v := 6) hx hb dX7_init_5 (by decide) ?_
  refine vz_newa hC (atype := .int) (ty := .int) rfl zA_int 0 rfl (N := 6) (a0 := (6, .inl (fun _ => 0))) (fun _ => rfl) (by decide) (by decide) (by decide) (Nat.le_of_ble_eq_true rfl) (Nat.le_of_ble_eq_true rfl) dX7_init_7 hS hz (fun H1 z1 at1 o1 hS1 => ?_)
  have hO := vz_at_k hO (o1 _ (by show h0 < _; omega))
  have a0 : va_at D vwCl (s.heap.size, .inl (cy 20, (6, .inl (fun _ => 0)))) H1 := at1
  have hz : H1.size = s.heap.size + 1 := by omega
  have hS := hS1
  clear o1
  refine vz_putF hC inT_X7 tyX7 tyX7_ok nmX7 hO rfl 0 (by decide) zF_X7_9 rfl rfl rfl rfl (Nat.le_of_ble_eq_true rfl) dX7_init_9 hS (Or.inl rfl) (fun H1 locs1 z1 hO1 o1 hS1 => ?_)
  have hO : va_at D vwCl (h0, .inr (7, [.ref (s.heap.size), .null, .int 0, .int 0, .int 0])) H1 := hO1
  have a0 := vz_at_k a0 (o1 _ (by show s.heap.size ≠ h0; omega))
  have hz : H1.size = s.heap.size + 1 := by omega
  have hS := hS1
  clear o1
  refine lv_aload_n hx hb dX7_init_12 rfl (lv_at hl 0 rfl) ?_
  refine lv_iconst (v := 5) hx hb dX7_init_13 (by decide) ?_
  refine vz_newa hC (atype := .int) (ty := .int) rfl zA_int 0 rfl (N := 5) (a0 := (5, .inl (fun _ => 0))) (fun _ => rfl) (by decide) (by decide) (by decide) (Nat.le_of_ble_eq_true rfl) (Nat.le_of_ble_eq_true rfl) dX7_init_14 hS hz (fun H1 z1 at1 o1 hS1 => ?_)
  have hO := vz_at_k hO (o1 _ (by show h0 < _; omega))
  have a0 := vz_at_k a0 (o1 _ (by show s.heap.size < s.heap.size + 1; omega))
  have a1 : va_at D vwCl (s.heap.size + 1, .inl (cy 20, (5, .inl (fun _ => 0)))) H1 := at1
  have hz : H1.size = s.heap.size + 2 := by omega
  have hS := hS1
  clear o1
  refine vz_putF hC inT_X7 tyX7 tyX7_ok nmX7 hO rfl 1 (by decide) zF_X7_15 rfl rfl rfl rfl (Nat.le_of_ble_eq_true rfl) dX7_init_16 hS (Or.inl rfl) (fun H1 locs1 z1 hO1 o1 hS1 => ?_)
  have hO : va_at D vwCl (h0, .inr (7, [.ref (s.heap.size), .ref (s.heap.size + 1), .int 0, .int 0, .int 0])) H1 := hO1
  have a0 := vz_at_k a0 (o1 _ (by show s.heap.size ≠ h0; omega))
  have a1 := vz_at_k a1 (o1 _ (by show s.heap.size + 1 ≠ h0; omega))
  have hz : H1.size = s.heap.size + 2 := by omega
  have hS := hS1
  clear o1
  exact vz_ret (post := zp_X7 h0) hC hr hk hS (by omega) (vz_cons hO (vz_cons a0 (vz_cons a1 vz_nil))) (Nat.le_of_ble_eq_true rfl) (Nat.le_of_ble_eq_true rfl) dX7_init_19
def zp_X6 (h0 : Nat) (cy : Nat → ClassId) (sz : Nat) : va_W := [(h0, .inr (6, [.int 0, .ref (sz), .ref (sz + 1), .ref (sz + 2)])), (sz, .inl (cy 20, (8, .inl (fun _ => 0)))), (sz + 1, .inl (cy 23, (8, .inl (fun _ => 0)))), (sz + 2, .inl (cy 20, (31, .inl (fun _ => 0))))]
set_option maxHeartbeats 2000000 in
theorem zc_X6 (l : Launch) (h0 : Nat) : vz_M l yX6_init cX6_init 1 1 3 47 [.ref h0] h0 6 [.int 0, .null, .null, .null] (zp_X6 h0) := by
  refine vz_ofW (own := RX6) rfl rfl (by decide +kernel) ?_
  intro p e s m below meth c D cy hC hr hk hO
  have hx := hC.1
  have hb := hC.2.1
  have hlt := hC.2.2.2.2.2.2.2.1
  have hl := lv_entry ([.ref h0]) (n := 1) (Nat.le_of_ble_eq_true rfl)
  rw [lg_entry_eq]
  generalize (lg_sl ([.ref h0]) ++ List.replicate (1 - (lg_sl ([.ref h0])).length) Slot.unset).toArray = ls at hl ⊢
  have hl : lv_has ls 1 [(0, .ref h0)] := hl
  have hz : s.heap.size = s.heap.size := rfl
  have hS : va_S (vz_A h0 s.heap.size) s.heap s.heap [] := va_S.rf
  refine lv_aload_n hx hb dX6_init_0 rfl (lv_at hl 0 rfl) ?_
  refine vz_obj hC zO_X6 zOI zOC hl.1 dX6_init_1 (Nat.le_of_ble_eq_true rfl) (Nat.le_of_ble_eq_true rfl) ?_
  refine lv_aload_n hx hb dX6_init_4 rfl (lv_at hl 0 rfl) ?_
  refine lv_bipush (v := 8) hx hb dX6_init_5 (by decide) ?_
  refine vz_newa hC (atype := .int) (ty := .int) rfl zA_int 0 rfl (N := 8) (a0 := (8, .inl (fun _ => 0))) (fun _ => rfl) (by decide) (by decide) (by decide) (Nat.le_of_ble_eq_true rfl) (Nat.le_of_ble_eq_true rfl) dX6_init_7 hS hz (fun H1 z1 at1 o1 hS1 => ?_)
  have hO := vz_at_k hO (o1 _ (by show h0 < _; omega))
  have a0 : va_at D vwCl (s.heap.size, .inl (cy 20, (8, .inl (fun _ => 0)))) H1 := at1
  have hz : H1.size = s.heap.size + 1 := by omega
  have hS := hS1
  clear o1
  refine vz_putF hC inT_X6 tyX6 tyX6_ok nmX6 hO rfl 1 (by decide) zF_X6_9 rfl rfl rfl rfl (Nat.le_of_ble_eq_true rfl) dX6_init_9 hS (Or.inl rfl) (fun H1 locs1 z1 hO1 o1 hS1 => ?_)
  have hO : va_at D vwCl (h0, .inr (6, [.int 0, .ref (s.heap.size), .null, .null])) H1 := hO1
  have a0 := vz_at_k a0 (o1 _ (by show s.heap.size ≠ h0; omega))
  have hz : H1.size = s.heap.size + 1 := by omega
  have hS := hS1
  clear o1
  refine lv_aload_n hx hb dX6_init_12 rfl (lv_at hl 0 rfl) ?_
  refine lv_bipush (v := 8) hx hb dX6_init_13 (by decide) ?_
  refine vz_newa hC (atype := .boolean) (ty := .boolean) rfl zA_boolean 3 rfl (N := 8) (a0 := (8, .inl (fun _ => 0))) (fun _ => rfl) (by decide) (by decide) (by decide) (Nat.le_of_ble_eq_true rfl) (Nat.le_of_ble_eq_true rfl) dX6_init_15 hS hz (fun H1 z1 at1 o1 hS1 => ?_)
  have hO := vz_at_k hO (o1 _ (by show h0 < _; omega))
  have a0 := vz_at_k a0 (o1 _ (by show s.heap.size < s.heap.size + 1; omega))
  have a1 : va_at D vwCl (s.heap.size + 1, .inl (cy 23, (8, .inl (fun _ => 0)))) H1 := at1
  have hz : H1.size = s.heap.size + 2 := by omega
  have hS := hS1
  clear o1
  refine vz_putF hC inT_X6 tyX6 tyX6_ok nmX6 hO rfl 2 (by decide) zF_X6_15 rfl rfl rfl rfl (Nat.le_of_ble_eq_true rfl) dX6_init_17 hS (Or.inl rfl) (fun H1 locs1 z1 hO1 o1 hS1 => ?_)
  have hO : va_at D vwCl (h0, .inr (6, [.int 0, .ref (s.heap.size), .ref (s.heap.size + 1), .null])) H1 := hO1
  have a0 := vz_at_k a0 (o1 _ (by show s.heap.size ≠ h0; omega))
  have a1 := vz_at_k a1 (o1 _ (by show s.heap.size + 1 ≠ h0; omega))
  have hz : H1.size = s.heap.size + 2 := by omega
  have hS := hS1
  clear o1
  refine lv_aload_n hx hb dX6_init_20 rfl (lv_at hl 0 rfl) ?_
  refine lv_bipush (v := 31) hx hb dX6_init_21 (by decide) ?_
  refine vz_newa hC (atype := .int) (ty := .int) rfl zA_int 0 rfl (N := 31) (a0 := (31, .inl (fun _ => 0))) (fun _ => rfl) (by decide) (by decide) (by decide) (Nat.le_of_ble_eq_true rfl) (Nat.le_of_ble_eq_true rfl) dX6_init_23 hS hz (fun H1 z1 at1 o1 hS1 => ?_)
  have hO := vz_at_k hO (o1 _ (by show h0 < _; omega))
  have a0 := vz_at_k a0 (o1 _ (by show s.heap.size < s.heap.size + 2; omega))
  have a1 := vz_at_k a1 (o1 _ (by show s.heap.size + 1 < s.heap.size + 2; omega))
  have a2 : va_at D vwCl (s.heap.size + 2, .inl (cy 20, (31, .inl (fun _ => 0)))) H1 := at1
  have hz : H1.size = s.heap.size + 3 := by omega
  have hS := hS1
  clear o1
  refine vz_putF hC inT_X6 tyX6 tyX6_ok nmX6 hO rfl 3 (by decide) zF_X6_19 rfl rfl rfl rfl (Nat.le_of_ble_eq_true rfl) dX6_init_25 hS (Or.inl rfl) (fun H1 locs1 z1 hO1 o1 hS1 => ?_)
  have hO : va_at D vwCl (h0, .inr (6, [.int 0, .ref (s.heap.size), .ref (s.heap.size + 1), .ref (s.heap.size + 2)])) H1 := hO1
  have a0 := vz_at_k a0 (o1 _ (by show s.heap.size ≠ h0; omega))
  have a1 := vz_at_k a1 (o1 _ (by show s.heap.size + 1 ≠ h0; omega))
  have a2 := vz_at_k a2 (o1 _ (by show s.heap.size + 2 ≠ h0; omega))
  have hz : H1.size = s.heap.size + 3 := by omega
  have hS := hS1
  clear o1
  exact vz_ret (post := zp_X6 h0) hC hr hk hS (by omega) (vz_cons hO (vz_cons a0 (vz_cons a1 (vz_cons a2 vz_nil)))) (Nat.le_of_ble_eq_true rfl) (Nat.le_of_ble_eq_true rfl) dX6_init_28
def zp_X0 (h0 : Nat) (cy : Nat → ClassId) (sz : Nat) : va_W := [(h0, .inr (0, [.ref (sz), .int 0, .int 0])), (sz, .inl (cy 20, (32, .inl (fun _ => 0))))]
set_option maxHeartbeats 2000000 in
theorem zc_X0 (l : Launch) (h0 : Nat) : vz_M l yX0_init cX0_init 1 1 1 32 [.ref h0] h0 0 [.null, .int 0, .int 0] (zp_X0 h0) := by
  refine vz_ofW (own := RX0) rfl rfl (by decide +kernel) ?_
  intro p e s m below meth c D cy hC hr hk hO
  have hx := hC.1
  have hb := hC.2.1
  have hlt := hC.2.2.2.2.2.2.2.1
  have hl := lv_entry ([.ref h0]) (n := 1) (Nat.le_of_ble_eq_true rfl)
  rw [lg_entry_eq]
  generalize (lg_sl ([.ref h0]) ++ List.replicate (1 - (lg_sl ([.ref h0])).length) Slot.unset).toArray = ls at hl ⊢
  have hl : lv_has ls 1 [(0, .ref h0)] := hl
  have hz : s.heap.size = s.heap.size := rfl
  have hS : va_S (vz_A h0 s.heap.size) s.heap s.heap [] := va_S.rf
  refine lv_aload_n hx hb dX0_init_0 rfl (lv_at hl 0 rfl) ?_
  refine vz_obj hC zO_X0 zOI zOC hl.1 dX0_init_1 (Nat.le_of_ble_eq_true rfl) (Nat.le_of_ble_eq_true rfl) ?_
  refine lv_aload_n hx hb dX0_init_4 rfl (lv_at hl 0 rfl) ?_
  refine lv_bipush (v := 32) hx hb dX0_init_5 (by decide) ?_
  refine vz_newa hC (atype := .int) (ty := .int) rfl zA_int 0 rfl (N := 32) (a0 := (32, .inl (fun _ => 0))) (fun _ => rfl) (by decide) (by decide) (by decide) (Nat.le_of_ble_eq_true rfl) (Nat.le_of_ble_eq_true rfl) dX0_init_7 hS hz (fun H1 z1 at1 o1 hS1 => ?_)
  have hO := vz_at_k hO (o1 _ (by show h0 < _; omega))
  have a0 : va_at D vwCl (s.heap.size, .inl (cy 20, (32, .inl (fun _ => 0)))) H1 := at1
  have hz : H1.size = s.heap.size + 1 := by omega
  have hS := hS1
  clear o1
  refine vz_putF hC inT_X0 tyX0 tyX0_ok nmX0 hO rfl 0 (by decide) zF_X0_9 rfl rfl rfl rfl (Nat.le_of_ble_eq_true rfl) dX0_init_9 hS (Or.inl rfl) (fun H1 locs1 z1 hO1 o1 hS1 => ?_)
  have hO : va_at D vwCl (h0, .inr (0, [.ref (s.heap.size), .int 0, .int 0])) H1 := hO1
  have a0 := vz_at_k a0 (o1 _ (by show s.heap.size ≠ h0; omega))
  have hz : H1.size = s.heap.size + 1 := by omega
  have hS := hS1
  clear o1
  exact vz_ret (post := zp_X0 h0) hC hr hk hS (by omega) (vz_cons hO (vz_cons a0 vz_nil)) (Nat.le_of_ble_eq_true rfl) (Nat.le_of_ble_eq_true rfl) dX0_init_12
def zp_X3 (h0 : Nat) (cy : Nat → ClassId) (sz : Nat) : va_W := [(h0, .inr (3, [.int 0, .ref (sz), .ref (sz + 3), .ref (sz + 8)])), (sz, .inr (7, [.ref (sz + 1), .ref (sz + 2), .int 0, .int 0, .int 0])), (sz + 1, .inl (cy 20, (6, .inl (fun _ => 0)))), (sz + 2, .inl (cy 20, (5, .inl (fun _ => 0)))), (sz + 3, .inr (8, [.int 0, .ref (sz + 4), .ref (sz + 5), .ref (sz + 6), .ref (sz + 7)])), (sz + 4, .inl (cy 20, (40, .inl (fun _ => 0)))), (sz + 5, .inl (cy 20, (40, .inl (fun _ => 0)))), (sz + 6, .inl (cy 20, (40, .inl (fun _ => 0)))), (sz + 7, .inl (cy 20, (40, .inl (fun _ => 0)))), (sz + 8, .inr (6, [.int 0, .ref (sz + 9), .ref (sz + 10), .ref (sz + 11)])), (sz + 9, .inl (cy 20, (8, .inl (fun _ => 0)))), (sz + 10, .inl (cy 23, (8, .inl (fun _ => 0)))), (sz + 11, .inl (cy 20, (31, .inl (fun _ => 0))))]
set_option maxHeartbeats 2000000 in
theorem zc_X3 (l : Launch) (h0 : Nat) : vz_M l yX3_init cX3_init 1 2 12 232 [.ref h0] h0 3 [.int 0, .null, .null, .null] (zp_X3 h0) := by
  refine vz_ofW (own := RX3) rfl rfl (by decide +kernel) ?_
  intro p e s m below meth c D cy hC hr hk hO
  have hx := hC.1
  have hb := hC.2.1
  have hlt := hC.2.2.2.2.2.2.2.1
  have hl := lv_entry ([.ref h0]) (n := 1) (Nat.le_of_ble_eq_true rfl)
  rw [lg_entry_eq]
  generalize (lg_sl ([.ref h0]) ++ List.replicate (1 - (lg_sl ([.ref h0])).length) Slot.unset).toArray = ls at hl ⊢
  have hl : lv_has ls 1 [(0, .ref h0)] := hl
  have hz : s.heap.size = s.heap.size := rfl
  have hS : va_S (vz_A h0 s.heap.size) s.heap s.heap [] := va_S.rf
  refine lv_aload_n hx hb dX3_init_0 rfl (lv_at hl 0 rfl) ?_
  refine vz_obj hC zO_X3 zOI zOC hl.1 dX3_init_1 (Nat.le_of_ble_eq_true rfl) (Nat.le_of_ble_eq_true rfl) ?_
  refine lv_aload_n hx hb dX3_init_4 rfl (lv_at hl 0 rfl) ?_
  refine vz_new (ci := 7) (fs := [.null, .null, .int 0, .int 0, .int 0]) hC inT_X7 tyX7 tyX7_ok zK_X3_7 zI_X7 kN_X7 rfl (by decide +kernel) (Nat.le_of_ble_eq_true rfl) (Nat.le_of_ble_eq_true rfl) dX3_init_5 hS hz (fun H1 z1 at1 o1 hS1 => ?_)
  have hO := vz_at_k hO (o1 _ (by show h0 < _; omega))
  have atn := at1
  have hz : H1.size = s.heap.size + 1 := by omega
  have hS := hS1
  clear o1 at1
  refine lv_dup hx hb dX3_init_8 rfl ?_
  refine vz_callN (n := 0) (As := []) (rest := [.ref (s.heap.size), .ref h0]) hC (zc_X7 l (s.heap.size)) hC.2.2.2.2.2.2.2.2.2.2.2.2.2.2.2.2.1 zIM_X7_init kN_X7 zC_X7_init rfl (by decide +kernel) rfl ⟨Nat.le_of_ble_eq_true rfl, Nat.le_of_ble_eq_true rfl⟩ ⟨Nat.le_of_ble_eq_true rfl, Nat.le_of_ble_eq_true rfl⟩ hl.1 (Nat.le_of_ble_eq_true rfl) rfl dX3_init_9 hS atn (fun q hq => hq.elim (fun z => Or.inr (by omega)) (fun z => Or.inr (by omega))) (fun H2 locs2 z2 hp2 o2 hS2 => ?_)
  rw [hz] at hp2 z2
  have hO := vz_at_k hO (o2 _ (by show h0 < _; omega) (by show h0 ≠ _; omega))
  have a0 : va_at D vwCl (s.heap.size, .inr (7, [.ref (s.heap.size + 1), .ref (s.heap.size + 2), .int 0, .int 0, .int 0])) H2 := hp2 0 _ rfl
  have a1 : va_at D vwCl (s.heap.size + 1, .inl (cy 20, (6, .inl (fun _ => 0)))) H2 := hp2 1 _ rfl
  have a2 : va_at D vwCl (s.heap.size + 2, .inl (cy 20, (5, .inl (fun _ => 0)))) H2 := hp2 2 _ rfl
  have hz : H2.size = s.heap.size + 3 := by omega
  have hS := hS2
  clear o2 hp2 z2
  refine vz_putF hC inT_X3 tyX3 tyX3_ok nmX3 hO rfl 1 (by decide) zF_X3_10 rfl rfl rfl rfl (Nat.le_of_ble_eq_true rfl) dX3_init_12 hS (Or.inl rfl) (fun H1 locs1 z1 hO1 o1 hS1 => ?_)
  have hO : va_at D vwCl (h0, .inr (3, [.int 0, .ref (s.heap.size), .null, .null])) H1 := hO1
  have a0 := vz_at_k a0 (o1 _ (by show s.heap.size ≠ h0; omega))
  have a1 := vz_at_k a1 (o1 _ (by show s.heap.size + 1 ≠ h0; omega))
  have a2 := vz_at_k a2 (o1 _ (by show s.heap.size + 2 ≠ h0; omega))
  have hz : H1.size = s.heap.size + 3 := by omega
  have hS := hS1
  clear o1
  refine lv_aload_n hx hb dX3_init_15 rfl (lv_at hl 0 rfl) ?_
  refine vz_new (ci := 8) (fs := [.int 0, .null, .null, .null, .null]) hC inT_X8 tyX8 tyX8_ok zK_X3_16 zI_X8 kN_X8 rfl (by decide +kernel) (Nat.le_of_ble_eq_true rfl) (Nat.le_of_ble_eq_true rfl) dX3_init_16 hS hz (fun H1 z1 at1 o1 hS1 => ?_)
  have hO := vz_at_k hO (o1 _ (by show h0 < _; omega))
  have a0 := vz_at_k a0 (o1 _ (by show s.heap.size < s.heap.size + 3; omega))
  have a1 := vz_at_k a1 (o1 _ (by show s.heap.size + 1 < s.heap.size + 3; omega))
  have a2 := vz_at_k a2 (o1 _ (by show s.heap.size + 2 < s.heap.size + 3; omega))
  have atn := at1
  have hz : H1.size = s.heap.size + 4 := by omega
  have hS := hS1
  clear o1 at1
  refine lv_dup hx hb dX3_init_19 rfl ?_
  refine vz_callN (n := 0) (As := []) (rest := [.ref (s.heap.size + 3), .ref h0]) hC (zc_X8 l (s.heap.size + 3)) hC.2.2.2.2.2.2.2.2.2.2.2.2.2.2.2.2.2.1 zIM_X8_init kN_X8 zC_X8_init rfl (by decide +kernel) rfl ⟨Nat.le_of_ble_eq_true rfl, Nat.le_of_ble_eq_true rfl⟩ ⟨Nat.le_of_ble_eq_true rfl, Nat.le_of_ble_eq_true rfl⟩ hl.1 (Nat.le_of_ble_eq_true rfl) rfl dX3_init_20 hS atn (fun q hq => hq.elim (fun z => Or.inr (by omega)) (fun z => Or.inr (by omega))) (fun H2 locs2 z2 hp2 o2 hS2 => ?_)
  rw [hz] at hp2 z2
  have hO := vz_at_k hO (o2 _ (by show h0 < _; omega) (by show h0 ≠ _; omega))
  have a0 := vz_at_k a0 (o2 _ (by show s.heap.size < _; omega) (by show s.heap.size ≠ _; omega))
  have a1 := vz_at_k a1 (o2 _ (by show s.heap.size + 1 < _; omega) (by show s.heap.size + 1 ≠ _; omega))
  have a2 := vz_at_k a2 (o2 _ (by show s.heap.size + 2 < _; omega) (by show s.heap.size + 2 ≠ _; omega))
  have a3 : va_at D vwCl (s.heap.size + 3, .inr (8, [.int 0, .ref (s.heap.size + 4), .ref (s.heap.size + 5), .ref (s.heap.size + 6), .ref (s.heap.size + 7)])) H2 := hp2 0 _ rfl
  have a4 : va_at D vwCl (s.heap.size + 4, .inl (cy 20, (40, .inl (fun _ => 0)))) H2 := hp2 1 _ rfl
  have a5 : va_at D vwCl (s.heap.size + 5, .inl (cy 20, (40, .inl (fun _ => 0)))) H2 := hp2 2 _ rfl
  have a6 : va_at D vwCl (s.heap.size + 6, .inl (cy 20, (40, .inl (fun _ => 0)))) H2 := hp2 3 _ rfl
  have a7 : va_at D vwCl (s.heap.size + 7, .inl (cy 20, (40, .inl (fun _ => 0)))) H2 := hp2 4 _ rfl
  have hz : H2.size = s.heap.size + 8 := by omega
  have hS := hS2
  clear o2 hp2 z2
  refine vz_putF hC inT_X3 tyX3 tyX3_ok nmX3 hO rfl 2 (by decide) zF_X3_19 rfl rfl rfl rfl (Nat.le_of_ble_eq_true rfl) dX3_init_23 hS (Or.inl rfl) (fun H1 locs1 z1 hO1 o1 hS1 => ?_)
  have hO : va_at D vwCl (h0, .inr (3, [.int 0, .ref (s.heap.size), .ref (s.heap.size + 3), .null])) H1 := hO1
  have a0 := vz_at_k a0 (o1 _ (by show s.heap.size ≠ h0; omega))
  have a1 := vz_at_k a1 (o1 _ (by show s.heap.size + 1 ≠ h0; omega))
  have a2 := vz_at_k a2 (o1 _ (by show s.heap.size + 2 ≠ h0; omega))
  have a3 := vz_at_k a3 (o1 _ (by show s.heap.size + 3 ≠ h0; omega))
  have a4 := vz_at_k a4 (o1 _ (by show s.heap.size + 4 ≠ h0; omega))
  have a5 := vz_at_k a5 (o1 _ (by show s.heap.size + 5 ≠ h0; omega))
  have a6 := vz_at_k a6 (o1 _ (by show s.heap.size + 6 ≠ h0; omega))
  have a7 := vz_at_k a7 (o1 _ (by show s.heap.size + 7 ≠ h0; omega))
  have hz : H1.size = s.heap.size + 8 := by omega
  have hS := hS1
  clear o1
  refine lv_aload_n hx hb dX3_init_26 rfl (lv_at hl 0 rfl) ?_
  refine vz_new (ci := 6) (fs := [.int 0, .null, .null, .null]) hC inT_X6 tyX6 tyX6_ok zK_X3_23 zI_X6 kN_X6 rfl (by decide +kernel) (Nat.le_of_ble_eq_true rfl) (Nat.le_of_ble_eq_true rfl) dX3_init_27 hS hz (fun H1 z1 at1 o1 hS1 => ?_)
  have hO := vz_at_k hO (o1 _ (by show h0 < _; omega))
  have a0 := vz_at_k a0 (o1 _ (by show s.heap.size < s.heap.size + 8; omega))
  have a1 := vz_at_k a1 (o1 _ (by show s.heap.size + 1 < s.heap.size + 8; omega))
  have a2 := vz_at_k a2 (o1 _ (by show s.heap.size + 2 < s.heap.size + 8; omega))
  have a3 := vz_at_k a3 (o1 _ (by show s.heap.size + 3 < s.heap.size + 8; omega))
  have a4 := vz_at_k a4 (o1 _ (by show s.heap.size + 4 < s.heap.size + 8; omega))
  have a5 := vz_at_k a5 (o1 _ (by show s.heap.size + 5 < s.heap.size + 8; omega))
  have a6 := vz_at_k a6 (o1 _ (by show s.heap.size + 6 < s.heap.size + 8; omega))
  have a7 := vz_at_k a7 (o1 _ (by show s.heap.size + 7 < s.heap.size + 8; omega))
  have atn := at1
  have hz : H1.size = s.heap.size + 9 := by omega
  have hS := hS1
  clear o1 at1
  refine lv_dup hx hb dX3_init_30 rfl ?_
  refine vz_callN (n := 0) (As := []) (rest := [.ref (s.heap.size + 8), .ref h0]) hC (zc_X6 l (s.heap.size + 8)) hC.2.2.2.2.2.2.2.2.2.2.2.2.2.2.2.2.2.2.1 zIM_X6_init kN_X6 zC_X6_init rfl (by decide +kernel) rfl ⟨Nat.le_of_ble_eq_true rfl, Nat.le_of_ble_eq_true rfl⟩ ⟨Nat.le_of_ble_eq_true rfl, Nat.le_of_ble_eq_true rfl⟩ hl.1 (Nat.le_of_ble_eq_true rfl) rfl dX3_init_31 hS atn (fun q hq => hq.elim (fun z => Or.inr (by omega)) (fun z => Or.inr (by omega))) (fun H2 locs2 z2 hp2 o2 hS2 => ?_)
  rw [hz] at hp2 z2
  have hO := vz_at_k hO (o2 _ (by show h0 < _; omega) (by show h0 ≠ _; omega))
  have a0 := vz_at_k a0 (o2 _ (by show s.heap.size < _; omega) (by show s.heap.size ≠ _; omega))
  have a1 := vz_at_k a1 (o2 _ (by show s.heap.size + 1 < _; omega) (by show s.heap.size + 1 ≠ _; omega))
  have a2 := vz_at_k a2 (o2 _ (by show s.heap.size + 2 < _; omega) (by show s.heap.size + 2 ≠ _; omega))
  have a3 := vz_at_k a3 (o2 _ (by show s.heap.size + 3 < _; omega) (by show s.heap.size + 3 ≠ _; omega))
  have a4 := vz_at_k a4 (o2 _ (by show s.heap.size + 4 < _; omega) (by show s.heap.size + 4 ≠ _; omega))
  have a5 := vz_at_k a5 (o2 _ (by show s.heap.size + 5 < _; omega) (by show s.heap.size + 5 ≠ _; omega))
  have a6 := vz_at_k a6 (o2 _ (by show s.heap.size + 6 < _; omega) (by show s.heap.size + 6 ≠ _; omega))
  have a7 := vz_at_k a7 (o2 _ (by show s.heap.size + 7 < _; omega) (by show s.heap.size + 7 ≠ _; omega))
  have a8 : va_at D vwCl (s.heap.size + 8, .inr (6, [.int 0, .ref (s.heap.size + 9), .ref (s.heap.size + 10), .ref (s.heap.size + 11)])) H2 := hp2 0 _ rfl
  have a9 : va_at D vwCl (s.heap.size + 9, .inl (cy 20, (8, .inl (fun _ => 0)))) H2 := hp2 1 _ rfl
  have a10 : va_at D vwCl (s.heap.size + 10, .inl (cy 23, (8, .inl (fun _ => 0)))) H2 := hp2 2 _ rfl
  have a11 : va_at D vwCl (s.heap.size + 11, .inl (cy 20, (31, .inl (fun _ => 0)))) H2 := hp2 3 _ rfl
  have hz : H2.size = s.heap.size + 12 := by omega
  have hS := hS2
  clear o2 hp2 z2
  refine vz_putF hC inT_X3 tyX3 tyX3_ok nmX3 hO rfl 3 (by decide) zF_X3_26 rfl rfl rfl rfl (Nat.le_of_ble_eq_true rfl) dX3_init_34 hS (Or.inl rfl) (fun H1 locs1 z1 hO1 o1 hS1 => ?_)
  have hO : va_at D vwCl (h0, .inr (3, [.int 0, .ref (s.heap.size), .ref (s.heap.size + 3), .ref (s.heap.size + 8)])) H1 := hO1
  have a0 := vz_at_k a0 (o1 _ (by show s.heap.size ≠ h0; omega))
  have a1 := vz_at_k a1 (o1 _ (by show s.heap.size + 1 ≠ h0; omega))
  have a2 := vz_at_k a2 (o1 _ (by show s.heap.size + 2 ≠ h0; omega))
  have a3 := vz_at_k a3 (o1 _ (by show s.heap.size + 3 ≠ h0; omega))
  have a4 := vz_at_k a4 (o1 _ (by show s.heap.size + 4 ≠ h0; omega))
  have a5 := vz_at_k a5 (o1 _ (by show s.heap.size + 5 ≠ h0; omega))
  have a6 := vz_at_k a6 (o1 _ (by show s.heap.size + 6 ≠ h0; omega))
  have a7 := vz_at_k a7 (o1 _ (by show s.heap.size + 7 ≠ h0; omega))
  have a8 := vz_at_k a8 (o1 _ (by show s.heap.size + 8 ≠ h0; omega))
  have a9 := vz_at_k a9 (o1 _ (by show s.heap.size + 9 ≠ h0; omega))
  have a10 := vz_at_k a10 (o1 _ (by show s.heap.size + 10 ≠ h0; omega))
  have a11 := vz_at_k a11 (o1 _ (by show s.heap.size + 11 ≠ h0; omega))
  have hz : H1.size = s.heap.size + 12 := by omega
  have hS := hS1
  clear o1
  exact vz_ret (post := zp_X3 h0) hC hr hk hS (by omega) (vz_cons hO (vz_cons a0 (vz_cons a1 (vz_cons a2 (vz_cons a3 (vz_cons a4 (vz_cons a5 (vz_cons a6 (vz_cons a7 (vz_cons a8 (vz_cons a9 (vz_cons a10 (vz_cons a11 vz_nil))))))))))))) (Nat.le_of_ble_eq_true rfl) (Nat.le_of_ble_eq_true rfl) dX3_init_37
