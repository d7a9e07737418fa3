/-! ===== the model's constructor ===== -/
/-- the cells made so far: those of the layout whose place is below K -/
def zh (D : va_G) (cy : Nat → ClassId) (Y : LY) (ad : Nat → Nat) (σ : FH) (off : Nat → Nat) (B : Nat → Bool) (K : Nat) (H : Heap) : Prop := ∀ i k, Y[i]? = some k → 0 < i → off i < K → B i = false → va_at D vwCl (ad i, fx_ce cy ad σ i k) H
theorem zh_0 {D : va_G} {cy : Nat → ClassId} {Y : LY} {ad : Nat → Nat} {σ : FH} {off : Nat → Nat} {B : Nat → Bool} {H : Heap} : zh D cy Y ad σ off B 0 H := fun _ _ _ _ h => absurd h (Nat.not_lt_zero _)
theorem zh_k {D : va_G} {cy : Nat → ClassId} {Y : LY} {ad : Nat → Nat} {σ : FH} {off : Nat → Nat} {B : Nat → Bool} {K sz : Nat} {H H1 : Heap} (h : zh D cy Y ad σ off B K H) (ha : ∀ i, 0 < i → i < Y.length → ad i = sz + off i) (ho : ∀ q, sz ≤ q → q < sz + K → H1[q]? = H[q]?) : zh D cy Y ad σ off B K H1 := by
  intro i k h1 h2 h3 h4
  have hi := fx_len h1
  refine vz_at_k (h i k h1 h2 h3 h4) (ho _ ?_ ?_)
  · show sz ≤ ad i
    rw [ha i h2 hi]; omega
  · show ad i < sz + K
    rw [ha i h2 hi]; omega
theorem zh_s {D : va_G} {cy : Nat → ClassId} {Y : LY} {ad : Nat → Nat} {σ : FH} {off cof : Nat → Nat} {B : Nat → Bool} {K : Nat} {H : Heap} (h : zh D cy Y ad σ off B K H) (hc : ∀ i, 0 < i → i < Y.length → cof (off i) = i) (i0 : Nat) {k0 : Nat × Nat} (hi : Y[i0]? = some k0) (he : cof K = i0) (ha : va_at D vwCl (ad i0, fx_ce cy ad σ i0 k0) H) : zh D cy Y ad σ off B (K + 1) H := by
  intro i k h1 h2 h3 h4
  by_cases hz : off i = K
  · have := hc i h2 (fx_len h1)
    rw [hz, he] at this
    subst this
    cases hi.symm.trans h1
    exact ha
  · exact h i k h1 h2 (by omega) h4
theorem zh_x {D : va_G} {cy : Nat → ClassId} {Y : LY} {ad : Nat → Nat} {σ : FH} {off cof : Nat → Nat} {B : Nat → Bool} {K : Nat} {H : Heap} (h : zh D cy Y ad σ off B K H) (hc : ∀ i, 0 < i → i < Y.length → cof (off i) = i) (he : B (cof K) = true) : zh D cy Y ad σ off B (K + 1) H := by
  intro i k h1 h2 h3 h4
  by_cases hz : off i = K
  · have := hc i h2 (fx_len h1)
    rw [hz] at this
    rw [this, h4] at he
    exact absurd he (by decide)
  · exact h i k h1 h2 (by omega) h4
def zaM (h0 sz : Nat) : Nat → Nat | 0 => h0 | i + 1 => sz + i
def zoM (i : Nat) : Nat := i - 1
def zσ : FH := (fun _ _ => 0, fun _ _ => 0, fun _ => 0)
def zσM : FH := fx_si (fx_si (fx_si zσ 2 0 0) 2 1 0) 2 2 2
theorem zσM_u : fX12_usual 0 zσ = some zσM := by
  unfold fX12_usual
  rw [fxG_t (by decide), show Int32.toNatClampNeg (3 * 0 + 0) = 0 from by decide, fxL_r, fxG_t (by decide), show Int32.toNatClampNeg (3 * 0 + 1) = 1 from by decide, fxL_r, fxG_t (by decide), show Int32.toNatClampNeg (3 * 0 + 2) = 2 from by decide, fxL_r]
  rfl
theorem zaM_a {h0 sz : Nat} : ∀ i, 0 < i → i < LM.length → zaM h0 sz i = sz + zoM i := fun i h _ => by
  cases i with
  | zero => omega
  | succ i => rfl
theorem zaM_c : ∀ i, 0 < i → i < LM.length → zoM i + 1 = i := fun i h _ => by unfold zoM; omega
theorem zaM_I {h0 sz : Nat} (h : h0 < sz) : fx_I LM (zaM h0 sz) := fun i j _ _ e => by
  cases i with
  | zero => cases j with
    | zero => rfl
    | succ j => have e2 : h0 = sz + j := e; omega
  | succ i => cases j with
    | zero => have e2 : sz + i = h0 := e; omega
    | succ j => have e2 : sz + i = sz + j := e; omega
theorem zaM_A {h0 sz : Nat} : vz_A h0 sz = fx_A LM (zaM h0 sz) sz := by
  funext q
  refine propext ⟨fun h => ?_, fun h => ?_⟩
  · rcases h with h | h
    · exact Or.inl ⟨0, by decide, h⟩
    · exact Or.inr h
  · rcases h with ⟨i, hi, h⟩ | h
    · cases i with
      | zero => exact Or.inl h
      | succ i => have e2 : q = sz + i := h; exact Or.inr (by omega)
    · exact Or.inr h
theorem zh_P {D : va_G} {cy : Nat → ClassId} {Y : LY} {ad : Nat → Nat} {σ : FH} {off : Nat → Nat} {B : Nat → Bool} {K : Nat} {H : Heap} (h : zh D cy Y ad σ off B K H) (hK : ∀ i, i < Y.length → 0 < i → B i = false → off i < K) (h0 : ∀ k, Y[0]? = some k → va_at D vwCl (ad 0, fx_ce cy ad σ 0 k) H) (hB : ∀ i k, Y[i]? = some k → B i = true → va_at D vwCl (ad i, fx_ce cy ad σ i k) H) : fx_P D cy Y ad σ H := by
  intro i q hq
  obtain ⟨k, h1, rfl⟩ := fx_w_in hq
  cases hb : B i with
  | true => exact hB i k h1 hb
  | false =>
    cases i with
    | zero => exact h0 k h1
    | succ i => exact h _ k h1 (Nat.succ_pos _) (hK _ (fx_len h1) (Nat.succ_pos _) hb) hb
theorem zO_X12 : Cond.methodLink RX12 1 objectInit ∈ fx_tb := fx_tb_in (List.mem_of_getElem? (i := 1255) (by decide +kernel)) (by decide +kernel)
theorem zF_X12_7 : Cond.fieldLink RX12 7 (TX12 2).1 (TX12 2).2.1 (TX12 2).2.2.1 ∈ fx_tb := fx_tb_in (List.mem_of_getElem? (i := 1262) (by decide +kernel)) (by decide +kernel)
theorem zF_X12_13 : Cond.fieldLink RX12 13 (TX12 10).1 (TX12 10).2.1 (TX12 10).2.2.1 ∈ fx_tb := fx_tb_in (List.mem_of_getElem? (i := 1270) (by decide +kernel)) (by decide +kernel)
theorem zF_X12_16 : Cond.fieldLink RX12 16 (TX12 11).1 (TX12 11).2.1 (TX12 11).2.2.1 ∈ fx_tb := fx_tb_in (List.mem_of_getElem? (i := 1271) (by decide +kernel)) (by decide +kernel)
theorem zF_X12_20 : Cond.fieldLink RX12 20 (TX12 12).1 (TX12 12).2.1 (TX12 12).2.2.1 ∈ fx_tb := fx_tb_in (List.mem_of_getElem? (i := 1272) (by decide +kernel)) (by decide +kernel)
theorem zF_X12_23 : Cond.fieldLink RX12 23 (TX12 13).1 (TX12 13).2.1 (TX12 13).2.2.1 ∈ fx_tb := fx_tb_in (List.mem_of_getElem? (i := 1273) (by decide +kernel)) (by decide +kernel)
theorem zF_X12_26 : Cond.fieldLink RX12 26 (TX12 14).1 (TX12 14).2.1 (TX12 14).2.2.1 ∈ fx_tb := fx_tb_in (List.mem_of_getElem? (i := 1274) (by decide +kernel)) (by decide +kernel)
theorem zF_X12_29 : Cond.fieldLink RX12 29 (TX12 15).1 (TX12 15).2.1 (TX12 15).2.2.1 ∈ fx_tb := fx_tb_in (List.mem_of_getElem? (i := 1275) (by decide +kernel)) (by decide +kernel)
theorem zF_X12_32 : Cond.fieldLink RX12 32 (TX12 16).1 (TX12 16).2.1 (TX12 16).2.2.1 ∈ fx_tb := fx_tb_in (List.mem_of_getElem? (i := 1276) (by decide +kernel)) (by decide +kernel)
theorem zF_X12_35 : Cond.fieldLink RX12 35 (TX12 17).1 (TX12 17).2.1 (TX12 17).2.2.1 ∈ fx_tb := fx_tb_in (List.mem_of_getElem? (i := 1277) (by decide +kernel)) (by decide +kernel)
theorem zF_X12_38 : Cond.fieldLink RX12 38 (TX12 18).1 (TX12 18).2.1 (TX12 18).2.2.1 ∈ fx_tb := fx_tb_in (List.mem_of_getElem? (i := 1278) (by decide +kernel)) (by decide +kernel)
theorem zF_X12_41 : Cond.fieldLink RX12 41 (TX12 19).1 (TX12 19).2.1 (TX12 19).2.2.1 ∈ fx_tb := fx_tb_in (List.mem_of_getElem? (i := 1279) (by decide +kernel)) (by decide +kernel)
theorem zF_X12_44 : Cond.fieldLink RX12 44 (TX12 20).1 (TX12 20).2.1 (TX12 20).2.2.1 ∈ fx_tb := fx_tb_in (List.mem_of_getElem? (i := 1280) (by decide +kernel)) (by decide +kernel)
theorem zF_X12_47 : Cond.fieldLink RX12 47 (TX12 23).1 (TX12 23).2.1 (TX12 23).2.2.1 ∈ fx_tb := fx_tb_in (List.mem_of_getElem? (i := 1283) (by decide +kernel)) (by decide +kernel)
theorem zF_X12_50 : Cond.fieldLink RX12 50 (TX12 24).1 (TX12 24).2.1 (TX12 24).2.2.1 ∈ fx_tb := fx_tb_in (List.mem_of_getElem? (i := 1284) (by decide +kernel)) (by decide +kernel)
theorem zF_X12_54 : Cond.fieldLink RX12 54 (TX12 25).1 (TX12 25).2.1 (TX12 25).2.2.1 ∈ fx_tb := fx_tb_in (List.mem_of_getElem? (i := 1285) (by decide +kernel)) (by decide +kernel)
theorem zF_X12_57 : Cond.fieldLink RX12 57 (TX12 26).1 (TX12 26).2.1 (TX12 26).2.2.1 ∈ fx_tb := fx_tb_in (List.mem_of_getElem? (i := 1286) (by decide +kernel)) (by decide +kernel)
theorem zF_X12_60 : Cond.fieldLink RX12 60 (TX12 27).1 (TX12 27).2.1 (TX12 27).2.2.1 ∈ fx_tb := fx_tb_in (List.mem_of_getElem? (i := 1287) (by decide +kernel)) (by decide +kernel)
theorem zF_X12_63 : Cond.fieldLink RX12 63 (TX12 28).1 (TX12 28).2.1 (TX12 28).2.2.1 ∈ fx_tb := fx_tb_in (List.mem_of_getElem? (i := 1288) (by decide +kernel)) (by decide +kernel)
theorem zF_X12_66 : Cond.fieldLink RX12 66 (TX12 29).1 (TX12 29).2.1 (TX12 29).2.2.1 ∈ fx_tb := fx_tb_in (List.mem_of_getElem? (i := 1289) (by decide +kernel)) (by decide +kernel)
theorem zF_X12_69 : Cond.fieldLink RX12 69 (TX12 30).1 (TX12 30).2.1 (TX12 30).2.2.1 ∈ fx_tb := fx_tb_in (List.mem_of_getElem? (i := 1290) (by decide +kernel)) (by decide +kernel)
theorem zF_X12_72 : Cond.fieldLink RX12 72 (TX12 31).1 (TX12 31).2.1 (TX12 31).2.2.1 ∈ fx_tb := fx_tb_in (List.mem_of_getElem? (i := 1291) (by decide +kernel)) (by decide +kernel)
theorem zF_X12_75 : Cond.fieldLink RX12 75 (TX12 32).1 (TX12 32).2.1 (TX12 32).2.2.1 ∈ fx_tb := fx_tb_in (List.mem_of_getElem? (i := 1292) (by decide +kernel)) (by decide +kernel)
theorem zF_X12_78 : Cond.fieldLink RX12 78 (TX12 33).1 (TX12 33).2.1 (TX12 33).2.2.1 ∈ fx_tb := fx_tb_in (List.mem_of_getElem? (i := 1293) (by decide +kernel)) (by decide +kernel)
theorem zF_X12_81 : Cond.fieldLink RX12 81 (TX12 34).1 (TX12 34).2.1 (TX12 34).2.2.1 ∈ fx_tb := fx_tb_in (List.mem_of_getElem? (i := 1294) (by decide +kernel)) (by decide +kernel)
theorem zF_X12_84 : Cond.fieldLink RX12 84 (TX12 37).1 (TX12 37).2.1 (TX12 37).2.2.1 ∈ fx_tb := fx_tb_in (List.mem_of_getElem? (i := 1297) (by decide +kernel)) (by decide +kernel)
theorem zF_X12_87 : Cond.fieldLink RX12 87 (TX12 38).1 (TX12 38).2.1 (TX12 38).2.2.1 ∈ fx_tb := fx_tb_in (List.mem_of_getElem? (i := 1298) (by decide +kernel)) (by decide +kernel)
theorem zF_X12_90 : Cond.fieldLink RX12 90 (TX12 39).1 (TX12 39).2.1 (TX12 39).2.2.1 ∈ fx_tb := fx_tb_in (List.mem_of_getElem? (i := 1299) (by decide +kernel)) (by decide +kernel)
theorem zF_X12_93 : Cond.fieldLink RX12 93 (TX12 40).1 (TX12 40).2.1 (TX12 40).2.2.1 ∈ fx_tb := fx_tb_in (List.mem_of_getElem? (i := 1300) (by decide +kernel)) (by decide +kernel)
theorem zF_X12_96 : Cond.fieldLink RX12 96 (TX12 41).1 (TX12 41).2.1 (TX12 41).2.2.1 ∈ fx_tb := fx_tb_in (List.mem_of_getElem? (i := 1301) (by decide +kernel)) (by decide +kernel)
theorem zF_X12_99 : Cond.fieldLink RX12 99 (TX12 42).1 (TX12 42).2.1 (TX12 42).2.2.1 ∈ fx_tb := fx_tb_in (List.mem_of_getElem? (i := 1302) (by decide +kernel)) (by decide +kernel)
theorem zF_X12_102 : Cond.fieldLink RX12 102 (TX12 43).1 (TX12 43).2.1 (TX12 43).2.2.1 ∈ fx_tb := fx_tb_in (List.mem_of_getElem? (i := 1303) (by decide +kernel)) (by decide +kernel)
theorem zF_X12_105 : Cond.fieldLink RX12 105 (TX12 44).1 (TX12 44).2.1 (TX12 44).2.2.1 ∈ fx_tb := fx_tb_in (List.mem_of_getElem? (i := 1304) (by decide +kernel)) (by decide +kernel)
theorem zF_X12_108 : Cond.fieldLink RX12 108 (TX12 45).1 (TX12 45).2.1 (TX12 45).2.2.1 ∈ fx_tb := fx_tb_in (List.mem_of_getElem? (i := 1305) (by decide +kernel)) (by decide +kernel)
theorem zF_X12_111 : Cond.fieldLink RX12 111 (TX12 46).1 (TX12 46).2.1 (TX12 46).2.2.1 ∈ fx_tb := fx_tb_in (List.mem_of_getElem? (i := 1306) (by decide +kernel)) (by decide +kernel)
theorem zF_X12_114 : Cond.fieldLink RX12 114 (TX12 47).1 (TX12 47).2.1 (TX12 47).2.2.1 ∈ fx_tb := fx_tb_in (List.mem_of_getElem? (i := 1307) (by decide +kernel)) (by decide +kernel)
theorem zF_X12_117 : Cond.fieldLink RX12 117 (TX12 48).1 (TX12 48).2.1 (TX12 48).2.2.1 ∈ fx_tb := fx_tb_in (List.mem_of_getElem? (i := 1308) (by decide +kernel)) (by decide +kernel)
theorem zF_X12_120 : Cond.fieldLink RX12 120 (TX12 49).1 (TX12 49).2.1 (TX12 49).2.2.1 ∈ fx_tb := fx_tb_in (List.mem_of_getElem? (i := 1309) (by decide +kernel)) (by decide +kernel)
theorem zF_X12_123 : Cond.fieldLink RX12 123 (TX12 50).1 (TX12 50).2.1 (TX12 50).2.2.1 ∈ fx_tb := fx_tb_in (List.mem_of_getElem? (i := 1310) (by decide +kernel)) (by decide +kernel)
theorem zF_X12_126 : Cond.fieldLink RX12 126 (TX12 53).1 (TX12 53).2.1 (TX12 53).2.2.1 ∈ fx_tb := fx_tb_in (List.mem_of_getElem? (i := 1313) (by decide +kernel)) (by decide +kernel)
def zX12fs : List Value := [.int 0, .int 0, .null, .int 0, .int 0, .int 0, .int 0, .long 0, .int 0, .int 0, .null, .null, .null, .null, .null, .null, .null, .null, .null, .null, .null, .int 0, .int 0, .null, .null, .null, .null, .null, .null, .null, .null, .null, .null, .null, .null, .int 0, .long 0, .null, .null, .null, .null, .null, .null, .null, .null, .null, .null, .null, .null, .null, .null, .int 0, .int 0, .null, .long 0]
set_option maxHeartbeats 4000000 in
theorem zm_M (l : Launch) (D : va_G) (cy : Nat → ClassId) (ec : Nat → Nat) (h0 sz : Nat) : Met l yX12_init (.code yX12_init cX12_init 1 none :: fx_tb) (vz_R 1 39 6453) (va_Pc [.ref h0] (fun U => vz_B D cy h0 11 zX12fs sz U ∧ fx_E ec (vz_A h0 sz) U U.heap)) (va_Qv (fun (_ : Unit) => True) (fun _ t => fx_P D cy LM (zaM h0 sz) zσM t.heap) (vz_A h0 sz)) 39 6453 (vz_A h0 sz) := by
  refine Met.ofW (cc := cX12_init) (maxL := 1) (ret := none) (by decide +kernel) rfl ?_
  intro p e s m args below meth c s₁ B hml hv
  obtain ⟨rfl, ⟨rfl, hlt, hO, hK, hN⟩, hE⟩ := hv
  have hts := atoms_spec (ws := .code yX12_init cX12_init 1 none :: fx_tb) B.pre
  have hin : meth.name = "<init>" := (name_of_methodNamed B.named B.method).1.trans rfl
  have hC : vz_C p s m [.ref h0].toArray meth c cX12_init 1 RX12 D cy h0 := ⟨B.exec, B.bytes, hml, findClass_of_methodNamed B.named, fun w hw => hts w (List.mem_cons_of_mem _ hw), hK, hin, hlt, hN⟩
  have hr := B.returns
  have hk := B.notSynchronized
  clear hts hin B
  have hx := hC.1
  have hb := hC.2.1
  have hl := lv_entry ([.ref h0]) (n := 1) (Nat.le_of_ble_eq_true rfl)
  show W _ _ _ _ _ _ _ _ _ _ _ _ _ _ _ (entryFrame m ([.ref h0] : List Value).toArray 1)
  rw [lg_entry_eq]
  generalize (lg_sl ([.ref h0]) ++ List.replicate (1 - (lg_sl ([.ref h0])).length) Slot.unset).toArray = ls at hl ⊢
  have hl : lv_has ls 1 [(0, .ref h0)] := hl
  have hz : s.heap.size = s.heap.size := rfl
  have hS : va_S (vz_A h0 s.heap.size) s.heap s.heap [] := va_S.rf
  have hR : zh D cy LM (zaM h0 s.heap.size) zσ zoM (fun _ => false) 0 s.heap := zh_0
  refine lv_aload_n hx hb dX12_init_0 rfl (lv_at hl 0 rfl) ?_
  refine vz_obj hC zO_X12 zOI zOC hl.1 dX12_init_1 (Nat.le_of_ble_eq_true rfl) (Nat.le_of_ble_eq_true rfl) ?_
  refine lv_aload_n hx hb dX12_init_4 rfl (lv_at hl 0 rfl) ?_
  refine lv_sipush (v := 1000) hx hb dX12_init_5 (by decide) ?_
  refine vz_newa hC (atype := .int) (ty := .int) rfl zA_int 0 rfl (N := 1000) (a0 := (1000, .inl (fun _ => 0))) (fun _ => rfl) (by decide) (by decide) (by decide) (Nat.le_of_ble_eq_true rfl) (Nat.le_of_ble_eq_true rfl) dX12_init_8 hS hz (fun H1 z1 at1 o1 hS1 => ?_)
  replace hO := vz_at_k hO (o1 _ (hlt))
  replace hR := zh_s (cof := fun j => j + 1) (zh_k hR zaM_a (fun q _ h => o1 q h)) zaM_c 1 (k0 := (20, 1000)) rfl rfl at1
  replace hz : H1.size = s.heap.size + 1 := z1
  replace hS := hS1
  clear o1 at1 z1 hS1
  refine vz_putF hC inT_X12 tyX12 tyX12_ok nmX12 hO rfl 2 (by decide) zF_X12_7 rfl rfl rfl rfl (Nat.le_of_ble_eq_true rfl) dX12_init_10 hS (Or.inl rfl) (fun H1 locs1 z1 hO1 o1 hS1 => ?_)
  replace hO : va_at D vwCl (h0, .inr (11, [.int 0, .int 0, .ref (s.heap.size), .int 0, .int 0, .int 0, .int 0, .long 0, .int 0, .int 0, .null, .null, .null, .null, .null, .null, .null, .null, .null, .null, .null, .int 0, .int 0, .null, .null, .null, .null, .null, .null, .null, .null, .null, .null, .null, .null, .int 0, .long 0, .null, .null, .null, .null, .null, .null, .null, .null, .null, .null, .null, .null, .null, .null, .int 0, .int 0, .null, .long 0])) H1 := hO1
  replace hR := zh_k hR zaM_a (fun q h _ => o1 q (Nat.ne_of_gt (Nat.lt_of_lt_of_le hlt h)))
  replace hz : H1.size = s.heap.size + 1 := z1.trans hz
  replace hS := hS1
  clear o1 z1 hS1 hO1
  refine lv_aload_n hx hb dX12_init_13 rfl (lv_at hl 0 rfl) ?_
  refine lv_bipush (v := 6) hx hb dX12_init_14 (by decide) ?_
  refine vz_newa hC (atype := .int) (ty := .int) rfl zA_int 0 rfl (N := 6) (a0 := (6, .inl (fun _ => 0))) (fun _ => rfl) (by decide) (by decide) (by decide) (Nat.le_of_ble_eq_true rfl) (Nat.le_of_ble_eq_true rfl) dX12_init_16 hS hz (fun H1 z1 at1 o1 hS1 => ?_)
  replace hO := vz_at_k hO (o1 _ (Nat.lt_add_right 1 hlt))
  replace hR := zh_s (cof := fun j => j + 1) (zh_k hR zaM_a (fun q _ h => o1 q h)) zaM_c 2 (k0 := (20, 6)) rfl rfl at1
  replace hz : H1.size = s.heap.size + 2 := z1
  replace hS := hS1
  clear o1 at1 z1 hS1
  refine vz_putF hC inT_X12 tyX12 tyX12_ok nmX12 hO rfl 10 (by decide) zF_X12_13 rfl rfl rfl rfl (Nat.le_of_ble_eq_true rfl) dX12_init_18 hS (Or.inl rfl) (fun H1 locs1 z1 hO1 o1 hS1 => ?_)
  replace hO : va_at D vwCl (h0, .inr (11, [.int 0, .int 0, .ref (s.heap.size), .int 0, .int 0, .int 0, .int 0, .long 0, .int 0, .int 0, .ref (s.heap.size + 1), .null, .null, .null, .null, .null, .null, .null, .null, .null, .null, .int 0, .int 0, .null, .null, .null, .null, .null, .null, .null, .null, .null, .null, .null, .null, .int 0, .long 0, .null, .null, .null, .null, .null, .null, .null, .null, .null, .null, .null, .null, .null, .null, .int 0, .int 0, .null, .long 0])) H1 := hO1
  replace hR := zh_k hR zaM_a (fun q h _ => o1 q (Nat.ne_of_gt (Nat.lt_of_lt_of_le hlt h)))
  replace hz : H1.size = s.heap.size + 2 := z1.trans hz
  replace hS := hS1
  clear o1 z1 hS1 hO1
  refine lv_aload_n hx hb dX12_init_21 rfl (lv_at hl 0 rfl) ?_
  refine lv_bipush (v := 12) hx hb dX12_init_22 (by decide) ?_
  refine vz_newa hC (atype := .long) (ty := .long) rfl zA_long 1 rfl (N := 12) (a0 := (12, .inr (.inl (fun _ => 0)))) (fun _ => rfl) (by decide) (by decide) (by decide) (Nat.le_of_ble_eq_true rfl) (Nat.le_of_ble_eq_true rfl) dX12_init_24 hS hz (fun H1 z1 at1 o1 hS1 => ?_)
  replace hO := vz_at_k hO (o1 _ (Nat.lt_add_right 2 hlt))
  replace hR := zh_s (cof := fun j => j + 1) (zh_k hR zaM_a (fun q _ h => o1 q h)) zaM_c 3 (k0 := (21, 12)) rfl rfl at1
  replace hz : H1.size = s.heap.size + 3 := z1
  replace hS := hS1
  clear o1 at1 z1 hS1
  refine vz_putF hC inT_X12 tyX12 tyX12_ok nmX12 hO rfl 11 (by decide) zF_X12_16 rfl rfl rfl rfl (Nat.le_of_ble_eq_true rfl) dX12_init_26 hS (Or.inl rfl) (fun H1 locs1 z1 hO1 o1 hS1 => ?_)
  replace hO : va_at D vwCl (h0, .inr (11, [.int 0, .int 0, .ref (s.heap.size), .int 0, .int 0, .int 0, .int 0, .long 0, .int 0, .int 0, .ref (s.heap.size + 1), .ref (s.heap.size + 2), .null, .null, .null, .null, .null, .null, .null, .null, .null, .int 0, .int 0, .null, .null, .null, .null, .null, .null, .null, .null, .null, .null, .null, .null, .int 0, .long 0, .null, .null, .null, .null, .null, .null, .null, .null, .null, .null, .null, .null, .null, .null, .int 0, .int 0, .null, .long 0])) H1 := hO1
  replace hR := zh_k hR zaM_a (fun q h _ => o1 q (Nat.ne_of_gt (Nat.lt_of_lt_of_le hlt h)))
  replace hz : H1.size = s.heap.size + 3 := z1.trans hz
  replace hS := hS1
  clear o1 z1 hS1 hO1
  refine lv_aload_n hx hb dX12_init_29 rfl (lv_at hl 0 rfl) ?_
  refine lv_bipush (v := 10) hx hb dX12_init_30 (by decide) ?_
  refine vz_newa hC (atype := .long) (ty := .long) rfl zA_long 1 rfl (N := 10) (a0 := (10, .inr (.inl (fun _ => 0)))) (fun _ => rfl) (by decide) (by decide) (by decide) (Nat.le_of_ble_eq_true rfl) (Nat.le_of_ble_eq_true rfl) dX12_init_32 hS hz (fun H1 z1 at1 o1 hS1 => ?_)
  replace hO := vz_at_k hO (o1 _ (Nat.lt_add_right 3 hlt))
  replace hR := zh_s (cof := fun j => j + 1) (zh_k hR zaM_a (fun q _ h => o1 q h)) zaM_c 4 (k0 := (21, 10)) rfl rfl at1
  replace hz : H1.size = s.heap.size + 4 := z1
  replace hS := hS1
  clear o1 at1 z1 hS1
  refine vz_putF hC inT_X12 tyX12 tyX12_ok nmX12 hO rfl 12 (by decide) zF_X12_20 rfl rfl rfl rfl (Nat.le_of_ble_eq_true rfl) dX12_init_34 hS (Or.inl rfl) (fun H1 locs1 z1 hO1 o1 hS1 => ?_)
  replace hO : va_at D vwCl (h0, .inr (11, [.int 0, .int 0, .ref (s.heap.size), .int 0, .int 0, .int 0, .int 0, .long 0, .int 0, .int 0, .ref (s.heap.size + 1), .ref (s.heap.size + 2), .ref (s.heap.size + 3), .null, .null, .null, .null, .null, .null, .null, .null, .int 0, .int 0, .null, .null, .null, .null, .null, .null, .null, .null, .null, .null, .null, .null, .int 0, .long 0, .null, .null, .null, .null, .null, .null, .null, .null, .null, .null, .null, .null, .null, .null, .int 0, .int 0, .null, .long 0])) H1 := hO1
  replace hR := zh_k hR zaM_a (fun q h _ => o1 q (Nat.ne_of_gt (Nat.lt_of_lt_of_le hlt h)))
  replace hz : H1.size = s.heap.size + 4 := z1.trans hz
  replace hS := hS1
  clear o1 z1 hS1 hO1
  refine lv_aload_n hx hb dX12_init_37 rfl (lv_at hl 0 rfl) ?_
  refine lv_bipush (v := 12) hx hb dX12_init_38 (by decide) ?_
  refine vz_newa hC (atype := .int) (ty := .int) rfl zA_int 0 rfl (N := 12) (a0 := (12, .inl (fun _ => 0))) (fun _ => rfl) (by decide) (by decide) (by decide) (Nat.le_of_ble_eq_true rfl) (Nat.le_of_ble_eq_true rfl) dX12_init_40 hS hz (fun H1 z1 at1 o1 hS1 => ?_)
  replace hO := vz_at_k hO (o1 _ (Nat.lt_add_right 4 hlt))
  replace hR := zh_s (cof := fun j => j + 1) (zh_k hR zaM_a (fun q _ h => o1 q h)) zaM_c 5 (k0 := (20, 12)) rfl rfl at1
  replace hz : H1.size = s.heap.size + 5 := z1
  replace hS := hS1
  clear o1 at1 z1 hS1
  refine vz_putF hC inT_X12 tyX12 tyX12_ok nmX12 hO rfl 13 (by decide) zF_X12_23 rfl rfl rfl rfl (Nat.le_of_ble_eq_true rfl) dX12_init_42 hS (Or.inl rfl) (fun H1 locs1 z1 hO1 o1 hS1 => ?_)
  replace hO : va_at D vwCl (h0, .inr (11, [.int 0, .int 0, .ref (s.heap.size), .int 0, .int 0, .int 0, .int 0, .long 0, .int 0, .int 0, .ref (s.heap.size + 1), .ref (s.heap.size + 2), .ref (s.heap.size + 3), .ref (s.heap.size + 4), .null, .null, .null, .null, .null, .null, .null, .int 0, .int 0, .null, .null, .null, .null, .null, .null, .null, .null, .null, .null, .null, .null, .int 0, .long 0, .null, .null, .null, .null, .null, .null, .null, .null, .null, .null, .null, .null, .null, .null, .int 0, .int 0, .null, .long 0])) H1 := hO1
  replace hR := zh_k hR zaM_a (fun q h _ => o1 q (Nat.ne_of_gt (Nat.lt_of_lt_of_le hlt h)))
  replace hz : H1.size = s.heap.size + 5 := z1.trans hz
  replace hS := hS1
  clear o1 z1 hS1 hO1
  refine lv_aload_n hx hb dX12_init_45 rfl (lv_at hl 0 rfl) ?_
  refine lv_bipush (v := 12) hx hb dX12_init_46 (by decide) ?_
  refine vz_newa hC (atype := .int) (ty := .int) rfl zA_int 0 rfl (N := 12) (a0 := (12, .inl (fun _ => 0))) (fun _ => rfl) (by decide) (by decide) (by decide) (Nat.le_of_ble_eq_true rfl) (Nat.le_of_ble_eq_true rfl) dX12_init_48 hS hz (fun H1 z1 at1 o1 hS1 => ?_)
  replace hO := vz_at_k hO (o1 _ (Nat.lt_add_right 5 hlt))
  replace hR := zh_s (cof := fun j => j + 1) (zh_k hR zaM_a (fun q _ h => o1 q h)) zaM_c 6 (k0 := (20, 12)) rfl rfl at1
  replace hz : H1.size = s.heap.size + 6 := z1
  replace hS := hS1
  clear o1 at1 z1 hS1
  refine vz_putF hC inT_X12 tyX12 tyX12_ok nmX12 hO rfl 14 (by decide) zF_X12_26 rfl rfl rfl rfl (Nat.le_of_ble_eq_true rfl) dX12_init_50 hS (Or.inl rfl) (fun H1 locs1 z1 hO1 o1 hS1 => ?_)
  replace hO : va_at D vwCl (h0, .inr (11, [.int 0, .int 0, .ref (s.heap.size), .int 0, .int 0, .int 0, .int 0, .long 0, .int 0, .int 0, .ref (s.heap.size + 1), .ref (s.heap.size + 2), .ref (s.heap.size + 3), .ref (s.heap.size + 4), .ref (s.heap.size + 5), .null, .null, .null, .null, .null, .null, .int 0, .int 0, .null, .null, .null, .null, .null, .null, .null, .null, .null, .null, .null, .null, .int 0, .long 0, .null, .null, .null, .null, .null, .null, .null, .null, .null, .null, .null, .null, .null, .null, .int 0, .int 0, .null, .long 0])) H1 := hO1
  replace hR := zh_k hR zaM_a (fun q h _ => o1 q (Nat.ne_of_gt (Nat.lt_of_lt_of_le hlt h)))
  replace hz : H1.size = s.heap.size + 6 := z1.trans hz
  replace hS := hS1
  clear o1 z1 hS1 hO1
  refine lv_aload_n hx hb dX12_init_53 rfl (lv_at hl 0 rfl) ?_
  refine lv_bipush (v := 12) hx hb dX12_init_54 (by decide) ?_
  refine vz_newa hC (atype := .int) (ty := .int) rfl zA_int 0 rfl (N := 12) (a0 := (12, .inl (fun _ => 0))) (fun _ => rfl) (by decide) (by decide) (by decide) (Nat.le_of_ble_eq_true rfl) (Nat.le_of_ble_eq_true rfl) dX12_init_56 hS hz (fun H1 z1 at1 o1 hS1 => ?_)
  replace hO := vz_at_k hO (o1 _ (Nat.lt_add_right 6 hlt))
  replace hR := zh_s (cof := fun j => j + 1) (zh_k hR zaM_a (fun q _ h => o1 q h)) zaM_c 7 (k0 := (20, 12)) rfl rfl at1
  replace hz : H1.size = s.heap.size + 7 := z1
  replace hS := hS1
  clear o1 at1 z1 hS1
  refine vz_putF hC inT_X12 tyX12 tyX12_ok nmX12 hO rfl 15 (by decide) zF_X12_29 rfl rfl rfl rfl (Nat.le_of_ble_eq_true rfl) dX12_init_58 hS (Or.inl rfl) (fun H1 locs1 z1 hO1 o1 hS1 => ?_)
  replace hO : va_at D vwCl (h0, .inr (11, [.int 0, .int 0, .ref (s.heap.size), .int 0, .int 0, .int 0, .int 0, .long 0, .int 0, .int 0, .ref (s.heap.size + 1), .ref (s.heap.size + 2), .ref (s.heap.size + 3), .ref (s.heap.size + 4), .ref (s.heap.size + 5), .ref (s.heap.size + 6), .null, .null, .null, .null, .null, .int 0, .int 0, .null, .null, .null, .null, .null, .null, .null, .null, .null, .null, .null, .null, .int 0, .long 0, .null, .null, .null, .null, .null, .null, .null, .null, .null, .null, .null, .null, .null, .null, .int 0, .int 0, .null, .long 0])) H1 := hO1
  replace hR := zh_k hR zaM_a (fun q h _ => o1 q (Nat.ne_of_gt (Nat.lt_of_lt_of_le hlt h)))
  replace hz : H1.size = s.heap.size + 7 := z1.trans hz
  replace hS := hS1
  clear o1 z1 hS1 hO1
  refine lv_aload_n hx hb dX12_init_61 rfl (lv_at hl 0 rfl) ?_
  refine lv_bipush (v := 10) hx hb dX12_init_62 (by decide) ?_
  refine vz_newa hC (atype := .int) (ty := .int) rfl zA_int 0 rfl (N := 10) (a0 := (10, .inl (fun _ => 0))) (fun _ => rfl) (by decide) (by decide) (by decide) (Nat.le_of_ble_eq_true rfl) (Nat.le_of_ble_eq_true rfl) dX12_init_64 hS hz (fun H1 z1 at1 o1 hS1 => ?_)
  replace hO := vz_at_k hO (o1 _ (Nat.lt_add_right 7 hlt))
  replace hR := zh_s (cof := fun j => j + 1) (zh_k hR zaM_a (fun q _ h => o1 q h)) zaM_c 8 (k0 := (20, 10)) rfl rfl at1
  replace hz : H1.size = s.heap.size + 8 := z1
  replace hS := hS1
  clear o1 at1 z1 hS1
  refine vz_putF hC inT_X12 tyX12 tyX12_ok nmX12 hO rfl 16 (by decide) zF_X12_32 rfl rfl rfl rfl (Nat.le_of_ble_eq_true rfl) dX12_init_66 hS (Or.inl rfl) (fun H1 locs1 z1 hO1 o1 hS1 => ?_)
  replace hO : va_at D vwCl (h0, .inr (11, [.int 0, .int 0, .ref (s.heap.size), .int 0, .int 0, .int 0, .int 0, .long 0, .int 0, .int 0, .ref (s.heap.size + 1), .ref (s.heap.size + 2), .ref (s.heap.size + 3), .ref (s.heap.size + 4), .ref (s.heap.size + 5), .ref (s.heap.size + 6), .ref (s.heap.size + 7), .null, .null, .null, .null, .int 0, .int 0, .null, .null, .null, .null, .null, .null, .null, .null, .null, .null, .null, .null, .int 0, .long 0, .null, .null, .null, .null, .null, .null, .null, .null, .null, .null, .null, .null, .null, .null, .int 0, .int 0, .null, .long 0])) H1 := hO1
  replace hR := zh_k hR zaM_a (fun q h _ => o1 q (Nat.ne_of_gt (Nat.lt_of_lt_of_le hlt h)))
  replace hz : H1.size = s.heap.size + 8 := z1.trans hz
  replace hS := hS1
  clear o1 z1 hS1 hO1
  refine lv_aload_n hx hb dX12_init_69 rfl (lv_at hl 0 rfl) ?_
  refine lv_bipush (v := 10) hx hb dX12_init_70 (by decide) ?_
  refine vz_newa hC (atype := .int) (ty := .int) rfl zA_int 0 rfl (N := 10) (a0 := (10, .inl (fun _ => 0))) (fun _ => rfl) (by decide) (by decide) (by decide) (Nat.le_of_ble_eq_true rfl) (Nat.le_of_ble_eq_true rfl) dX12_init_72 hS hz (fun H1 z1 at1 o1 hS1 => ?_)
  replace hO := vz_at_k hO (o1 _ (Nat.lt_add_right 8 hlt))
  replace hR := zh_s (cof := fun j => j + 1) (zh_k hR zaM_a (fun q _ h => o1 q h)) zaM_c 9 (k0 := (20, 10)) rfl rfl at1
  replace hz : H1.size = s.heap.size + 9 := z1
  replace hS := hS1
  clear o1 at1 z1 hS1
  refine vz_putF hC inT_X12 tyX12 tyX12_ok nmX12 hO rfl 17 (by decide) zF_X12_35 rfl rfl rfl rfl (Nat.le_of_ble_eq_true rfl) dX12_init_74 hS (Or.inl rfl) (fun H1 locs1 z1 hO1 o1 hS1 => ?_)
  replace hO : va_at D vwCl (h0, .inr (11, [.int 0, .int 0, .ref (s.heap.size), .int 0, .int 0, .int 0, .int 0, .long 0, .int 0, .int 0, .ref (s.heap.size + 1), .ref (s.heap.size + 2), .ref (s.heap.size + 3), .ref (s.heap.size + 4), .ref (s.heap.size + 5), .ref (s.heap.size + 6), .ref (s.heap.size + 7), .ref (s.heap.size + 8), .null, .null, .null, .int 0, .int 0, .null, .null, .null, .null, .null, .null, .null, .null, .null, .null, .null, .null, .int 0, .long 0, .null, .null, .null, .null, .null, .null, .null, .null, .null, .null, .null, .null, .null, .null, .int 0, .int 0, .null, .long 0])) H1 := hO1
  replace hR := zh_k hR zaM_a (fun q h _ => o1 q (Nat.ne_of_gt (Nat.lt_of_lt_of_le hlt h)))
  replace hz : H1.size = s.heap.size + 9 := z1.trans hz
  replace hS := hS1
  clear o1 z1 hS1 hO1
  refine lv_aload_n hx hb dX12_init_77 rfl (lv_at hl 0 rfl) ?_
  refine lv_iconst (v := 2) hx hb dX12_init_78 (by decide) ?_
  refine vz_newa hC (atype := .int) (ty := .int) rfl zA_int 0 rfl (N := 2) (a0 := (2, .inl (fun _ => 0))) (fun _ => rfl) (by decide) (by decide) (by decide) (Nat.le_of_ble_eq_true rfl) (Nat.le_of_ble_eq_true rfl) dX12_init_79 hS hz (fun H1 z1 at1 o1 hS1 => ?_)
  replace hO := vz_at_k hO (o1 _ (Nat.lt_add_right 9 hlt))
  replace hR := zh_s (cof := fun j => j + 1) (zh_k hR zaM_a (fun q _ h => o1 q h)) zaM_c 10 (k0 := (20, 2)) rfl rfl at1
  replace hz : H1.size = s.heap.size + 10 := z1
  replace hS := hS1
  clear o1 at1 z1 hS1
  refine vz_putF hC inT_X12 tyX12 tyX12_ok nmX12 hO rfl 18 (by decide) zF_X12_38 rfl rfl rfl rfl (Nat.le_of_ble_eq_true rfl) dX12_init_81 hS (Or.inl rfl) (fun H1 locs1 z1 hO1 o1 hS1 => ?_)
  replace hO : va_at D vwCl (h0, .inr (11, [.int 0, .int 0, .ref (s.heap.size), .int 0, .int 0, .int 0, .int 0, .long 0, .int 0, .int 0, .ref (s.heap.size + 1), .ref (s.heap.size + 2), .ref (s.heap.size + 3), .ref (s.heap.size + 4), .ref (s.heap.size + 5), .ref (s.heap.size + 6), .ref (s.heap.size + 7), .ref (s.heap.size + 8), .ref (s.heap.size + 9), .null, .null, .int 0, .int 0, .null, .null, .null, .null, .null, .null, .null, .null, .null, .null, .null, .null, .int 0, .long 0, .null, .null, .null, .null, .null, .null, .null, .null, .null, .null, .null, .null, .null, .null, .int 0, .int 0, .null, .long 0])) H1 := hO1
  replace hR := zh_k hR zaM_a (fun q h _ => o1 q (Nat.ne_of_gt (Nat.lt_of_lt_of_le hlt h)))
  replace hz : H1.size = s.heap.size + 10 := z1.trans hz
  replace hS := hS1
  clear o1 z1 hS1 hO1
  refine lv_aload_n hx hb dX12_init_84 rfl (lv_at hl 0 rfl) ?_
  refine lv_iconst (v := 2) hx hb dX12_init_85 (by decide) ?_
  refine vz_newa hC (atype := .int) (ty := .int) rfl zA_int 0 rfl (N := 2) (a0 := (2, .inl (fun _ => 0))) (fun _ => rfl) (by decide) (by decide) (by decide) (Nat.le_of_ble_eq_true rfl) (Nat.le_of_ble_eq_true rfl) dX12_init_86 hS hz (fun H1 z1 at1 o1 hS1 => ?_)
  replace hO := vz_at_k hO (o1 _ (Nat.lt_add_right 10 hlt))
  replace hR := zh_s (cof := fun j => j + 1) (zh_k hR zaM_a (fun q _ h => o1 q h)) zaM_c 11 (k0 := (20, 2)) rfl rfl at1
  replace hz : H1.size = s.heap.size + 11 := z1
  replace hS := hS1
  clear o1 at1 z1 hS1
  refine vz_putF hC inT_X12 tyX12 tyX12_ok nmX12 hO rfl 19 (by decide) zF_X12_41 rfl rfl rfl rfl (Nat.le_of_ble_eq_true rfl) dX12_init_88 hS (Or.inl rfl) (fun H1 locs1 z1 hO1 o1 hS1 => ?_)
  replace hO : va_at D vwCl (h0, .inr (11, [.int 0, .int 0, .ref (s.heap.size), .int 0, .int 0, .int 0, .int 0, .long 0, .int 0, .int 0, .ref (s.heap.size + 1), .ref (s.heap.size + 2), .ref (s.heap.size + 3), .ref (s.heap.size + 4), .ref (s.heap.size + 5), .ref (s.heap.size + 6), .ref (s.heap.size + 7), .ref (s.heap.size + 8), .ref (s.heap.size + 9), .ref (s.heap.size + 10), .null, .int 0, .int 0, .null, .null, .null, .null, .null, .null, .null, .null, .null, .null, .null, .null, .int 0, .long 0, .null, .null, .null, .null, .null, .null, .null, .null, .null, .null, .null, .null, .null, .null, .int 0, .int 0, .null, .long 0])) H1 := hO1
  replace hR := zh_k hR zaM_a (fun q h _ => o1 q (Nat.ne_of_gt (Nat.lt_of_lt_of_le hlt h)))
  replace hz : H1.size = s.heap.size + 11 := z1.trans hz
  replace hS := hS1
  clear o1 z1 hS1 hO1
  refine lv_aload_n hx hb dX12_init_91 rfl (lv_at hl 0 rfl) ?_
  refine lv_sipush (v := 2000) hx hb dX12_init_92 (by decide) ?_
  refine vz_newa hC (atype := .int) (ty := .int) rfl zA_int 0 rfl (N := 2000) (a0 := (2000, .inl (fun _ => 0))) (fun _ => rfl) (by decide) (by decide) (by decide) (Nat.le_of_ble_eq_true rfl) (Nat.le_of_ble_eq_true rfl) dX12_init_95 hS hz (fun H1 z1 at1 o1 hS1 => ?_)
  replace hO := vz_at_k hO (o1 _ (Nat.lt_add_right 11 hlt))
  replace hR := zh_s (cof := fun j => j + 1) (zh_k hR zaM_a (fun q _ h => o1 q h)) zaM_c 12 (k0 := (20, 2000)) rfl rfl at1
  replace hz : H1.size = s.heap.size + 12 := z1
  replace hS := hS1
  clear o1 at1 z1 hS1
  refine vz_putF hC inT_X12 tyX12 tyX12_ok nmX12 hO rfl 20 (by decide) zF_X12_44 rfl rfl rfl rfl (Nat.le_of_ble_eq_true rfl) dX12_init_97 hS (Or.inl rfl) (fun H1 locs1 z1 hO1 o1 hS1 => ?_)
  replace hO : va_at D vwCl (h0, .inr (11, [.int 0, .int 0, .ref (s.heap.size), .int 0, .int 0, .int 0, .int 0, .long 0, .int 0, .int 0, .ref (s.heap.size + 1), .ref (s.heap.size + 2), .ref (s.heap.size + 3), .ref (s.heap.size + 4), .ref (s.heap.size + 5), .ref (s.heap.size + 6), .ref (s.heap.size + 7), .ref (s.heap.size + 8), .ref (s.heap.size + 9), .ref (s.heap.size + 10), .ref (s.heap.size + 11), .int 0, .int 0, .null, .null, .null, .null, .null, .null, .null, .null, .null, .null, .null, .null, .int 0, .long 0, .null, .null, .null, .null, .null, .null, .null, .null, .null, .null, .null, .null, .null, .null, .int 0, .int 0, .null, .long 0])) H1 := hO1
  replace hR := zh_k hR zaM_a (fun q h _ => o1 q (Nat.ne_of_gt (Nat.lt_of_lt_of_le hlt h)))
  replace hz : H1.size = s.heap.size + 12 := z1.trans hz
  replace hS := hS1
  clear o1 z1 hS1 hO1
  refine lv_aload_n hx hb dX12_init_100 rfl (lv_at hl 0 rfl) ?_
  refine lv_bipush (v := 7) hx hb dX12_init_101 (by decide) ?_
  refine vz_newa hC (atype := .int) (ty := .int) rfl zA_int 0 rfl (N := 7) (a0 := (7, .inl (fun _ => 0))) (fun _ => rfl) (by decide) (by decide) (by decide) (Nat.le_of_ble_eq_true rfl) (Nat.le_of_ble_eq_true rfl) dX12_init_103 hS hz (fun H1 z1 at1 o1 hS1 => ?_)
  replace hO := vz_at_k hO (o1 _ (Nat.lt_add_right 12 hlt))
  replace hR := zh_s (cof := fun j => j + 1) (zh_k hR zaM_a (fun q _ h => o1 q h)) zaM_c 13 (k0 := (20, 7)) rfl rfl at1
  replace hz : H1.size = s.heap.size + 13 := z1
  replace hS := hS1
  clear o1 at1 z1 hS1
  refine vz_putF hC inT_X12 tyX12 tyX12_ok nmX12 hO rfl 23 (by decide) zF_X12_47 rfl rfl rfl rfl (Nat.le_of_ble_eq_true rfl) dX12_init_105 hS (Or.inl rfl) (fun H1 locs1 z1 hO1 o1 hS1 => ?_)
  replace hO : va_at D vwCl (h0, .inr (11, [.int 0, .int 0, .ref (s.heap.size), .int 0, .int 0, .int 0, .int 0, .long 0, .int 0, .int 0, .ref (s.heap.size + 1), .ref (s.heap.size + 2), .ref (s.heap.size + 3), .ref (s.heap.size + 4), .ref (s.heap.size + 5), .ref (s.heap.size + 6), .ref (s.heap.size + 7), .ref (s.heap.size + 8), .ref (s.heap.size + 9), .ref (s.heap.size + 10), .ref (s.heap.size + 11), .int 0, .int 0, .ref (s.heap.size + 12), .null, .null, .null, .null, .null, .null, .null, .null, .null, .null, .null, .int 0, .long 0, .null, .null, .null, .null, .null, .null, .null, .null, .null, .null, .null, .null, .null, .null, .int 0, .int 0, .null, .long 0])) H1 := hO1
  replace hR := zh_k hR zaM_a (fun q h _ => o1 q (Nat.ne_of_gt (Nat.lt_of_lt_of_le hlt h)))
  replace hz : H1.size = s.heap.size + 13 := z1.trans hz
  replace hS := hS1
  clear o1 z1 hS1 hO1
  refine lv_aload_n hx hb dX12_init_108 rfl (lv_at hl 0 rfl) ?_
  refine lv_bipush (v := 7) hx hb dX12_init_109 (by decide) ?_
  refine vz_newa hC (atype := .boolean) (ty := .boolean) rfl zA_boolean 3 rfl (N := 7) (a0 := (7, .inl (fun _ => 0))) (fun _ => rfl) (by decide) (by decide) (by decide) (Nat.le_of_ble_eq_true rfl) (Nat.le_of_ble_eq_true rfl) dX12_init_111 hS hz (fun H1 z1 at1 o1 hS1 => ?_)
  replace hO := vz_at_k hO (o1 _ (Nat.lt_add_right 13 hlt))
  replace hR := zh_s (cof := fun j => j + 1) (zh_k hR zaM_a (fun q _ h => o1 q h)) zaM_c 14 (k0 := (23, 7)) rfl rfl at1
  replace hz : H1.size = s.heap.size + 14 := z1
  replace hS := hS1
  clear o1 at1 z1 hS1
  refine vz_putF hC inT_X12 tyX12 tyX12_ok nmX12 hO rfl 24 (by decide) zF_X12_50 rfl rfl rfl rfl (Nat.le_of_ble_eq_true rfl) dX12_init_113 hS (Or.inl rfl) (fun H1 locs1 z1 hO1 o1 hS1 => ?_)
  replace hO : va_at D vwCl (h0, .inr (11, [.int 0, .int 0, .ref (s.heap.size), .int 0, .int 0, .int 0, .int 0, .long 0, .int 0, .int 0, .ref (s.heap.size + 1), .ref (s.heap.size + 2), .ref (s.heap.size + 3), .ref (s.heap.size + 4), .ref (s.heap.size + 5), .ref (s.heap.size + 6), .ref (s.heap.size + 7), .ref (s.heap.size + 8), .ref (s.heap.size + 9), .ref (s.heap.size + 10), .ref (s.heap.size + 11), .int 0, .int 0, .ref (s.heap.size + 12), .ref (s.heap.size + 13), .null, .null, .null, .null, .null, .null, .null, .null, .null, .null, .int 0, .long 0, .null, .null, .null, .null, .null, .null, .null, .null, .null, .null, .null, .null, .null, .null, .int 0, .int 0, .null, .long 0])) H1 := hO1
  replace hR := zh_k hR zaM_a (fun q h _ => o1 q (Nat.ne_of_gt (Nat.lt_of_lt_of_le hlt h)))
  replace hz : H1.size = s.heap.size + 14 := z1.trans hz
  replace hS := hS1
  clear o1 z1 hS1 hO1
  refine lv_aload_n hx hb dX12_init_116 rfl (lv_at hl 0 rfl) ?_
  refine lv_bipush (v := 7) hx hb dX12_init_117 (by decide) ?_
  refine vz_newa hC (atype := .int) (ty := .int) rfl zA_int 0 rfl (N := 7) (a0 := (7, .inl (fun _ => 0))) (fun _ => rfl) (by decide) (by decide) (by decide) (Nat.le_of_ble_eq_true rfl) (Nat.le_of_ble_eq_true rfl) dX12_init_119 hS hz (fun H1 z1 at1 o1 hS1 => ?_)
  replace hO := vz_at_k hO (o1 _ (Nat.lt_add_right 14 hlt))
  replace hR := zh_s (cof := fun j => j + 1) (zh_k hR zaM_a (fun q _ h => o1 q h)) zaM_c 15 (k0 := (20, 7)) rfl rfl at1
  replace hz : H1.size = s.heap.size + 15 := z1
  replace hS := hS1
  clear o1 at1 z1 hS1
  refine vz_putF hC inT_X12 tyX12 tyX12_ok nmX12 hO rfl 25 (by decide) zF_X12_54 rfl rfl rfl rfl (Nat.le_of_ble_eq_true rfl) dX12_init_121 hS (Or.inl rfl) (fun H1 locs1 z1 hO1 o1 hS1 => ?_)
  replace hO : va_at D vwCl (h0, .inr (11, [.int 0, .int 0, .ref (s.heap.size), .int 0, .int 0, .int 0, .int 0, .long 0, .int 0, .int 0, .ref (s.heap.size + 1), .ref (s.heap.size + 2), .ref (s.heap.size + 3), .ref (s.heap.size + 4), .ref (s.heap.size + 5), .ref (s.heap.size + 6), .ref (s.heap.size + 7), .ref (s.heap.size + 8), .ref (s.heap.size + 9), .ref (s.heap.size + 10), .ref (s.heap.size + 11), .int 0, .int 0, .ref (s.heap.size + 12), .ref (s.heap.size + 13), .ref (s.heap.size + 14), .null, .null, .null, .null, .null, .null, .null, .null, .null, .int 0, .long 0, .null, .null, .null, .null, .null, .null, .null, .null, .null, .null, .null, .null, .null, .null, .int 0, .int 0, .null, .long 0])) H1 := hO1
  replace hR := zh_k hR zaM_a (fun q h _ => o1 q (Nat.ne_of_gt (Nat.lt_of_lt_of_le hlt h)))
  replace hz : H1.size = s.heap.size + 15 := z1.trans hz
  replace hS := hS1
  clear o1 z1 hS1 hO1
  refine lv_aload_n hx hb dX12_init_124 rfl (lv_at hl 0 rfl) ?_
  refine lv_bipush (v := 7) hx hb dX12_init_125 (by decide) ?_
  refine vz_newa hC (atype := .int) (ty := .int) rfl zA_int 0 rfl (N := 7) (a0 := (7, .inl (fun _ => 0))) (fun _ => rfl) (by decide) (by decide) (by decide) (Nat.le_of_ble_eq_true rfl) (Nat.le_of_ble_eq_true rfl) dX12_init_127 hS hz (fun H1 z1 at1 o1 hS1 => ?_)
  replace hO := vz_at_k hO (o1 _ (Nat.lt_add_right 15 hlt))
  replace hR := zh_s (cof := fun j => j + 1) (zh_k hR zaM_a (fun q _ h => o1 q h)) zaM_c 16 (k0 := (20, 7)) rfl rfl at1
  replace hz : H1.size = s.heap.size + 16 := z1
  replace hS := hS1
  clear o1 at1 z1 hS1
  refine vz_putF hC inT_X12 tyX12 tyX12_ok nmX12 hO rfl 26 (by decide) zF_X12_57 rfl rfl rfl rfl (Nat.le_of_ble_eq_true rfl) dX12_init_129 hS (Or.inl rfl) (fun H1 locs1 z1 hO1 o1 hS1 => ?_)
  replace hO : va_at D vwCl (h0, .inr (11, [.int 0, .int 0, .ref (s.heap.size), .int 0, .int 0, .int 0, .int 0, .long 0, .int 0, .int 0, .ref (s.heap.size + 1), .ref (s.heap.size + 2), .ref (s.heap.size + 3), .ref (s.heap.size + 4), .ref (s.heap.size + 5), .ref (s.heap.size + 6), .ref (s.heap.size + 7), .ref (s.heap.size + 8), .ref (s.heap.size + 9), .ref (s.heap.size + 10), .ref (s.heap.size + 11), .int 0, .int 0, .ref (s.heap.size + 12), .ref (s.heap.size + 13), .ref (s.heap.size + 14), .ref (s.heap.size + 15), .null, .null, .null, .null, .null, .null, .null, .null, .int 0, .long 0, .null, .null, .null, .null, .null, .null, .null, .null, .null, .null, .null, .null, .null, .null, .int 0, .int 0, .null, .long 0])) H1 := hO1
  replace hR := zh_k hR zaM_a (fun q h _ => o1 q (Nat.ne_of_gt (Nat.lt_of_lt_of_le hlt h)))
  replace hz : H1.size = s.heap.size + 16 := z1.trans hz
  replace hS := hS1
  clear o1 z1 hS1 hO1
  refine lv_aload_n hx hb dX12_init_132 rfl (lv_at hl 0 rfl) ?_
  refine lv_bipush (v := 7) hx hb dX12_init_133 (by decide) ?_
  refine vz_newa hC (atype := .int) (ty := .int) rfl zA_int 0 rfl (N := 7) (a0 := (7, .inl (fun _ => 0))) (fun _ => rfl) (by decide) (by decide) (by decide) (Nat.le_of_ble_eq_true rfl) (Nat.le_of_ble_eq_true rfl) dX12_init_135 hS hz (fun H1 z1 at1 o1 hS1 => ?_)
  replace hO := vz_at_k hO (o1 _ (Nat.lt_add_right 16 hlt))
  replace hR := zh_s (cof := fun j => j + 1) (zh_k hR zaM_a (fun q _ h => o1 q h)) zaM_c 17 (k0 := (20, 7)) rfl rfl at1
  replace hz : H1.size = s.heap.size + 17 := z1
  replace hS := hS1
  clear o1 at1 z1 hS1
  refine vz_putF hC inT_X12 tyX12 tyX12_ok nmX12 hO rfl 27 (by decide) zF_X12_60 rfl rfl rfl rfl (Nat.le_of_ble_eq_true rfl) dX12_init_137 hS (Or.inl rfl) (fun H1 locs1 z1 hO1 o1 hS1 => ?_)
  replace hO : va_at D vwCl (h0, .inr (11, [.int 0, .int 0, .ref (s.heap.size), .int 0, .int 0, .int 0, .int 0, .long 0, .int 0, .int 0, .ref (s.heap.size + 1), .ref (s.heap.size + 2), .ref (s.heap.size + 3), .ref (s.heap.size + 4), .ref (s.heap.size + 5), .ref (s.heap.size + 6), .ref (s.heap.size + 7), .ref (s.heap.size + 8), .ref (s.heap.size + 9), .ref (s.heap.size + 10), .ref (s.heap.size + 11), .int 0, .int 0, .ref (s.heap.size + 12), .ref (s.heap.size + 13), .ref (s.heap.size + 14), .ref (s.heap.size + 15), .ref (s.heap.size + 16), .null, .null, .null, .null, .null, .null, .null, .int 0, .long 0, .null, .null, .null, .null, .null, .null, .null, .null, .null, .null, .null, .null, .null, .null, .int 0, .int 0, .null, .long 0])) H1 := hO1
  replace hR := zh_k hR zaM_a (fun q h _ => o1 q (Nat.ne_of_gt (Nat.lt_of_lt_of_le hlt h)))
  replace hz : H1.size = s.heap.size + 17 := z1.trans hz
  replace hS := hS1
  clear o1 z1 hS1 hO1
  refine lv_aload_n hx hb dX12_init_140 rfl (lv_at hl 0 rfl) ?_
  refine lv_bipush (v := 7) hx hb dX12_init_141 (by decide) ?_
  refine vz_newa hC (atype := .int) (ty := .int) rfl zA_int 0 rfl (N := 7) (a0 := (7, .inl (fun _ => 0))) (fun _ => rfl) (by decide) (by decide) (by decide) (Nat.le_of_ble_eq_true rfl) (Nat.le_of_ble_eq_true rfl) dX12_init_143 hS hz (fun H1 z1 at1 o1 hS1 => ?_)
  replace hO := vz_at_k hO (o1 _ (Nat.lt_add_right 17 hlt))
  replace hR := zh_s (cof := fun j => j + 1) (zh_k hR zaM_a (fun q _ h => o1 q h)) zaM_c 18 (k0 := (20, 7)) rfl rfl at1
  replace hz : H1.size = s.heap.size + 18 := z1
  replace hS := hS1
  clear o1 at1 z1 hS1
  refine vz_putF hC inT_X12 tyX12 tyX12_ok nmX12 hO rfl 28 (by decide) zF_X12_63 rfl rfl rfl rfl (Nat.le_of_ble_eq_true rfl) dX12_init_145 hS (Or.inl rfl) (fun H1 locs1 z1 hO1 o1 hS1 => ?_)
  replace hO : va_at D vwCl (h0, .inr (11, [.int 0, .int 0, .ref (s.heap.size), .int 0, .int 0, .int 0, .int 0, .long 0, .int 0, .int 0, .ref (s.heap.size + 1), .ref (s.heap.size + 2), .ref (s.heap.size + 3), .ref (s.heap.size + 4), .ref (s.heap.size + 5), .ref (s.heap.size + 6), .ref (s.heap.size + 7), .ref (s.heap.size + 8), .ref (s.heap.size + 9), .ref (s.heap.size + 10), .ref (s.heap.size + 11), .int 0, .int 0, .ref (s.heap.size + 12), .ref (s.heap.size + 13), .ref (s.heap.size + 14), .ref (s.heap.size + 15), .ref (s.heap.size + 16), .ref (s.heap.size + 17), .null, .null, .null, .null, .null, .null, .int 0, .long 0, .null, .null, .null, .null, .null, .null, .null, .null, .null, .null, .null, .null, .null, .null, .int 0, .int 0, .null, .long 0])) H1 := hO1
  replace hR := zh_k hR zaM_a (fun q h _ => o1 q (Nat.ne_of_gt (Nat.lt_of_lt_of_le hlt h)))
  replace hz : H1.size = s.heap.size + 18 := z1.trans hz
  replace hS := hS1
  clear o1 z1 hS1 hO1
  refine lv_aload_n hx hb dX12_init_148 rfl (lv_at hl 0 rfl) ?_
  refine lv_bipush (v := 7) hx hb dX12_init_149 (by decide) ?_
  refine vz_newa hC (atype := .int) (ty := .int) rfl zA_int 0 rfl (N := 7) (a0 := (7, .inl (fun _ => 0))) (fun _ => rfl) (by decide) (by decide) (by decide) (Nat.le_of_ble_eq_true rfl) (Nat.le_of_ble_eq_true rfl) dX12_init_151 hS hz (fun H1 z1 at1 o1 hS1 => ?_)
  replace hO := vz_at_k hO (o1 _ (Nat.lt_add_right 18 hlt))
  replace hR := zh_s (cof := fun j => j + 1) (zh_k hR zaM_a (fun q _ h => o1 q h)) zaM_c 19 (k0 := (20, 7)) rfl rfl at1
  replace hz : H1.size = s.heap.size + 19 := z1
  replace hS := hS1
  clear o1 at1 z1 hS1
  refine vz_putF hC inT_X12 tyX12 tyX12_ok nmX12 hO rfl 29 (by decide) zF_X12_66 rfl rfl rfl rfl (Nat.le_of_ble_eq_true rfl) dX12_init_153 hS (Or.inl rfl) (fun H1 locs1 z1 hO1 o1 hS1 => ?_)
  replace hO : va_at D vwCl (h0, .inr (11, [.int 0, .int 0, .ref (s.heap.size), .int 0, .int 0, .int 0, .int 0, .long 0, .int 0, .int 0, .ref (s.heap.size + 1), .ref (s.heap.size + 2), .ref (s.heap.size + 3), .ref (s.heap.size + 4), .ref (s.heap.size + 5), .ref (s.heap.size + 6), .ref (s.heap.size + 7), .ref (s.heap.size + 8), .ref (s.heap.size + 9), .ref (s.heap.size + 10), .ref (s.heap.size + 11), .int 0, .int 0, .ref (s.heap.size + 12), .ref (s.heap.size + 13), .ref (s.heap.size + 14), .ref (s.heap.size + 15), .ref (s.heap.size + 16), .ref (s.heap.size + 17), .ref (s.heap.size + 18), .null, .null, .null, .null, .null, .int 0, .long 0, .null, .null, .null, .null, .null, .null, .null, .null, .null, .null, .null, .null, .null, .null, .int 0, .int 0, .null, .long 0])) H1 := hO1
  replace hR := zh_k hR zaM_a (fun q h _ => o1 q (Nat.ne_of_gt (Nat.lt_of_lt_of_le hlt h)))
  replace hz : H1.size = s.heap.size + 19 := z1.trans hz
  replace hS := hS1
  clear o1 z1 hS1 hO1
  refine lv_aload_n hx hb dX12_init_156 rfl (lv_at hl 0 rfl) ?_
  refine lv_bipush (v := 7) hx hb dX12_init_157 (by decide) ?_
  refine vz_newa hC (atype := .int) (ty := .int) rfl zA_int 0 rfl (N := 7) (a0 := (7, .inl (fun _ => 0))) (fun _ => rfl) (by decide) (by decide) (by decide) (Nat.le_of_ble_eq_true rfl) (Nat.le_of_ble_eq_true rfl) dX12_init_159 hS hz (fun H1 z1 at1 o1 hS1 => ?_)
  replace hO := vz_at_k hO (o1 _ (Nat.lt_add_right 19 hlt))
  replace hR := zh_s (cof := fun j => j + 1) (zh_k hR zaM_a (fun q _ h => o1 q h)) zaM_c 20 (k0 := (20, 7)) rfl rfl at1
  replace hz : H1.size = s.heap.size + 20 := z1
  replace hS := hS1
  clear o1 at1 z1 hS1
  refine vz_putF hC inT_X12 tyX12 tyX12_ok nmX12 hO rfl 30 (by decide) zF_X12_69 rfl rfl rfl rfl (Nat.le_of_ble_eq_true rfl) dX12_init_161 hS (Or.inl rfl) (fun H1 locs1 z1 hO1 o1 hS1 => ?_)
  replace hO : va_at D vwCl (h0, .inr (11, [.int 0, .int 0, .ref (s.heap.size), .int 0, .int 0, .int 0, .int 0, .long 0, .int 0, .int 0, .ref (s.heap.size + 1), .ref (s.heap.size + 2), .ref (s.heap.size + 3), .ref (s.heap.size + 4), .ref (s.heap.size + 5), .ref (s.heap.size + 6), .ref (s.heap.size + 7), .ref (s.heap.size + 8), .ref (s.heap.size + 9), .ref (s.heap.size + 10), .ref (s.heap.size + 11), .int 0, .int 0, .ref (s.heap.size + 12), .ref (s.heap.size + 13), .ref (s.heap.size + 14), .ref (s.heap.size + 15), .ref (s.heap.size + 16), .ref (s.heap.size + 17), .ref (s.heap.size + 18), .ref (s.heap.size + 19), .null, .null, .null, .null, .int 0, .long 0, .null, .null, .null, .null, .null, .null, .null, .null, .null, .null, .null, .null, .null, .null, .int 0, .int 0, .null, .long 0])) H1 := hO1
  replace hR := zh_k hR zaM_a (fun q h _ => o1 q (Nat.ne_of_gt (Nat.lt_of_lt_of_le hlt h)))
  replace hz : H1.size = s.heap.size + 20 := z1.trans hz
  replace hS := hS1
  clear o1 z1 hS1 hO1
  refine lv_aload_n hx hb dX12_init_164 rfl (lv_at hl 0 rfl) ?_
  refine lv_bipush (v := 7) hx hb dX12_init_165 (by decide) ?_
  refine vz_newa hC (atype := .int) (ty := .int) rfl zA_int 0 rfl (N := 7) (a0 := (7, .inl (fun _ => 0))) (fun _ => rfl) (by decide) (by decide) (by decide) (Nat.le_of_ble_eq_true rfl) (Nat.le_of_ble_eq_true rfl) dX12_init_167 hS hz (fun H1 z1 at1 o1 hS1 => ?_)
  replace hO := vz_at_k hO (o1 _ (Nat.lt_add_right 20 hlt))
  replace hR := zh_s (cof := fun j => j + 1) (zh_k hR zaM_a (fun q _ h => o1 q h)) zaM_c 21 (k0 := (20, 7)) rfl rfl at1
  replace hz : H1.size = s.heap.size + 21 := z1
  replace hS := hS1
  clear o1 at1 z1 hS1
  refine vz_putF hC inT_X12 tyX12 tyX12_ok nmX12 hO rfl 31 (by decide) zF_X12_72 rfl rfl rfl rfl (Nat.le_of_ble_eq_true rfl) dX12_init_169 hS (Or.inl rfl) (fun H1 locs1 z1 hO1 o1 hS1 => ?_)
  replace hO : va_at D vwCl (h0, .inr (11, [.int 0, .int 0, .ref (s.heap.size), .int 0, .int 0, .int 0, .int 0, .long 0, .int 0, .int 0, .ref (s.heap.size + 1), .ref (s.heap.size + 2), .ref (s.heap.size + 3), .ref (s.heap.size + 4), .ref (s.heap.size + 5), .ref (s.heap.size + 6), .ref (s.heap.size + 7), .ref (s.heap.size + 8), .ref (s.heap.size + 9), .ref (s.heap.size + 10), .ref (s.heap.size + 11), .int 0, .int 0, .ref (s.heap.size + 12), .ref (s.heap.size + 13), .ref (s.heap.size + 14), .ref (s.heap.size + 15), .ref (s.heap.size + 16), .ref (s.heap.size + 17), .ref (s.heap.size + 18), .ref (s.heap.size + 19), .ref (s.heap.size + 20), .null, .null, .null, .int 0, .long 0, .null, .null, .null, .null, .null, .null, .null, .null, .null, .null, .null, .null, .null, .null, .int 0, .int 0, .null, .long 0])) H1 := hO1
  replace hR := zh_k hR zaM_a (fun q h _ => o1 q (Nat.ne_of_gt (Nat.lt_of_lt_of_le hlt h)))
  replace hz : H1.size = s.heap.size + 21 := z1.trans hz
  replace hS := hS1
  clear o1 z1 hS1 hO1
  refine lv_aload_n hx hb dX12_init_172 rfl (lv_at hl 0 rfl) ?_
  refine lv_bipush (v := 7) hx hb dX12_init_173 (by decide) ?_
  refine vz_newa hC (atype := .int) (ty := .int) rfl zA_int 0 rfl (N := 7) (a0 := (7, .inl (fun _ => 0))) (fun _ => rfl) (by decide) (by decide) (by decide) (Nat.le_of_ble_eq_true rfl) (Nat.le_of_ble_eq_true rfl) dX12_init_175 hS hz (fun H1 z1 at1 o1 hS1 => ?_)
  replace hO := vz_at_k hO (o1 _ (Nat.lt_add_right 21 hlt))
  replace hR := zh_s (cof := fun j => j + 1) (zh_k hR zaM_a (fun q _ h => o1 q h)) zaM_c 22 (k0 := (20, 7)) rfl rfl at1
  replace hz : H1.size = s.heap.size + 22 := z1
  replace hS := hS1
  clear o1 at1 z1 hS1
  refine vz_putF hC inT_X12 tyX12 tyX12_ok nmX12 hO rfl 32 (by decide) zF_X12_75 rfl rfl rfl rfl (Nat.le_of_ble_eq_true rfl) dX12_init_177 hS (Or.inl rfl) (fun H1 locs1 z1 hO1 o1 hS1 => ?_)
  replace hO : va_at D vwCl (h0, .inr (11, [.int 0, .int 0, .ref (s.heap.size), .int 0, .int 0, .int 0, .int 0, .long 0, .int 0, .int 0, .ref (s.heap.size + 1), .ref (s.heap.size + 2), .ref (s.heap.size + 3), .ref (s.heap.size + 4), .ref (s.heap.size + 5), .ref (s.heap.size + 6), .ref (s.heap.size + 7), .ref (s.heap.size + 8), .ref (s.heap.size + 9), .ref (s.heap.size + 10), .ref (s.heap.size + 11), .int 0, .int 0, .ref (s.heap.size + 12), .ref (s.heap.size + 13), .ref (s.heap.size + 14), .ref (s.heap.size + 15), .ref (s.heap.size + 16), .ref (s.heap.size + 17), .ref (s.heap.size + 18), .ref (s.heap.size + 19), .ref (s.heap.size + 20), .ref (s.heap.size + 21), .null, .null, .int 0, .long 0, .null, .null, .null, .null, .null, .null, .null, .null, .null, .null, .null, .null, .null, .null, .int 0, .int 0, .null, .long 0])) H1 := hO1
  replace hR := zh_k hR zaM_a (fun q h _ => o1 q (Nat.ne_of_gt (Nat.lt_of_lt_of_le hlt h)))
  replace hz : H1.size = s.heap.size + 22 := z1.trans hz
  replace hS := hS1
  clear o1 z1 hS1 hO1
  refine lv_aload_n hx hb dX12_init_180 rfl (lv_at hl 0 rfl) ?_
  refine lv_bipush (v := 7) hx hb dX12_init_181 (by decide) ?_
  refine vz_newa hC (atype := .int) (ty := .int) rfl zA_int 0 rfl (N := 7) (a0 := (7, .inl (fun _ => 0))) (fun _ => rfl) (by decide) (by decide) (by decide) (Nat.le_of_ble_eq_true rfl) (Nat.le_of_ble_eq_true rfl) dX12_init_183 hS hz (fun H1 z1 at1 o1 hS1 => ?_)
  replace hO := vz_at_k hO (o1 _ (Nat.lt_add_right 22 hlt))
  replace hR := zh_s (cof := fun j => j + 1) (zh_k hR zaM_a (fun q _ h => o1 q h)) zaM_c 23 (k0 := (20, 7)) rfl rfl at1
  replace hz : H1.size = s.heap.size + 23 := z1
  replace hS := hS1
  clear o1 at1 z1 hS1
  refine vz_putF hC inT_X12 tyX12 tyX12_ok nmX12 hO rfl 33 (by decide) zF_X12_78 rfl rfl rfl rfl (Nat.le_of_ble_eq_true rfl) dX12_init_185 hS (Or.inl rfl) (fun H1 locs1 z1 hO1 o1 hS1 => ?_)
  replace hO : va_at D vwCl (h0, .inr (11, [.int 0, .int 0, .ref (s.heap.size), .int 0, .int 0, .int 0, .int 0, .long 0, .int 0, .int 0, .ref (s.heap.size + 1), .ref (s.heap.size + 2), .ref (s.heap.size + 3), .ref (s.heap.size + 4), .ref (s.heap.size + 5), .ref (s.heap.size + 6), .ref (s.heap.size + 7), .ref (s.heap.size + 8), .ref (s.heap.size + 9), .ref (s.heap.size + 10), .ref (s.heap.size + 11), .int 0, .int 0, .ref (s.heap.size + 12), .ref (s.heap.size + 13), .ref (s.heap.size + 14), .ref (s.heap.size + 15), .ref (s.heap.size + 16), .ref (s.heap.size + 17), .ref (s.heap.size + 18), .ref (s.heap.size + 19), .ref (s.heap.size + 20), .ref (s.heap.size + 21), .ref (s.heap.size + 22), .null, .int 0, .long 0, .null, .null, .null, .null, .null, .null, .null, .null, .null, .null, .null, .null, .null, .null, .int 0, .int 0, .null, .long 0])) H1 := hO1
  replace hR := zh_k hR zaM_a (fun q h _ => o1 q (Nat.ne_of_gt (Nat.lt_of_lt_of_le hlt h)))
  replace hz : H1.size = s.heap.size + 23 := z1.trans hz
  replace hS := hS1
  clear o1 z1 hS1 hO1
  refine lv_aload_n hx hb dX12_init_188 rfl (lv_at hl 0 rfl) ?_
  refine lv_bipush (v := 20) hx hb dX12_init_189 (by decide) ?_
  refine vz_newa hC (atype := .int) (ty := .int) rfl zA_int 0 rfl (N := 20) (a0 := (20, .inl (fun _ => 0))) (fun _ => rfl) (by decide) (by decide) (by decide) (Nat.le_of_ble_eq_true rfl) (Nat.le_of_ble_eq_true rfl) dX12_init_191 hS hz (fun H1 z1 at1 o1 hS1 => ?_)
  replace hO := vz_at_k hO (o1 _ (Nat.lt_add_right 23 hlt))
  replace hR := zh_s (cof := fun j => j + 1) (zh_k hR zaM_a (fun q _ h => o1 q h)) zaM_c 24 (k0 := (20, 20)) rfl rfl at1
  replace hz : H1.size = s.heap.size + 24 := z1
  replace hS := hS1
  clear o1 at1 z1 hS1
  refine vz_putF hC inT_X12 tyX12 tyX12_ok nmX12 hO rfl 34 (by decide) zF_X12_81 rfl rfl rfl rfl (Nat.le_of_ble_eq_true rfl) dX12_init_193 hS (Or.inl rfl) (fun H1 locs1 z1 hO1 o1 hS1 => ?_)
  replace hO : va_at D vwCl (h0, .inr (11, [.int 0, .int 0, .ref (s.heap.size), .int 0, .int 0, .int 0, .int 0, .long 0, .int 0, .int 0, .ref (s.heap.size + 1), .ref (s.heap.size + 2), .ref (s.heap.size + 3), .ref (s.heap.size + 4), .ref (s.heap.size + 5), .ref (s.heap.size + 6), .ref (s.heap.size + 7), .ref (s.heap.size + 8), .ref (s.heap.size + 9), .ref (s.heap.size + 10), .ref (s.heap.size + 11), .int 0, .int 0, .ref (s.heap.size + 12), .ref (s.heap.size + 13), .ref (s.heap.size + 14), .ref (s.heap.size + 15), .ref (s.heap.size + 16), .ref (s.heap.size + 17), .ref (s.heap.size + 18), .ref (s.heap.size + 19), .ref (s.heap.size + 20), .ref (s.heap.size + 21), .ref (s.heap.size + 22), .ref (s.heap.size + 23), .int 0, .long 0, .null, .null, .null, .null, .null, .null, .null, .null, .null, .null, .null, .null, .null, .null, .int 0, .int 0, .null, .long 0])) H1 := hO1
  replace hR := zh_k hR zaM_a (fun q h _ => o1 q (Nat.ne_of_gt (Nat.lt_of_lt_of_le hlt h)))
  replace hz : H1.size = s.heap.size + 24 := z1.trans hz
  replace hS := hS1
  clear o1 z1 hS1 hO1
  refine lv_aload_n hx hb dX12_init_196 rfl (lv_at hl 0 rfl) ?_
  refine lv_bipush (v := 6) hx hb dX12_init_197 (by decide) ?_
  refine vz_newa hC (atype := .int) (ty := .int) rfl zA_int 0 rfl (N := 6) (a0 := (6, .inl (fun _ => 0))) (fun _ => rfl) (by decide) (by decide) (by decide) (Nat.le_of_ble_eq_true rfl) (Nat.le_of_ble_eq_true rfl) dX12_init_199 hS hz (fun H1 z1 at1 o1 hS1 => ?_)
  replace hO := vz_at_k hO (o1 _ (Nat.lt_add_right 24 hlt))
  replace hR := zh_s (cof := fun j => j + 1) (zh_k hR zaM_a (fun q _ h => o1 q h)) zaM_c 25 (k0 := (20, 6)) rfl rfl at1
  replace hz : H1.size = s.heap.size + 25 := z1
  replace hS := hS1
  clear o1 at1 z1 hS1
  refine vz_putF hC inT_X12 tyX12 tyX12_ok nmX12 hO rfl 37 (by decide) zF_X12_84 rfl rfl rfl rfl (Nat.le_of_ble_eq_true rfl) dX12_init_201 hS (Or.inl rfl) (fun H1 locs1 z1 hO1 o1 hS1 => ?_)
  replace hO : va_at D vwCl (h0, .inr (11, [.int 0, .int 0, .ref (s.heap.size), .int 0, .int 0, .int 0, .int 0, .long 0, .int 0, .int 0, .ref (s.heap.size + 1), .ref (s.heap.size + 2), .ref (s.heap.size + 3), .ref (s.heap.size + 4), .ref (s.heap.size + 5), .ref (s.heap.size + 6), .ref (s.heap.size + 7), .ref (s.heap.size + 8), .ref (s.heap.size + 9), .ref (s.heap.size + 10), .ref (s.heap.size + 11), .int 0, .int 0, .ref (s.heap.size + 12), .ref (s.heap.size + 13), .ref (s.heap.size + 14), .ref (s.heap.size + 15), .ref (s.heap.size + 16), .ref (s.heap.size + 17), .ref (s.heap.size + 18), .ref (s.heap.size + 19), .ref (s.heap.size + 20), .ref (s.heap.size + 21), .ref (s.heap.size + 22), .ref (s.heap.size + 23), .int 0, .long 0, .ref (s.heap.size + 24), .null, .null, .null, .null, .null, .null, .null, .null, .null, .null, .null, .null, .null, .int 0, .int 0, .null, .long 0])) H1 := hO1
  replace hR := zh_k hR zaM_a (fun q h _ => o1 q (Nat.ne_of_gt (Nat.lt_of_lt_of_le hlt h)))
  replace hz : H1.size = s.heap.size + 25 := z1.trans hz
  replace hS := hS1
  clear o1 z1 hS1 hO1
  refine lv_aload_n hx hb dX12_init_204 rfl (lv_at hl 0 rfl) ?_
  refine lv_sipush (v := 240) hx hb dX12_init_205 (by decide) ?_
  refine vz_newa hC (atype := .int) (ty := .int) rfl zA_int 0 rfl (N := 240) (a0 := (240, .inl (fun _ => 0))) (fun _ => rfl) (by decide) (by decide) (by decide) (Nat.le_of_ble_eq_true rfl) (Nat.le_of_ble_eq_true rfl) dX12_init_208 hS hz (fun H1 z1 at1 o1 hS1 => ?_)
  replace hO := vz_at_k hO (o1 _ (Nat.lt_add_right 25 hlt))
  replace hR := zh_s (cof := fun j => j + 1) (zh_k hR zaM_a (fun q _ h => o1 q h)) zaM_c 26 (k0 := (20, 240)) rfl rfl at1
  replace hz : H1.size = s.heap.size + 26 := z1
  replace hS := hS1
  clear o1 at1 z1 hS1
  refine vz_putF hC inT_X12 tyX12 tyX12_ok nmX12 hO rfl 38 (by decide) zF_X12_87 rfl rfl rfl rfl (Nat.le_of_ble_eq_true rfl) dX12_init_210 hS (Or.inl rfl) (fun H1 locs1 z1 hO1 o1 hS1 => ?_)
  replace hO : va_at D vwCl (h0, .inr (11, [.int 0, .int 0, .ref (s.heap.size), .int 0, .int 0, .int 0, .int 0, .long 0, .int 0, .int 0, .ref (s.heap.size + 1), .ref (s.heap.size + 2), .ref (s.heap.size + 3), .ref (s.heap.size + 4), .ref (s.heap.size + 5), .ref (s.heap.size + 6), .ref (s.heap.size + 7), .ref (s.heap.size + 8), .ref (s.heap.size + 9), .ref (s.heap.size + 10), .ref (s.heap.size + 11), .int 0, .int 0, .ref (s.heap.size + 12), .ref (s.heap.size + 13), .ref (s.heap.size + 14), .ref (s.heap.size + 15), .ref (s.heap.size + 16), .ref (s.heap.size + 17), .ref (s.heap.size + 18), .ref (s.heap.size + 19), .ref (s.heap.size + 20), .ref (s.heap.size + 21), .ref (s.heap.size + 22), .ref (s.heap.size + 23), .int 0, .long 0, .ref (s.heap.size + 24), .ref (s.heap.size + 25), .null, .null, .null, .null, .null, .null, .null, .null, .null, .null, .null, .null, .int 0, .int 0, .null, .long 0])) H1 := hO1
  replace hR := zh_k hR zaM_a (fun q h _ => o1 q (Nat.ne_of_gt (Nat.lt_of_lt_of_le hlt h)))
  replace hz : H1.size = s.heap.size + 26 := z1.trans hz
  replace hS := hS1
  clear o1 z1 hS1 hO1
  refine lv_aload_n hx hb dX12_init_213 rfl (lv_at hl 0 rfl) ?_
  refine lv_sipush (v := 240) hx hb dX12_init_214 (by decide) ?_
  refine vz_newa hC (atype := .int) (ty := .int) rfl zA_int 0 rfl (N := 240) (a0 := (240, .inl (fun _ => 0))) (fun _ => rfl) (by decide) (by decide) (by decide) (Nat.le_of_ble_eq_true rfl) (Nat.le_of_ble_eq_true rfl) dX12_init_217 hS hz (fun H1 z1 at1 o1 hS1 => ?_)
  replace hO := vz_at_k hO (o1 _ (Nat.lt_add_right 26 hlt))
  replace hR := zh_s (cof := fun j => j + 1) (zh_k hR zaM_a (fun q _ h => o1 q h)) zaM_c 27 (k0 := (20, 240)) rfl rfl at1
  replace hz : H1.size = s.heap.size + 27 := z1
  replace hS := hS1
  clear o1 at1 z1 hS1
  refine vz_putF hC inT_X12 tyX12 tyX12_ok nmX12 hO rfl 39 (by decide) zF_X12_90 rfl rfl rfl rfl (Nat.le_of_ble_eq_true rfl) dX12_init_219 hS (Or.inl rfl) (fun H1 locs1 z1 hO1 o1 hS1 => ?_)
  replace hO : va_at D vwCl (h0, .inr (11, [.int 0, .int 0, .ref (s.heap.size), .int 0, .int 0, .int 0, .int 0, .long 0, .int 0, .int 0, .ref (s.heap.size + 1), .ref (s.heap.size + 2), .ref (s.heap.size + 3), .ref (s.heap.size + 4), .ref (s.heap.size + 5), .ref (s.heap.size + 6), .ref (s.heap.size + 7), .ref (s.heap.size + 8), .ref (s.heap.size + 9), .ref (s.heap.size + 10), .ref (s.heap.size + 11), .int 0, .int 0, .ref (s.heap.size + 12), .ref (s.heap.size + 13), .ref (s.heap.size + 14), .ref (s.heap.size + 15), .ref (s.heap.size + 16), .ref (s.heap.size + 17), .ref (s.heap.size + 18), .ref (s.heap.size + 19), .ref (s.heap.size + 20), .ref (s.heap.size + 21), .ref (s.heap.size + 22), .ref (s.heap.size + 23), .int 0, .long 0, .ref (s.heap.size + 24), .ref (s.heap.size + 25), .ref (s.heap.size + 26), .null, .null, .null, .null, .null, .null, .null, .null, .null, .null, .null, .int 0, .int 0, .null, .long 0])) H1 := hO1
  replace hR := zh_k hR zaM_a (fun q h _ => o1 q (Nat.ne_of_gt (Nat.lt_of_lt_of_le hlt h)))
  replace hz : H1.size = s.heap.size + 27 := z1.trans hz
  replace hS := hS1
  clear o1 z1 hS1 hO1
  refine lv_aload_n hx hb dX12_init_222 rfl (lv_at hl 0 rfl) ?_
  refine lv_sipush (v := 240) hx hb dX12_init_223 (by decide) ?_
  refine vz_newa hC (atype := .int) (ty := .int) rfl zA_int 0 rfl (N := 240) (a0 := (240, .inl (fun _ => 0))) (fun _ => rfl) (by decide) (by decide) (by decide) (Nat.le_of_ble_eq_true rfl) (Nat.le_of_ble_eq_true rfl) dX12_init_226 hS hz (fun H1 z1 at1 o1 hS1 => ?_)
  replace hO := vz_at_k hO (o1 _ (Nat.lt_add_right 27 hlt))
  replace hR := zh_s (cof := fun j => j + 1) (zh_k hR zaM_a (fun q _ h => o1 q h)) zaM_c 28 (k0 := (20, 240)) rfl rfl at1
  replace hz : H1.size = s.heap.size + 28 := z1
  replace hS := hS1
  clear o1 at1 z1 hS1
  refine vz_putF hC inT_X12 tyX12 tyX12_ok nmX12 hO rfl 40 (by decide) zF_X12_93 rfl rfl rfl rfl (Nat.le_of_ble_eq_true rfl) dX12_init_228 hS (Or.inl rfl) (fun H1 locs1 z1 hO1 o1 hS1 => ?_)
  replace hO : va_at D vwCl (h0, .inr (11, [.int 0, .int 0, .ref (s.heap.size), .int 0, .int 0, .int 0, .int 0, .long 0, .int 0, .int 0, .ref (s.heap.size + 1), .ref (s.heap.size + 2), .ref (s.heap.size + 3), .ref (s.heap.size + 4), .ref (s.heap.size + 5), .ref (s.heap.size + 6), .ref (s.heap.size + 7), .ref (s.heap.size + 8), .ref (s.heap.size + 9), .ref (s.heap.size + 10), .ref (s.heap.size + 11), .int 0, .int 0, .ref (s.heap.size + 12), .ref (s.heap.size + 13), .ref (s.heap.size + 14), .ref (s.heap.size + 15), .ref (s.heap.size + 16), .ref (s.heap.size + 17), .ref (s.heap.size + 18), .ref (s.heap.size + 19), .ref (s.heap.size + 20), .ref (s.heap.size + 21), .ref (s.heap.size + 22), .ref (s.heap.size + 23), .int 0, .long 0, .ref (s.heap.size + 24), .ref (s.heap.size + 25), .ref (s.heap.size + 26), .ref (s.heap.size + 27), .null, .null, .null, .null, .null, .null, .null, .null, .null, .null, .int 0, .int 0, .null, .long 0])) H1 := hO1
  replace hR := zh_k hR zaM_a (fun q h _ => o1 q (Nat.ne_of_gt (Nat.lt_of_lt_of_le hlt h)))
  replace hz : H1.size = s.heap.size + 28 := z1.trans hz
  replace hS := hS1
  clear o1 z1 hS1 hO1
  refine lv_aload_n hx hb dX12_init_231 rfl (lv_at hl 0 rfl) ?_
  refine lv_sipush (v := 240) hx hb dX12_init_232 (by decide) ?_
  refine vz_newa hC (atype := .int) (ty := .int) rfl zA_int 0 rfl (N := 240) (a0 := (240, .inl (fun _ => 0))) (fun _ => rfl) (by decide) (by decide) (by decide) (Nat.le_of_ble_eq_true rfl) (Nat.le_of_ble_eq_true rfl) dX12_init_235 hS hz (fun H1 z1 at1 o1 hS1 => ?_)
  replace hO := vz_at_k hO (o1 _ (Nat.lt_add_right 28 hlt))
  replace hR := zh_s (cof := fun j => j + 1) (zh_k hR zaM_a (fun q _ h => o1 q h)) zaM_c 29 (k0 := (20, 240)) rfl rfl at1
  replace hz : H1.size = s.heap.size + 29 := z1
  replace hS := hS1
  clear o1 at1 z1 hS1
  refine vz_putF hC inT_X12 tyX12 tyX12_ok nmX12 hO rfl 41 (by decide) zF_X12_96 rfl rfl rfl rfl (Nat.le_of_ble_eq_true rfl) dX12_init_237 hS (Or.inl rfl) (fun H1 locs1 z1 hO1 o1 hS1 => ?_)
  replace hO : va_at D vwCl (h0, .inr (11, [.int 0, .int 0, .ref (s.heap.size), .int 0, .int 0, .int 0, .int 0, .long 0, .int 0, .int 0, .ref (s.heap.size + 1), .ref (s.heap.size + 2), .ref (s.heap.size + 3), .ref (s.heap.size + 4), .ref (s.heap.size + 5), .ref (s.heap.size + 6), .ref (s.heap.size + 7), .ref (s.heap.size + 8), .ref (s.heap.size + 9), .ref (s.heap.size + 10), .ref (s.heap.size + 11), .int 0, .int 0, .ref (s.heap.size + 12), .ref (s.heap.size + 13), .ref (s.heap.size + 14), .ref (s.heap.size + 15), .ref (s.heap.size + 16), .ref (s.heap.size + 17), .ref (s.heap.size + 18), .ref (s.heap.size + 19), .ref (s.heap.size + 20), .ref (s.heap.size + 21), .ref (s.heap.size + 22), .ref (s.heap.size + 23), .int 0, .long 0, .ref (s.heap.size + 24), .ref (s.heap.size + 25), .ref (s.heap.size + 26), .ref (s.heap.size + 27), .ref (s.heap.size + 28), .null, .null, .null, .null, .null, .null, .null, .null, .null, .int 0, .int 0, .null, .long 0])) H1 := hO1
  replace hR := zh_k hR zaM_a (fun q h _ => o1 q (Nat.ne_of_gt (Nat.lt_of_lt_of_le hlt h)))
  replace hz : H1.size = s.heap.size + 29 := z1.trans hz
  replace hS := hS1
  clear o1 z1 hS1 hO1
  refine lv_aload_n hx hb dX12_init_240 rfl (lv_at hl 0 rfl) ?_
  refine lv_iconst (v := 5) hx hb dX12_init_241 (by decide) ?_
  refine vz_newa hC (atype := .int) (ty := .int) rfl zA_int 0 rfl (N := 5) (a0 := (5, .inl (fun _ => 0))) (fun _ => rfl) (by decide) (by decide) (by decide) (Nat.le_of_ble_eq_true rfl) (Nat.le_of_ble_eq_true rfl) dX12_init_242 hS hz (fun H1 z1 at1 o1 hS1 => ?_)
  replace hO := vz_at_k hO (o1 _ (Nat.lt_add_right 29 hlt))
  replace hR := zh_s (cof := fun j => j + 1) (zh_k hR zaM_a (fun q _ h => o1 q h)) zaM_c 30 (k0 := (20, 5)) rfl rfl at1
  replace hz : H1.size = s.heap.size + 30 := z1
  replace hS := hS1
  clear o1 at1 z1 hS1
  refine vz_putF hC inT_X12 tyX12 tyX12_ok nmX12 hO rfl 42 (by decide) zF_X12_99 rfl rfl rfl rfl (Nat.le_of_ble_eq_true rfl) dX12_init_244 hS (Or.inl rfl) (fun H1 locs1 z1 hO1 o1 hS1 => ?_)
  replace hO : va_at D vwCl (h0, .inr (11, [.int 0, .int 0, .ref (s.heap.size), .int 0, .int 0, .int 0, .int 0, .long 0, .int 0, .int 0, .ref (s.heap.size + 1), .ref (s.heap.size + 2), .ref (s.heap.size + 3), .ref (s.heap.size + 4), .ref (s.heap.size + 5), .ref (s.heap.size + 6), .ref (s.heap.size + 7), .ref (s.heap.size + 8), .ref (s.heap.size + 9), .ref (s.heap.size + 10), .ref (s.heap.size + 11), .int 0, .int 0, .ref (s.heap.size + 12), .ref (s.heap.size + 13), .ref (s.heap.size + 14), .ref (s.heap.size + 15), .ref (s.heap.size + 16), .ref (s.heap.size + 17), .ref (s.heap.size + 18), .ref (s.heap.size + 19), .ref (s.heap.size + 20), .ref (s.heap.size + 21), .ref (s.heap.size + 22), .ref (s.heap.size + 23), .int 0, .long 0, .ref (s.heap.size + 24), .ref (s.heap.size + 25), .ref (s.heap.size + 26), .ref (s.heap.size + 27), .ref (s.heap.size + 28), .ref (s.heap.size + 29), .null, .null, .null, .null, .null, .null, .null, .null, .int 0, .int 0, .null, .long 0])) H1 := hO1
  replace hR := zh_k hR zaM_a (fun q h _ => o1 q (Nat.ne_of_gt (Nat.lt_of_lt_of_le hlt h)))
  replace hz : H1.size = s.heap.size + 30 := z1.trans hz
  replace hS := hS1
  clear o1 z1 hS1 hO1
  refine lv_aload_n hx hb dX12_init_247 rfl (lv_at hl 0 rfl) ?_
  refine lv_bipush (v := 40) hx hb dX12_init_248 (by decide) ?_
  refine vz_newa hC (atype := .int) (ty := .int) rfl zA_int 0 rfl (N := 40) (a0 := (40, .inl (fun _ => 0))) (fun _ => rfl) (by decide) (by decide) (by decide) (Nat.le_of_ble_eq_true rfl) (Nat.le_of_ble_eq_true rfl) dX12_init_250 hS hz (fun H1 z1 at1 o1 hS1 => ?_)
  replace hO := vz_at_k hO (o1 _ (Nat.lt_add_right 30 hlt))
  replace hR := zh_s (cof := fun j => j + 1) (zh_k hR zaM_a (fun q _ h => o1 q h)) zaM_c 31 (k0 := (20, 40)) rfl rfl at1
  replace hz : H1.size = s.heap.size + 31 := z1
  replace hS := hS1
  clear o1 at1 z1 hS1
  refine vz_putF hC inT_X12 tyX12 tyX12_ok nmX12 hO rfl 43 (by decide) zF_X12_102 rfl rfl rfl rfl (Nat.le_of_ble_eq_true rfl) dX12_init_252 hS (Or.inl rfl) (fun H1 locs1 z1 hO1 o1 hS1 => ?_)
  replace hO : va_at D vwCl (h0, .inr (11, [.int 0, .int 0, .ref (s.heap.size), .int 0, .int 0, .int 0, .int 0, .long 0, .int 0, .int 0, .ref (s.heap.size + 1), .ref (s.heap.size + 2), .ref (s.heap.size + 3), .ref (s.heap.size + 4), .ref (s.heap.size + 5), .ref (s.heap.size + 6), .ref (s.heap.size + 7), .ref (s.heap.size + 8), .ref (s.heap.size + 9), .ref (s.heap.size + 10), .ref (s.heap.size + 11), .int 0, .int 0, .ref (s.heap.size + 12), .ref (s.heap.size + 13), .ref (s.heap.size + 14), .ref (s.heap.size + 15), .ref (s.heap.size + 16), .ref (s.heap.size + 17), .ref (s.heap.size + 18), .ref (s.heap.size + 19), .ref (s.heap.size + 20), .ref (s.heap.size + 21), .ref (s.heap.size + 22), .ref (s.heap.size + 23), .int 0, .long 0, .ref (s.heap.size + 24), .ref (s.heap.size + 25), .ref (s.heap.size + 26), .ref (s.heap.size + 27), .ref (s.heap.size + 28), .ref (s.heap.size + 29), .ref (s.heap.size + 30), .null, .null, .null, .null, .null, .null, .null, .int 0, .int 0, .null, .long 0])) H1 := hO1
  replace hR := zh_k hR zaM_a (fun q h _ => o1 q (Nat.ne_of_gt (Nat.lt_of_lt_of_le hlt h)))
  replace hz : H1.size = s.heap.size + 31 := z1.trans hz
  replace hS := hS1
  clear o1 z1 hS1 hO1
  refine lv_aload_n hx hb dX12_init_255 rfl (lv_at hl 0 rfl) ?_
  refine lv_bipush (v := 40) hx hb dX12_init_256 (by decide) ?_
  refine vz_newa hC (atype := .boolean) (ty := .boolean) rfl zA_boolean 3 rfl (N := 40) (a0 := (40, .inl (fun _ => 0))) (fun _ => rfl) (by decide) (by decide) (by decide) (Nat.le_of_ble_eq_true rfl) (Nat.le_of_ble_eq_true rfl) dX12_init_258 hS hz (fun H1 z1 at1 o1 hS1 => ?_)
  replace hO := vz_at_k hO (o1 _ (Nat.lt_add_right 31 hlt))
  replace hR := zh_s (cof := fun j => j + 1) (zh_k hR zaM_a (fun q _ h => o1 q h)) zaM_c 32 (k0 := (23, 40)) rfl rfl at1
  replace hz : H1.size = s.heap.size + 32 := z1
  replace hS := hS1
  clear o1 at1 z1 hS1
  refine vz_putF hC inT_X12 tyX12 tyX12_ok nmX12 hO rfl 44 (by decide) zF_X12_105 rfl rfl rfl rfl (Nat.le_of_ble_eq_true rfl) dX12_init_260 hS (Or.inl rfl) (fun H1 locs1 z1 hO1 o1 hS1 => ?_)
  replace hO : va_at D vwCl (h0, .inr (11, [.int 0, .int 0, .ref (s.heap.size), .int 0, .int 0, .int 0, .int 0, .long 0, .int 0, .int 0, .ref (s.heap.size + 1), .ref (s.heap.size + 2), .ref (s.heap.size + 3), .ref (s.heap.size + 4), .ref (s.heap.size + 5), .ref (s.heap.size + 6), .ref (s.heap.size + 7), .ref (s.heap.size + 8), .ref (s.heap.size + 9), .ref (s.heap.size + 10), .ref (s.heap.size + 11), .int 0, .int 0, .ref (s.heap.size + 12), .ref (s.heap.size + 13), .ref (s.heap.size + 14), .ref (s.heap.size + 15), .ref (s.heap.size + 16), .ref (s.heap.size + 17), .ref (s.heap.size + 18), .ref (s.heap.size + 19), .ref (s.heap.size + 20), .ref (s.heap.size + 21), .ref (s.heap.size + 22), .ref (s.heap.size + 23), .int 0, .long 0, .ref (s.heap.size + 24), .ref (s.heap.size + 25), .ref (s.heap.size + 26), .ref (s.heap.size + 27), .ref (s.heap.size + 28), .ref (s.heap.size + 29), .ref (s.heap.size + 30), .ref (s.heap.size + 31), .null, .null, .null, .null, .null, .null, .int 0, .int 0, .null, .long 0])) H1 := hO1
  replace hR := zh_k hR zaM_a (fun q h _ => o1 q (Nat.ne_of_gt (Nat.lt_of_lt_of_le hlt h)))
  replace hz : H1.size = s.heap.size + 32 := z1.trans hz
  replace hS := hS1
  clear o1 z1 hS1 hO1
  refine lv_aload_n hx hb dX12_init_263 rfl (lv_at hl 0 rfl) ?_
  refine lv_bipush (v := 14) hx hb dX12_init_264 (by decide) ?_
  refine vz_newa hC (atype := .int) (ty := .int) rfl zA_int 0 rfl (N := 14) (a0 := (14, .inl (fun _ => 0))) (fun _ => rfl) (by decide) (by decide) (by decide) (Nat.le_of_ble_eq_true rfl) (Nat.le_of_ble_eq_true rfl) dX12_init_266 hS hz (fun H1 z1 at1 o1 hS1 => ?_)
  replace hO := vz_at_k hO (o1 _ (Nat.lt_add_right 32 hlt))
  replace hR := zh_s (cof := fun j => j + 1) (zh_k hR zaM_a (fun q _ h => o1 q h)) zaM_c 33 (k0 := (20, 14)) rfl rfl at1
  replace hz : H1.size = s.heap.size + 33 := z1
  replace hS := hS1
  clear o1 at1 z1 hS1
  refine vz_putF hC inT_X12 tyX12 tyX12_ok nmX12 hO rfl 45 (by decide) zF_X12_108 rfl rfl rfl rfl (Nat.le_of_ble_eq_true rfl) dX12_init_268 hS (Or.inl rfl) (fun H1 locs1 z1 hO1 o1 hS1 => ?_)
  replace hO : va_at D vwCl (h0, .inr (11, [.int 0, .int 0, .ref (s.heap.size), .int 0, .int 0, .int 0, .int 0, .long 0, .int 0, .int 0, .ref (s.heap.size + 1), .ref (s.heap.size + 2), .ref (s.heap.size + 3), .ref (s.heap.size + 4), .ref (s.heap.size + 5), .ref (s.heap.size + 6), .ref (s.heap.size + 7), .ref (s.heap.size + 8), .ref (s.heap.size + 9), .ref (s.heap.size + 10), .ref (s.heap.size + 11), .int 0, .int 0, .ref (s.heap.size + 12), .ref (s.heap.size + 13), .ref (s.heap.size + 14), .ref (s.heap.size + 15), .ref (s.heap.size + 16), .ref (s.heap.size + 17), .ref (s.heap.size + 18), .ref (s.heap.size + 19), .ref (s.heap.size + 20), .ref (s.heap.size + 21), .ref (s.heap.size + 22), .ref (s.heap.size + 23), .int 0, .long 0, .ref (s.heap.size + 24), .ref (s.heap.size + 25), .ref (s.heap.size + 26), .ref (s.heap.size + 27), .ref (s.heap.size + 28), .ref (s.heap.size + 29), .ref (s.heap.size + 30), .ref (s.heap.size + 31), .ref (s.heap.size + 32), .null, .null, .null, .null, .null, .int 0, .int 0, .null, .long 0])) H1 := hO1
  replace hR := zh_k hR zaM_a (fun q h _ => o1 q (Nat.ne_of_gt (Nat.lt_of_lt_of_le hlt h)))
  replace hz : H1.size = s.heap.size + 33 := z1.trans hz
  replace hS := hS1
  clear o1 z1 hS1 hO1
  refine lv_aload_n hx hb dX12_init_271 rfl (lv_at hl 0 rfl) ?_
  refine lv_bipush (v := 14) hx hb dX12_init_272 (by decide) ?_
  refine vz_newa hC (atype := .int) (ty := .int) rfl zA_int 0 rfl (N := 14) (a0 := (14, .inl (fun _ => 0))) (fun _ => rfl) (by decide) (by decide) (by decide) (Nat.le_of_ble_eq_true rfl) (Nat.le_of_ble_eq_true rfl) dX12_init_274 hS hz (fun H1 z1 at1 o1 hS1 => ?_)
  replace hO := vz_at_k hO (o1 _ (Nat.lt_add_right 33 hlt))
  replace hR := zh_s (cof := fun j => j + 1) (zh_k hR zaM_a (fun q _ h => o1 q h)) zaM_c 34 (k0 := (20, 14)) rfl rfl at1
  replace hz : H1.size = s.heap.size + 34 := z1
  replace hS := hS1
  clear o1 at1 z1 hS1
  refine vz_putF hC inT_X12 tyX12 tyX12_ok nmX12 hO rfl 46 (by decide) zF_X12_111 rfl rfl rfl rfl (Nat.le_of_ble_eq_true rfl) dX12_init_276 hS (Or.inl rfl) (fun H1 locs1 z1 hO1 o1 hS1 => ?_)
  replace hO : va_at D vwCl (h0, .inr (11, [.int 0, .int 0, .ref (s.heap.size), .int 0, .int 0, .int 0, .int 0, .long 0, .int 0, .int 0, .ref (s.heap.size + 1), .ref (s.heap.size + 2), .ref (s.heap.size + 3), .ref (s.heap.size + 4), .ref (s.heap.size + 5), .ref (s.heap.size + 6), .ref (s.heap.size + 7), .ref (s.heap.size + 8), .ref (s.heap.size + 9), .ref (s.heap.size + 10), .ref (s.heap.size + 11), .int 0, .int 0, .ref (s.heap.size + 12), .ref (s.heap.size + 13), .ref (s.heap.size + 14), .ref (s.heap.size + 15), .ref (s.heap.size + 16), .ref (s.heap.size + 17), .ref (s.heap.size + 18), .ref (s.heap.size + 19), .ref (s.heap.size + 20), .ref (s.heap.size + 21), .ref (s.heap.size + 22), .ref (s.heap.size + 23), .int 0, .long 0, .ref (s.heap.size + 24), .ref (s.heap.size + 25), .ref (s.heap.size + 26), .ref (s.heap.size + 27), .ref (s.heap.size + 28), .ref (s.heap.size + 29), .ref (s.heap.size + 30), .ref (s.heap.size + 31), .ref (s.heap.size + 32), .ref (s.heap.size + 33), .null, .null, .null, .null, .int 0, .int 0, .null, .long 0])) H1 := hO1
  replace hR := zh_k hR zaM_a (fun q h _ => o1 q (Nat.ne_of_gt (Nat.lt_of_lt_of_le hlt h)))
  replace hz : H1.size = s.heap.size + 34 := z1.trans hz
  replace hS := hS1
  clear o1 z1 hS1 hO1
  refine lv_aload_n hx hb dX12_init_279 rfl (lv_at hl 0 rfl) ?_
  refine lv_bipush (v := 14) hx hb dX12_init_280 (by decide) ?_
  refine vz_newa hC (atype := .int) (ty := .int) rfl zA_int 0 rfl (N := 14) (a0 := (14, .inl (fun _ => 0))) (fun _ => rfl) (by decide) (by decide) (by decide) (Nat.le_of_ble_eq_true rfl) (Nat.le_of_ble_eq_true rfl) dX12_init_282 hS hz (fun H1 z1 at1 o1 hS1 => ?_)
  replace hO := vz_at_k hO (o1 _ (Nat.lt_add_right 34 hlt))
  replace hR := zh_s (cof := fun j => j + 1) (zh_k hR zaM_a (fun q _ h => o1 q h)) zaM_c 35 (k0 := (20, 14)) rfl rfl at1
  replace hz : H1.size = s.heap.size + 35 := z1
  replace hS := hS1
  clear o1 at1 z1 hS1
  refine vz_putF hC inT_X12 tyX12 tyX12_ok nmX12 hO rfl 47 (by decide) zF_X12_114 rfl rfl rfl rfl (Nat.le_of_ble_eq_true rfl) dX12_init_284 hS (Or.inl rfl) (fun H1 locs1 z1 hO1 o1 hS1 => ?_)
  replace hO : va_at D vwCl (h0, .inr (11, [.int 0, .int 0, .ref (s.heap.size), .int 0, .int 0, .int 0, .int 0, .long 0, .int 0, .int 0, .ref (s.heap.size + 1), .ref (s.heap.size + 2), .ref (s.heap.size + 3), .ref (s.heap.size + 4), .ref (s.heap.size + 5), .ref (s.heap.size + 6), .ref (s.heap.size + 7), .ref (s.heap.size + 8), .ref (s.heap.size + 9), .ref (s.heap.size + 10), .ref (s.heap.size + 11), .int 0, .int 0, .ref (s.heap.size + 12), .ref (s.heap.size + 13), .ref (s.heap.size + 14), .ref (s.heap.size + 15), .ref (s.heap.size + 16), .ref (s.heap.size + 17), .ref (s.heap.size + 18), .ref (s.heap.size + 19), .ref (s.heap.size + 20), .ref (s.heap.size + 21), .ref (s.heap.size + 22), .ref (s.heap.size + 23), .int 0, .long 0, .ref (s.heap.size + 24), .ref (s.heap.size + 25), .ref (s.heap.size + 26), .ref (s.heap.size + 27), .ref (s.heap.size + 28), .ref (s.heap.size + 29), .ref (s.heap.size + 30), .ref (s.heap.size + 31), .ref (s.heap.size + 32), .ref (s.heap.size + 33), .ref (s.heap.size + 34), .null, .null, .null, .int 0, .int 0, .null, .long 0])) H1 := hO1
  replace hR := zh_k hR zaM_a (fun q h _ => o1 q (Nat.ne_of_gt (Nat.lt_of_lt_of_le hlt h)))
  replace hz : H1.size = s.heap.size + 35 := z1.trans hz
  replace hS := hS1
  clear o1 z1 hS1 hO1
  refine lv_aload_n hx hb dX12_init_287 rfl (lv_at hl 0 rfl) ?_
  refine lv_bipush (v := 56) hx hb dX12_init_288 (by decide) ?_
  refine vz_newa hC (atype := .int) (ty := .int) rfl zA_int 0 rfl (N := 56) (a0 := (56, .inl (fun _ => 0))) (fun _ => rfl) (by decide) (by decide) (by decide) (Nat.le_of_ble_eq_true rfl) (Nat.le_of_ble_eq_true rfl) dX12_init_290 hS hz (fun H1 z1 at1 o1 hS1 => ?_)
  replace hO := vz_at_k hO (o1 _ (Nat.lt_add_right 35 hlt))
  replace hR := zh_s (cof := fun j => j + 1) (zh_k hR zaM_a (fun q _ h => o1 q h)) zaM_c 36 (k0 := (20, 56)) rfl rfl at1
  replace hz : H1.size = s.heap.size + 36 := z1
  replace hS := hS1
  clear o1 at1 z1 hS1
  refine vz_putF hC inT_X12 tyX12 tyX12_ok nmX12 hO rfl 48 (by decide) zF_X12_117 rfl rfl rfl rfl (Nat.le_of_ble_eq_true rfl) dX12_init_292 hS (Or.inl rfl) (fun H1 locs1 z1 hO1 o1 hS1 => ?_)
  replace hO : va_at D vwCl (h0, .inr (11, [.int 0, .int 0, .ref (s.heap.size), .int 0, .int 0, .int 0, .int 0, .long 0, .int 0, .int 0, .ref (s.heap.size + 1), .ref (s.heap.size + 2), .ref (s.heap.size + 3), .ref (s.heap.size + 4), .ref (s.heap.size + 5), .ref (s.heap.size + 6), .ref (s.heap.size + 7), .ref (s.heap.size + 8), .ref (s.heap.size + 9), .ref (s.heap.size + 10), .ref (s.heap.size + 11), .int 0, .int 0, .ref (s.heap.size + 12), .ref (s.heap.size + 13), .ref (s.heap.size + 14), .ref (s.heap.size + 15), .ref (s.heap.size + 16), .ref (s.heap.size + 17), .ref (s.heap.size + 18), .ref (s.heap.size + 19), .ref (s.heap.size + 20), .ref (s.heap.size + 21), .ref (s.heap.size + 22), .ref (s.heap.size + 23), .int 0, .long 0, .ref (s.heap.size + 24), .ref (s.heap.size + 25), .ref (s.heap.size + 26), .ref (s.heap.size + 27), .ref (s.heap.size + 28), .ref (s.heap.size + 29), .ref (s.heap.size + 30), .ref (s.heap.size + 31), .ref (s.heap.size + 32), .ref (s.heap.size + 33), .ref (s.heap.size + 34), .ref (s.heap.size + 35), .null, .null, .int 0, .int 0, .null, .long 0])) H1 := hO1
  replace hR := zh_k hR zaM_a (fun q h _ => o1 q (Nat.ne_of_gt (Nat.lt_of_lt_of_le hlt h)))
  replace hz : H1.size = s.heap.size + 36 := z1.trans hz
  replace hS := hS1
  clear o1 z1 hS1 hO1
  refine lv_aload_n hx hb dX12_init_295 rfl (lv_at hl 0 rfl) ?_
  refine lv_sipush (v := 224) hx hb dX12_init_296 (by decide) ?_
  refine vz_newa hC (atype := .int) (ty := .int) rfl zA_int 0 rfl (N := 224) (a0 := (224, .inl (fun _ => 0))) (fun _ => rfl) (by decide) (by decide) (by decide) (Nat.le_of_ble_eq_true rfl) (Nat.le_of_ble_eq_true rfl) dX12_init_299 hS hz (fun H1 z1 at1 o1 hS1 => ?_)
  replace hO := vz_at_k hO (o1 _ (Nat.lt_add_right 36 hlt))
  replace hR := zh_s (cof := fun j => j + 1) (zh_k hR zaM_a (fun q _ h => o1 q h)) zaM_c 37 (k0 := (20, 224)) rfl rfl at1
  replace hz : H1.size = s.heap.size + 37 := z1
  replace hS := hS1
  clear o1 at1 z1 hS1
  refine vz_putF hC inT_X12 tyX12 tyX12_ok nmX12 hO rfl 49 (by decide) zF_X12_120 rfl rfl rfl rfl (Nat.le_of_ble_eq_true rfl) dX12_init_301 hS (Or.inl rfl) (fun H1 locs1 z1 hO1 o1 hS1 => ?_)
  replace hO : va_at D vwCl (h0, .inr (11, [.int 0, .int 0, .ref (s.heap.size), .int 0, .int 0, .int 0, .int 0, .long 0, .int 0, .int 0, .ref (s.heap.size + 1), .ref (s.heap.size + 2), .ref (s.heap.size + 3), .ref (s.heap.size + 4), .ref (s.heap.size + 5), .ref (s.heap.size + 6), .ref (s.heap.size + 7), .ref (s.heap.size + 8), .ref (s.heap.size + 9), .ref (s.heap.size + 10), .ref (s.heap.size + 11), .int 0, .int 0, .ref (s.heap.size + 12), .ref (s.heap.size + 13), .ref (s.heap.size + 14), .ref (s.heap.size + 15), .ref (s.heap.size + 16), .ref (s.heap.size + 17), .ref (s.heap.size + 18), .ref (s.heap.size + 19), .ref (s.heap.size + 20), .ref (s.heap.size + 21), .ref (s.heap.size + 22), .ref (s.heap.size + 23), .int 0, .long 0, .ref (s.heap.size + 24), .ref (s.heap.size + 25), .ref (s.heap.size + 26), .ref (s.heap.size + 27), .ref (s.heap.size + 28), .ref (s.heap.size + 29), .ref (s.heap.size + 30), .ref (s.heap.size + 31), .ref (s.heap.size + 32), .ref (s.heap.size + 33), .ref (s.heap.size + 34), .ref (s.heap.size + 35), .ref (s.heap.size + 36), .null, .int 0, .int 0, .null, .long 0])) H1 := hO1
  replace hR := zh_k hR zaM_a (fun q h _ => o1 q (Nat.ne_of_gt (Nat.lt_of_lt_of_le hlt h)))
  replace hz : H1.size = s.heap.size + 37 := z1.trans hz
  replace hS := hS1
  clear o1 z1 hS1 hO1
  refine lv_aload_n hx hb dX12_init_304 rfl (lv_at hl 0 rfl) ?_
  refine lv_iconst (v := 4) hx hb dX12_init_305 (by decide) ?_
  refine vz_newa hC (atype := .boolean) (ty := .boolean) rfl zA_boolean 3 rfl (N := 4) (a0 := (4, .inl (fun _ => 0))) (fun _ => rfl) (by decide) (by decide) (by decide) (Nat.le_of_ble_eq_true rfl) (Nat.le_of_ble_eq_true rfl) dX12_init_306 hS hz (fun H1 z1 at1 o1 hS1 => ?_)
  replace hO := vz_at_k hO (o1 _ (Nat.lt_add_right 37 hlt))
  replace hR := zh_s (cof := fun j => j + 1) (zh_k hR zaM_a (fun q _ h => o1 q h)) zaM_c 38 (k0 := (23, 4)) rfl rfl at1
  replace hz : H1.size = s.heap.size + 38 := z1
  replace hS := hS1
  clear o1 at1 z1 hS1
  refine vz_putF hC inT_X12 tyX12 tyX12_ok nmX12 hO rfl 50 (by decide) zF_X12_123 rfl rfl rfl rfl (Nat.le_of_ble_eq_true rfl) dX12_init_308 hS (Or.inl rfl) (fun H1 locs1 z1 hO1 o1 hS1 => ?_)
  replace hO : va_at D vwCl (h0, .inr (11, [.int 0, .int 0, .ref (s.heap.size), .int 0, .int 0, .int 0, .int 0, .long 0, .int 0, .int 0, .ref (s.heap.size + 1), .ref (s.heap.size + 2), .ref (s.heap.size + 3), .ref (s.heap.size + 4), .ref (s.heap.size + 5), .ref (s.heap.size + 6), .ref (s.heap.size + 7), .ref (s.heap.size + 8), .ref (s.heap.size + 9), .ref (s.heap.size + 10), .ref (s.heap.size + 11), .int 0, .int 0, .ref (s.heap.size + 12), .ref (s.heap.size + 13), .ref (s.heap.size + 14), .ref (s.heap.size + 15), .ref (s.heap.size + 16), .ref (s.heap.size + 17), .ref (s.heap.size + 18), .ref (s.heap.size + 19), .ref (s.heap.size + 20), .ref (s.heap.size + 21), .ref (s.heap.size + 22), .ref (s.heap.size + 23), .int 0, .long 0, .ref (s.heap.size + 24), .ref (s.heap.size + 25), .ref (s.heap.size + 26), .ref (s.heap.size + 27), .ref (s.heap.size + 28), .ref (s.heap.size + 29), .ref (s.heap.size + 30), .ref (s.heap.size + 31), .ref (s.heap.size + 32), .ref (s.heap.size + 33), .ref (s.heap.size + 34), .ref (s.heap.size + 35), .ref (s.heap.size + 36), .ref (s.heap.size + 37), .int 0, .int 0, .null, .long 0])) H1 := hO1
  replace hR := zh_k hR zaM_a (fun q h _ => o1 q (Nat.ne_of_gt (Nat.lt_of_lt_of_le hlt h)))
  replace hz : H1.size = s.heap.size + 38 := z1.trans hz
  replace hS := hS1
  clear o1 z1 hS1 hO1
  refine lv_aload_n hx hb dX12_init_311 rfl (lv_at hl 0 rfl) ?_
  refine lv_sipush (v := 1891) hx hb dX12_init_312 (by decide) ?_
  refine vz_newa hC (atype := .boolean) (ty := .boolean) rfl zA_boolean 3 rfl (N := 1891) (a0 := (1891, .inl (fun _ => 0))) (fun _ => rfl) (by decide) (by decide) (by decide) (Nat.le_of_ble_eq_true rfl) (Nat.le_of_ble_eq_true rfl) dX12_init_315 hS hz (fun H1 z1 at1 o1 hS1 => ?_)
  replace hO := vz_at_k hO (o1 _ (Nat.lt_add_right 38 hlt))
  replace hR := zh_s (cof := fun j => j + 1) (zh_k hR zaM_a (fun q _ h => o1 q h)) zaM_c 39 (k0 := (23, 1891)) rfl rfl at1
  replace hz : H1.size = s.heap.size + 39 := z1
  replace hS := hS1
  clear o1 at1 z1 hS1
  refine vz_putF hC inT_X12 tyX12 tyX12_ok nmX12 hO rfl 53 (by decide) zF_X12_126 rfl rfl rfl rfl (Nat.le_of_ble_eq_true rfl) dX12_init_317 hS (Or.inl rfl) (fun H1 locs1 z1 hO1 o1 hS1 => ?_)
  replace hO : va_at D vwCl (h0, .inr (11, [.int 0, .int 0, .ref (s.heap.size), .int 0, .int 0, .int 0, .int 0, .long 0, .int 0, .int 0, .ref (s.heap.size + 1), .ref (s.heap.size + 2), .ref (s.heap.size + 3), .ref (s.heap.size + 4), .ref (s.heap.size + 5), .ref (s.heap.size + 6), .ref (s.heap.size + 7), .ref (s.heap.size + 8), .ref (s.heap.size + 9), .ref (s.heap.size + 10), .ref (s.heap.size + 11), .int 0, .int 0, .ref (s.heap.size + 12), .ref (s.heap.size + 13), .ref (s.heap.size + 14), .ref (s.heap.size + 15), .ref (s.heap.size + 16), .ref (s.heap.size + 17), .ref (s.heap.size + 18), .ref (s.heap.size + 19), .ref (s.heap.size + 20), .ref (s.heap.size + 21), .ref (s.heap.size + 22), .ref (s.heap.size + 23), .int 0, .long 0, .ref (s.heap.size + 24), .ref (s.heap.size + 25), .ref (s.heap.size + 26), .ref (s.heap.size + 27), .ref (s.heap.size + 28), .ref (s.heap.size + 29), .ref (s.heap.size + 30), .ref (s.heap.size + 31), .ref (s.heap.size + 32), .ref (s.heap.size + 33), .ref (s.heap.size + 34), .ref (s.heap.size + 35), .ref (s.heap.size + 36), .ref (s.heap.size + 37), .int 0, .int 0, .ref (s.heap.size + 38), .long 0])) H1 := hO1
  replace hR := zh_k hR zaM_a (fun q h _ => o1 q (Nat.ne_of_gt (Nat.lt_of_lt_of_le hlt h)))
  replace hz : H1.size = s.heap.size + 39 := z1.trans hz
  replace hS := hS1
  clear o1 z1 hS1 hO1
  refine lv_aload_n hx hb dX12_init_320 rfl (lv_at hl 0 rfl) ?_
  refine lv_iconst (v := 0) hx hb dX12_init_321 (by decide) ?_
  have hP : fx_P D cy LM (zaM h0 s.heap.size) zσ _ := zh_P hR (fun i hi h _ => by unfold zoM; have : LM.length = 40 := rfl; omega) (fun k hk => by cases hk; exact hO) (fun i k _ hb => absurd hb (by decide))
  have hCf : fx_C p s m [.ref h0].toArray c cX12_init 1 RX12 D cy LM (zaM h0 s.heap.size) ec (vz_A h0 s.heap.size) := ⟨hC.1, hC.2.1, hC.2.2.1, hC.2.2.2.1, hC.2.2.2.2.1, hC.2.2.2.2.2.1, zaM_I hlt, zaM_A, hE⟩
  refine fx_cv hCf hS (fx_runV (i := 0) (As := [.int 0]) (rest := []) hCf hP hS (ctX12_usual l zσM_u D cy (zaM h0 s.heap.size) ec _) kM_0 (by decide) rfl kMV_X12_129 kC_X12_usual hd_X12_usual rfl ⟨Nat.le_of_ble_eq_true rfl, Nat.le_of_ble_eq_true rfl⟩ ⟨Nat.le_of_ble_eq_true rfl, Nat.le_of_ble_eq_true rfl⟩ hl.1 (Nat.le_of_ble_eq_true rfl) rfl dX12_init_322) (fun H locs hP hS => ?_)
  exact W.vret hx hb hr (fun t ht hW => ⟨⟨(), rfl, trivial, by show fx_P _ _ _ _ _ t.heap; rw [ht]; exact hP⟩, hS.F ht⟩) hS.2.2 dX12_init_325 hk
