/-! ===== HalfShop.rests: it returns or throws ===== -/
def zXN : String := "java/util/NoSuchElementException"
theorem rL_X11_isStake : Cond.methodLink RX11 281 yX11_isStake ∈ fx_tb := fx_tb_in (List.mem_of_getElem? (i := 1175) (by decide +kernel)) (by decide +kernel)
theorem rS_X11_isStake : Cond.static yX11_isStake ∈ fx_tb := fx_tb_in (List.mem_of_getElem? (i := 1176) (by decide +kernel)) (by decide +kernel)
theorem rC_X11_isStake : Cond.code yX11_isStake cX11_isStake 1 (some .boolean) ∈ fx_tb := fx_tb_in (List.mem_of_getElem? (i := 1177) (by decide +kernel)) (by decide +kernel)
theorem rL_X11_isAtRest : Cond.methodLink RX11 291 yX11_isAtRest ∈ fx_tb := fx_tb_in (List.mem_of_getElem? (i := 1243) (by decide +kernel)) (by decide +kernel)
theorem rS_X11_isAtRest : Cond.static yX11_isAtRest ∈ fx_tb := fx_tb_in (List.mem_of_getElem? (i := 1244) (by decide +kernel)) (by decide +kernel)
theorem rC_X11_isAtRest : Cond.code yX11_isAtRest cX11_isAtRest 6 (some .boolean) ∈ fx_tb := fx_tb_in (List.mem_of_getElem? (i := 1245) (by decide +kernel)) (by decide +kernel)
theorem rK : Cond.classLink RX11 284 zXN ∈ fx_tb := fx_tb_in (List.mem_of_getElem? (i := 1178) (by decide +kernel)) (by decide +kernel)
theorem rN : Cond.initialized zXN ∈ fx_tb := fx_tb_in (List.mem_of_getElem? (i := 119) (by decide +kernel)) (by decide +kernel)
theorem rC_X11_rests : Cond.code yX11_rests cX11_rests 7 (some .int) ∈ fx_tb := fx_tb_in (List.mem_of_getElem? (i := 1174) (by decide +kernel)) (by decide +kernel)
def vq_pl : List Nat := [116, 1200, 1209, 1211, 1214, 1216, 1201, 1202, 126, 127, 1203, 1208, 1212, 1232, 1190, 1233, 1192, 1234, 1194, 1204, 1206, 1196, 1228, 1229, 1231, 1196, 1219, 1220, 1221, 1222, 1222, 1223, 1224, 1225, 1225, 1226, 1227, 1228, 1218, 1179, 1187, 1188, 1189, 1191, 1193, 1195, 1199, 1198, 1197]
theorem vq_good {w : Cond} (h : w ∈ (vq_at RX11 288 zXN).filter goodWord) : w ∈ fx_tb := by
  have e : (vq_at RX11 288 zXN).filter goodWord = vq_pl.filterMap (fun i => lw_tbl[i]?) := by decide +kernel
  have hg := (List.mem_filter.mp h).2
  rw [e] at h
  obtain ⟨i, -, hi⟩ := List.mem_filterMap.mp h
  exact fx_tb_in (List.mem_of_getElem? hi) hg
def vq_bad : List Cond := [.declares (Bundle.initS "java/lang/RuntimeException"), .declares (Bundle.initS "java/lang/Exception"), .declares (Bundle.initS Bundle.tN), .castable zXN zXN]
theorem vq_rest : ∀ w ∈ (vq_at RX11 288 zXN).filter (fun w => !goodWord w), w ∈ vq_bad := by decide +kernel
theorem vq_ots : ∀ w ∈ Cond.classLink RX11 284 zXN :: Cond.initialized zXN :: vq_at RX11 288 zXN, vx_ot w = true := by
  have h : (Cond.classLink RX11 284 zXN :: Cond.initialized zXN :: vq_at RX11 288 zXN).all vx_ot = true := by decide +kernel
  exact List.all_eq_true.mp h
/-- what a throw needs, beyond the good words -/
def vq_E (sa : Nat → Nat) (A : Nat → Prop) (U : State) (H : Heap) : Prop := (va_Nw (.declares (Bundle.initS "java/lang/RuntimeException")) U ∧ va_Nw (.declares (Bundle.initS "java/lang/Exception")) U ∧ va_Nw (.declares (Bundle.initS Bundle.tN)) U ∧ va_Nw (.castable zXN zXN) U) ∧
  vx_Zq Bundle.tN "UNASSIGNED_STACK" Bundle.steD A U H ∧ vx_Zq Bundle.tN "SUPPRESSED_SENTINEL" Bundle.listD A U H ∧ vk_R RX11 286 "no such stair" (sa 0) U ∧ vk_R RX11 295 "no such rest" (sa 1) U
theorem vq_E.go {sa : Nat → Nat} {A B : Nat → Prop} {s U : State} {H : Heap} {locs : List Loc} (h : vq_E sa A s s.heap) (hS : va_S A s.heap H locs) (hAB : ∀ q, B q → A q) (hU : U.heap = H) (hW : s.WarmedH U.vm) : vq_E sa B U U.heap := by
  obtain ⟨⟨h1, h2, h3, h4⟩, h5, h6, h7, h8⟩ := h
  have hk := hS.2.1
  rw [hU]
  exact ⟨⟨h1.warmD hW, h2.warmD hW, h3.warmD hW, h4.warmC hW⟩, vx_Zq.narrow (vx_Zq.moved hW.alike (vx_Zq.kept h5 hk)) hAB, vx_Zq.narrow (vx_Zq.moved hW.alike (vx_Zq.kept h6 hk)) hAB, vk_R.warm hW h7, vk_R.warm hW h8⟩
theorem vq_E.same {sa : Nat → Nat} {A : Nat → Prop} {u U : State} {H : Heap} (hv : U.vm = u.vm) (h : vq_E sa A u H) : vq_E sa A U H := by
  obtain ⟨⟨h1, h2, h3, h4⟩, h5, h6, h7, h8⟩ := h
  have ha : u.vm.Alike U.vm := by rw [hv]; exact Vm.Alike.refl _
  exact ⟨⟨h1.same rfl hv.symm, h2.same rfl hv.symm, h3.same rfl hv.symm, h4.same rfl hv.symm⟩, vx_Zq.moved ha h5, vx_Zq.moved ha h6, vk_R.same hv h7, vk_R.same hv h8⟩
theorem vq_hat {sa : Nat → Nat} {A : Nat → Prop} {s : State} {H : Heap} {args : Array Value} (hts : ∀ w ∈ fx_tb, w.before args s = true) (h : vq_E sa A s H) : ∀ w ∈ vq_at RX11 288 zXN, w.before args s = true := by
  obtain ⟨⟨h1, h2, h3, h4⟩, -⟩ := h
  exact vx_hat (fun w hw => hts w (vq_good hw)) vq_rest (vx_c (va_Nw.use rfl h1) (vx_c (va_Nw.use rfl h2) (vx_c (va_Nw.use rfl h3) (vx_c (va_Nw.use rfl h4) vx_n))))
def zr4 (q : Nat → Int32) (a4 : Int32) : Nat → Int32 → Option Int32
  | 0, n => if a4 = -1 then some n else none
  | k + 1, n => if q (3 - k) = 0 then zr4 q a4 k n else if n = a4 then some (Int32.ofNat (3 - k)) else zr4 q a4 k (n + 1)
def zrr (s1 s2 s3 : Int32) (q : Nat → Int32) (a4 : Int32) : Option Int32 := if s1 = 0 then none else if s2 = 0 then none else if s3 = 0 then none else zr4 q a4 4 0
def zr_Q (D : va_G) (cy : Nat → ClassId) (ad : Nat → Nat) (A : Nat → Prop) (σ : FH) (rr : Option Int32) : Array Value → State → Outcome → State → Prop := va_Qi (fun (r : Int32) (_ : Unit) => rr = some r) (fun _ t => fx_P D cy LX ad σ t.heap) A
def zr_X (D : va_G) (cy : Nat → ClassId) (ad : Nat → Nat) (A : Nat → Prop) (σ : FH) (rr : Option Int32) : String → State → State → Prop := vx_X (fun (_ : Unit) => rr = none) (fun E _ t => E = zXN ∧ fx_P D cy LX ad σ t.heap) A
set_option maxHeartbeats 2000000 in
theorem ctX11_rests (l : Launch) (hfl : l.stackTraces = false) {a1 a2 a3 a4 : Int32} {σ : FH} {s1 s2 s3 : Int32} {q : Nat → Int32} (hs1 : fX11_isStake a1 σ = some s1) (hs2 : fX11_isStake a2 σ = some s2) (hs3 : fX11_isStake a3 σ = some s3)
    (hq0 : fX11_isAtRest 0 a1 a2 a3 σ = some (q 0)) (hq1 : fX11_isAtRest 1 a1 a2 a3 σ = some (q 1)) (hq2 : fX11_isAtRest 2 a1 a2 a3 σ = some (q 2)) (hq3 : fX11_isAtRest 3 a1 a2 a3 σ = some (q 3)) (D : va_G) (cy : Nat → ClassId) (ad ec sa : Nat → Nat) (sz : Nat) :
    vx_Met l yX11_rests (.code yX11_rests cX11_rests 7 (some .int) :: fx_tb) (vz_R 6 1 6) (va_Pc [.ref (ad 0), .int a1, .int a2, .int a3, .int a4] (fun U => fx_B D cy LX ad ec sz σ U ∧ vq_E sa (fx_A LX ad sz) U U.heap)) (zr_Q D cy ad (fx_A LX ad sz) σ (zrr s1 s2 s3 q a4)) (zr_X D cy ad (fx_A LX ad sz) σ (zrr s1 s2 s3 q a4)) 1 6 (fx_A LX ad sz) := by
  generalize hrr : zrr s1 s2 s3 q a4 = rr
  refine vx_ofW (cc := cX11_rests) (maxL := 7) (ret := some .int) (by decide +kernel) rfl ?_
  intro p e s m args below meth c s₁ B hml htab hv
  obtain ⟨rfl, ⟨rfl, hP, hK, hI, hE⟩, hZ⟩ := hv
  have hts := atoms_spec (ws := .code yX11_rests cX11_rests 7 (some .int) :: fx_tb) B.pre
  generalize hAe : fx_A LX ad s.heap.size = A at hE hZ ⊢
  have hC : fx_C p s m [.ref (ad 0), .int a1, .int a2, .int a3, .int a4].toArray c cX11_rests 7 RX11 D cy LX ad ec A := ⟨B.exec, B.bytes, hml, findClass_of_methodNamed B.named, fun w hw => hts w (List.mem_cons_of_mem _ hw), hK, hI, hAe.symm, hE⟩
  have hr := B.returns
  have hk := B.notSynchronized
  have hS : va_S A s.heap s.heap [] := va_S.rf
  clear B hts
  have hx := hC.1
  have hb := hC.2.1
  have hl := lv_entry ([.ref (ad 0), .int a1, .int a2, .int a3, .int a4]) (n := 7) (Nat.le_of_ble_eq_true rfl)
  show W _ _ _ (vz_R 6 1 6) _ _ _ _ _ _ _ _ _ _ _ (entryFrame m ([.ref (ad 0), .int a1, .int a2, .int a3, .int a4] : List Value).toArray 7)
  rw [lg_entry_eq]
  generalize (lg_sl ([.ref (ad 0), .int a1, .int a2, .int a3, .int a4]) ++ List.replicate (7 - (lg_sl ([.ref (ad 0), .int a1, .int a2, .int a3, .int a4])).length) Slot.unset).toArray = ls at hl ⊢
  have hl : lv_has ls 7 [(0, .ref (ad 0)), (1, .int a1), (2, .int a2), (3, .int a3), (4, .int a4)] := hl
  have done : ∀ (H : Heap) (locs : List Loc) (ls : Array Slot) (v : Int32) (pc : Nat), fx_P D cy LX ad σ H → va_S A s.heap H locs → rr = some v → decode cX11_rests pc = .ok (.ireturn, 1) → W p l e (vz_R 6 1 6) s m [.ref (ad 0), .int a1, .int a2, .int a3, .int a4].toArray below meth c H locs 0 0 (vx_MQ below (zr_Q D cy ad A σ rr) (zr_X D cy ad A σ rr) [.ref (ad 0), .int a1, .int a2, .int a3, .int a4].toArray s 1 6 A) (F0 m pc ls [.int v]) := by
    intro H locs ls v pc hP hS hv hdg
    refine vx_ret ?_
    refine W.widen (Nat.zero_le 1) (Nat.zero_le 6) ?_
    exact W.iret (v := v) hx hb hr (fun t ht hW => ⟨⟨v, (), rfl, hv, by show fx_P D cy LX ad σ t.heap; rw [ht]; exact hP⟩, hS.F ht⟩) hS.2.2 hdg hk
  have stair : ∀ (H : Heap) (locs : List Loc) (ls : Array Slot), fx_P D cy LX ad σ H → va_S A s.heap H locs → ls.size = 7 → rr = none → W p l e (vz_R 6 1 6) s m [.ref (ad 0), .int a1, .int a2, .int a3, .int a4].toArray below meth c H locs 0 0 (vx_MQ below (zr_Q D cy ad A σ rr) (zr_X D cy ad A σ rr) [.ref (ad 0), .int a1, .int a2, .int a3, .int a4].toArray s 1 6 A) (F0 m 21 ls []) := by
    intro H locs ls hP hS hsz hn
    refine vq_make (own := RX11) (cls := zXN) (text := "no such stair") (ik := 284) (is := 286) (ic := 288) (sa := sa 0) hx hb hfl hC.2.2.2.1 (by decide +kernel) (hC.2.2.2.2.1 _ rK) (hC.2.2.2.2.1 _ rN) hZ.2.2.2.1 (vq_hat hC.2.2.2.2.1 hZ) vq_ots hZ.2.1 hZ.2.2.1 hS (hsz.trans hml.symm) dX11_rests_21 dX11_rests_24 dX11_rests_25 dX11_rests_28 (Nat.le_of_ble_eq_true rfl) (Nat.le_of_ble_eq_true rfl) (Nat.le_of_ble_eq_true rfl) (Nat.le_of_ble_eq_true rfl) (fun q H1 ce e1 e2 e3 z1 o1 hS1 => ?_)
    refine vx_athrow hx hb dX11_rests_31 ?_
    exact vx_out (E := zXN) (fun x hx => (htab x hx).elim) hk e1 e2 e3 (fun t ht hA => ⟨(), hn, ⟨rfl, by rw [ht]; exact va_P.kept hP (fun k x hx => o1 x.1 ((hP k x hx).lt))⟩, hS1.F ht⟩) hS1.2.2 (Nat.le_refl _) (Nat.le_refl _)
  have norest : ∀ (H : Heap) (locs : List Loc) (ls : Array Slot), fx_P D cy LX ad σ H → va_S A s.heap H locs → ls.size = 7 → rr = none → W p l e (vz_R 6 1 6) s m [.ref (ad 0), .int a1, .int a2, .int a3, .int a4].toArray below meth c H locs 0 0 (vx_MQ below (zr_Q D cy ad A σ rr) (zr_X D cy ad A σ rr) [.ref (ad 0), .int a1, .int a2, .int a3, .int a4].toArray s 1 6 A) (F0 m 80 ls []) := by
    intro H locs ls hP hS hsz hn
    refine vq_make (own := RX11) (cls := zXN) (text := "no such rest") (ik := 284) (is := 295) (ic := 288) (sa := sa 1) hx hb hfl hC.2.2.2.1 (by decide +kernel) (hC.2.2.2.2.1 _ rK) (hC.2.2.2.2.1 _ rN) hZ.2.2.2.2 (vq_hat hC.2.2.2.2.1 hZ) vq_ots hZ.2.1 hZ.2.2.1 hS (hsz.trans hml.symm) dX11_rests_80 dX11_rests_83 dX11_rests_84 dX11_rests_87 (Nat.le_of_ble_eq_true rfl) (Nat.le_of_ble_eq_true rfl) (Nat.le_of_ble_eq_true rfl) (Nat.le_of_ble_eq_true rfl) (fun q H1 ce e1 e2 e3 z1 o1 hS1 => ?_)
    refine vx_athrow hx hb dX11_rests_90 ?_
    exact vx_out (E := zXN) (fun x hx => (htab x hx).elim) hk e1 e2 e3 (fun t ht hA => ⟨(), hn, ⟨rfl, by rw [ht]; exact va_P.kept hP (fun k x hx => o1 x.1 ((hP k x hx).lt))⟩, hS1.F ht⟩) hS1.2.2 (Nat.le_refl _) (Nat.le_refl _)
  have at4 : ∀ (n : Int32) (H : Heap) (locs : List Loc) (ls : Array Slot), fx_P D cy LX ad σ H → va_S A s.heap H locs → lv_has ls 7 [(6, .int 4), (5, .int n), (0, .ref (ad 0)), (1, .int a1), (2, .int a2), (3, .int a3), (4, .int a4)] → zr4 q a4 0 n = rr → W p l e (vz_R 6 1 6) s m [.ref (ad 0), .int a1, .int a2, .int a3, .int a4].toArray below meth c H locs 0 0 (vx_MQ below (zr_Q D cy ad A σ rr) (zr_X D cy ad A σ rr) [.ref (ad 0), .int a1, .int a2, .int a3, .int a4].toArray s 1 6 A) (F0 m 38 ls []) := by
    intro n H locs ls hP hS hl hn
    unfold zr4 at hn
    refine lv_iload hx hb dX11_rests_38 (lv_at hl 0 rfl) ?_
    refine lv_iconst (v := 4) hx hb dX11_rests_40 (by decide) ?_
    refine lv_icmp_ge (tgt := 74) hx hb dX11_rests_41 (by decide) (fun _ => ?_) (fun h => absurd (by decide) h)
    refine lv_iload hx hb dX11_rests_74 (lv_at hl 6 rfl) ?_
    refine lv_iconst (v := -1) hx hb dX11_rests_76 (by decide) ?_
    refine lv_icmp_eq (tgt := 91) hx hb dX11_rests_77 (by decide) (fun c1 => ?_) (fun c1 => ?_)
    · refine lv_iload hx hb dX11_rests_91 (lv_at hl 1 rfl) ?_
      rw [if_pos c1] at hn
      exact done H locs ls n 93 hP hS hn.symm dX11_rests_93
    · rw [if_neg c1] at hn
      exact norest H locs ls hP hS hl.1 hn.symm
  have at3 : ∀ (n : Int32) (H : Heap) (locs : List Loc) (ls : Array Slot), fx_P D cy LX ad σ H → va_S A s.heap H locs → lv_has ls 7 [(6, .int 3), (5, .int n), (0, .ref (ad 0)), (1, .int a1), (2, .int a2), (3, .int a3), (4, .int a4)] → zr4 q a4 1 n = rr → W p l e (vz_R 6 1 6) s m [.ref (ad 0), .int a1, .int a2, .int a3, .int a4].toArray below meth c H locs 0 0 (vx_MQ below (zr_Q D cy ad A σ rr) (zr_X D cy ad A σ rr) [.ref (ad 0), .int a1, .int a2, .int a3, .int a4].toArray s 1 6 A) (F0 m 38 ls []) := by
    intro n H locs ls hP hS hl hn
    unfold zr4 at hn
    refine lv_iload hx hb dX11_rests_38 (lv_at hl 0 rfl) ?_
    refine lv_iconst (v := 4) hx hb dX11_rests_40 (by decide) ?_
    refine lv_icmp_ge (tgt := 74) hx hb dX11_rests_41 (by decide) (fun h => absurd h (by decide)) (fun _ => ?_)
    refine lv_iload hx hb dX11_rests_44 (lv_at hl 0 rfl) ?_
    refine lv_iload_n hx hb dX11_rests_46 rfl (lv_at hl 3 rfl) ?_
    refine lv_iload_n hx hb dX11_rests_47 rfl (lv_at hl 4 rfl) ?_
    refine lv_iload_n hx hb dX11_rests_48 rfl (lv_at hl 5 rfl) ?_
    refine fx_ci hC hS (fx_runS (n := 4) (As := [.int 3, .int a1, .int a2, .int a3]) (rest := []) hC hP hS (ctX11_isAtRest l hq3 D cy ad ec _) (fx_l3 rL_X11_isAtRest rS_X11_isAtRest kN_X11) rC_X11_isAtRest (by decide +kernel) rfl ⟨(Nat.le_of_ble_eq_true rfl), (Nat.le_of_ble_eq_true rfl)⟩ ⟨Nat.le_of_ble_eq_true rfl, Nat.le_of_ble_eq_true rfl⟩ hl.1 (Nat.le_of_ble_eq_true rfl) rfl dX11_rests_49) (fun H locs hP hS => ?_)
    have next : ∀ (n2 : Int32) (ls : Array Slot) (lv : List (Nat × Value)), (lv = [(6, .int 3), (5, .int n2), (0, .ref (ad 0)), (1, .int a1), (2, .int a2), (3, .int a3), (4, .int a4)] ∨ lv = [(5, .int n2), (6, .int 3), (0, .ref (ad 0)), (1, .int a1), (2, .int a2), (3, .int a3), (4, .int a4)]) → lv_has ls 7 lv → zr4 q a4 0 n2 = rr → W p l e (vz_R 6 1 6) s m [.ref (ad 0), .int a1, .int a2, .int a3, .int a4].toArray below meth c H locs 0 0 (vx_MQ below (zr_Q D cy ad A σ rr) (zr_X D cy ad A σ rr) [.ref (ad 0), .int a1, .int a2, .int a3, .int a4].toArray s 1 6 A) (F0 m 68 ls []) := by
      intro n2 ls lv hlv hl hn
      rcases hlv with rfl | rfl
      · refine lv_iinc (v := 4) (lv' := [(6, .int 4), (5, .int n2), (0, .ref (ad 0)), (1, .int a1), (2, .int a2), (3, .int a3), (4, .int a4)]) hx hb dX11_rests_68 hl (k := 0) rfl (by decide) (by decide) rfl (fun ls hl => ?_)
        refine lv_goto (tgt := 38) hx hb dX11_rests_71 (by decide) ?_
        exact at4 n2 H locs ls hP hS hl hn
      · refine lv_iinc (v := 4) (lv' := [(6, .int 4), (5, .int n2), (0, .ref (ad 0)), (1, .int a1), (2, .int a2), (3, .int a3), (4, .int a4)]) hx hb dX11_rests_68 hl (k := 1) rfl (by decide) (by decide) rfl (fun ls hl => ?_)
        refine lv_goto (tgt := 38) hx hb dX11_rests_71 (by decide) ?_
        exact at4 n2 H locs ls hP hS hl hn
    refine lv_if_eq (tgt := 68) hx hb dX11_rests_52 (by decide) (fun c1 => ?_) (fun c1 => ?_)
    · exact next n ls _ (Or.inl rfl) hl ((if_pos c1).symm.trans hn)
    · replace hn := (if_neg c1).symm.trans hn
      refine lv_iload hx hb dX11_rests_55 (lv_at hl 1 rfl) ?_
      refine lv_iload hx hb dX11_rests_57 (lv_at hl 6 rfl) ?_
      refine lv_icmp_ne (tgt := 65) hx hb dX11_rests_59 (by decide) (fun c2 => ?_) (fun c2 => ?_)
      · refine lv_iinc (v := n + 1) (lv' := [(5, .int (n + 1)), (6, .int 3), (0, .ref (ad 0)), (1, .int a1), (2, .int a2), (3, .int a3), (4, .int a4)]) hx hb dX11_rests_65 hl (k := 1) rfl (congrArg (fun z => n + z) ki_1) (by decide) rfl (fun ls hl => ?_)
        exact next (n + 1) ls _ (Or.inr rfl) hl ((if_neg c2).symm.trans hn)
      · refine lv_iload hx hb dX11_rests_62 (lv_at hl 0 rfl) ?_
        exact done H locs ls 3 64 hP hS ((if_pos c2).symm.trans hn).symm dX11_rests_64
  have at2 : ∀ (n : Int32) (H : Heap) (locs : List Loc) (ls : Array Slot), fx_P D cy LX ad σ H → va_S A s.heap H locs → lv_has ls 7 [(6, .int 2), (5, .int n), (0, .ref (ad 0)), (1, .int a1), (2, .int a2), (3, .int a3), (4, .int a4)] → zr4 q a4 2 n = rr → W p l e (vz_R 6 1 6) s m [.ref (ad 0), .int a1, .int a2, .int a3, .int a4].toArray below meth c H locs 0 0 (vx_MQ below (zr_Q D cy ad A σ rr) (zr_X D cy ad A σ rr) [.ref (ad 0), .int a1, .int a2, .int a3, .int a4].toArray s 1 6 A) (F0 m 38 ls []) := by
    intro n H locs ls hP hS hl hn
    unfold zr4 at hn
    refine lv_iload hx hb dX11_rests_38 (lv_at hl 0 rfl) ?_
    refine lv_iconst (v := 4) hx hb dX11_rests_40 (by decide) ?_
    refine lv_icmp_ge (tgt := 74) hx hb dX11_rests_41 (by decide) (fun h => absurd h (by decide)) (fun _ => ?_)
    refine lv_iload hx hb dX11_rests_44 (lv_at hl 0 rfl) ?_
    refine lv_iload_n hx hb dX11_rests_46 rfl (lv_at hl 3 rfl) ?_
    refine lv_iload_n hx hb dX11_rests_47 rfl (lv_at hl 4 rfl) ?_
    refine lv_iload_n hx hb dX11_rests_48 rfl (lv_at hl 5 rfl) ?_
    refine fx_ci hC hS (fx_runS (n := 4) (As := [.int 2, .int a1, .int a2, .int a3]) (rest := []) hC hP hS (ctX11_isAtRest l hq2 D cy ad ec _) (fx_l3 rL_X11_isAtRest rS_X11_isAtRest kN_X11) rC_X11_isAtRest (by decide +kernel) rfl ⟨(Nat.le_of_ble_eq_true rfl), (Nat.le_of_ble_eq_true rfl)⟩ ⟨Nat.le_of_ble_eq_true rfl, Nat.le_of_ble_eq_true rfl⟩ hl.1 (Nat.le_of_ble_eq_true rfl) rfl dX11_rests_49) (fun H locs hP hS => ?_)
    have next : ∀ (n2 : Int32) (ls : Array Slot) (lv : List (Nat × Value)), (lv = [(6, .int 2), (5, .int n2), (0, .ref (ad 0)), (1, .int a1), (2, .int a2), (3, .int a3), (4, .int a4)] ∨ lv = [(5, .int n2), (6, .int 2), (0, .ref (ad 0)), (1, .int a1), (2, .int a2), (3, .int a3), (4, .int a4)]) → lv_has ls 7 lv → zr4 q a4 1 n2 = rr → W p l e (vz_R 6 1 6) s m [.ref (ad 0), .int a1, .int a2, .int a3, .int a4].toArray below meth c H locs 0 0 (vx_MQ below (zr_Q D cy ad A σ rr) (zr_X D cy ad A σ rr) [.ref (ad 0), .int a1, .int a2, .int a3, .int a4].toArray s 1 6 A) (F0 m 68 ls []) := by
      intro n2 ls lv hlv hl hn
      rcases hlv with rfl | rfl
      · refine lv_iinc (v := 3) (lv' := [(6, .int 3), (5, .int n2), (0, .ref (ad 0)), (1, .int a1), (2, .int a2), (3, .int a3), (4, .int a4)]) hx hb dX11_rests_68 hl (k := 0) rfl (by decide) (by decide) rfl (fun ls hl => ?_)
        refine lv_goto (tgt := 38) hx hb dX11_rests_71 (by decide) ?_
        exact at3 n2 H locs ls hP hS hl hn
      · refine lv_iinc (v := 3) (lv' := [(6, .int 3), (5, .int n2), (0, .ref (ad 0)), (1, .int a1), (2, .int a2), (3, .int a3), (4, .int a4)]) hx hb dX11_rests_68 hl (k := 1) rfl (by decide) (by decide) rfl (fun ls hl => ?_)
        refine lv_goto (tgt := 38) hx hb dX11_rests_71 (by decide) ?_
        exact at3 n2 H locs ls hP hS hl hn
    refine lv_if_eq (tgt := 68) hx hb dX11_rests_52 (by decide) (fun c1 => ?_) (fun c1 => ?_)
    · exact next n ls _ (Or.inl rfl) hl ((if_pos c1).symm.trans hn)
    · replace hn := (if_neg c1).symm.trans hn
      refine lv_iload hx hb dX11_rests_55 (lv_at hl 1 rfl) ?_
      refine lv_iload hx hb dX11_rests_57 (lv_at hl 6 rfl) ?_
      refine lv_icmp_ne (tgt := 65) hx hb dX11_rests_59 (by decide) (fun c2 => ?_) (fun c2 => ?_)
      · refine lv_iinc (v := n + 1) (lv' := [(5, .int (n + 1)), (6, .int 2), (0, .ref (ad 0)), (1, .int a1), (2, .int a2), (3, .int a3), (4, .int a4)]) hx hb dX11_rests_65 hl (k := 1) rfl (congrArg (fun z => n + z) ki_1) (by decide) rfl (fun ls hl => ?_)
        exact next (n + 1) ls _ (Or.inr rfl) hl ((if_neg c2).symm.trans hn)
      · refine lv_iload hx hb dX11_rests_62 (lv_at hl 0 rfl) ?_
        exact done H locs ls 2 64 hP hS ((if_pos c2).symm.trans hn).symm dX11_rests_64
  have at1 : ∀ (n : Int32) (H : Heap) (locs : List Loc) (ls : Array Slot), fx_P D cy LX ad σ H → va_S A s.heap H locs → lv_has ls 7 [(6, .int 1), (5, .int n), (0, .ref (ad 0)), (1, .int a1), (2, .int a2), (3, .int a3), (4, .int a4)] → zr4 q a4 3 n = rr → W p l e (vz_R 6 1 6) s m [.ref (ad 0), .int a1, .int a2, .int a3, .int a4].toArray below meth c H locs 0 0 (vx_MQ below (zr_Q D cy ad A σ rr) (zr_X D cy ad A σ rr) [.ref (ad 0), .int a1, .int a2, .int a3, .int a4].toArray s 1 6 A) (F0 m 38 ls []) := by
    intro n H locs ls hP hS hl hn
    unfold zr4 at hn
    refine lv_iload hx hb dX11_rests_38 (lv_at hl 0 rfl) ?_
    refine lv_iconst (v := 4) hx hb dX11_rests_40 (by decide) ?_
    refine lv_icmp_ge (tgt := 74) hx hb dX11_rests_41 (by decide) (fun h => absurd h (by decide)) (fun _ => ?_)
    refine lv_iload hx hb dX11_rests_44 (lv_at hl 0 rfl) ?_
    refine lv_iload_n hx hb dX11_rests_46 rfl (lv_at hl 3 rfl) ?_
    refine lv_iload_n hx hb dX11_rests_47 rfl (lv_at hl 4 rfl) ?_
    refine lv_iload_n hx hb dX11_rests_48 rfl (lv_at hl 5 rfl) ?_
    refine fx_ci hC hS (fx_runS (n := 4) (As := [.int 1, .int a1, .int a2, .int a3]) (rest := []) hC hP hS (ctX11_isAtRest l hq1 D cy ad ec _) (fx_l3 rL_X11_isAtRest rS_X11_isAtRest kN_X11) rC_X11_isAtRest (by decide +kernel) rfl ⟨(Nat.le_of_ble_eq_true rfl), (Nat.le_of_ble_eq_true rfl)⟩ ⟨Nat.le_of_ble_eq_true rfl, Nat.le_of_ble_eq_true rfl⟩ hl.1 (Nat.le_of_ble_eq_true rfl) rfl dX11_rests_49) (fun H locs hP hS => ?_)
    have next : ∀ (n2 : Int32) (ls : Array Slot) (lv : List (Nat × Value)), (lv = [(6, .int 1), (5, .int n2), (0, .ref (ad 0)), (1, .int a1), (2, .int a2), (3, .int a3), (4, .int a4)] ∨ lv = [(5, .int n2), (6, .int 1), (0, .ref (ad 0)), (1, .int a1), (2, .int a2), (3, .int a3), (4, .int a4)]) → lv_has ls 7 lv → zr4 q a4 2 n2 = rr → W p l e (vz_R 6 1 6) s m [.ref (ad 0), .int a1, .int a2, .int a3, .int a4].toArray below meth c H locs 0 0 (vx_MQ below (zr_Q D cy ad A σ rr) (zr_X D cy ad A σ rr) [.ref (ad 0), .int a1, .int a2, .int a3, .int a4].toArray s 1 6 A) (F0 m 68 ls []) := by
      intro n2 ls lv hlv hl hn
      rcases hlv with rfl | rfl
      · refine lv_iinc (v := 2) (lv' := [(6, .int 2), (5, .int n2), (0, .ref (ad 0)), (1, .int a1), (2, .int a2), (3, .int a3), (4, .int a4)]) hx hb dX11_rests_68 hl (k := 0) rfl (by decide) (by decide) rfl (fun ls hl => ?_)
        refine lv_goto (tgt := 38) hx hb dX11_rests_71 (by decide) ?_
        exact at2 n2 H locs ls hP hS hl hn
      · refine lv_iinc (v := 2) (lv' := [(6, .int 2), (5, .int n2), (0, .ref (ad 0)), (1, .int a1), (2, .int a2), (3, .int a3), (4, .int a4)]) hx hb dX11_rests_68 hl (k := 1) rfl (by decide) (by decide) rfl (fun ls hl => ?_)
        refine lv_goto (tgt := 38) hx hb dX11_rests_71 (by decide) ?_
        exact at2 n2 H locs ls hP hS hl hn
    refine lv_if_eq (tgt := 68) hx hb dX11_rests_52 (by decide) (fun c1 => ?_) (fun c1 => ?_)
    · exact next n ls _ (Or.inl rfl) hl ((if_pos c1).symm.trans hn)
    · replace hn := (if_neg c1).symm.trans hn
      refine lv_iload hx hb dX11_rests_55 (lv_at hl 1 rfl) ?_
      refine lv_iload hx hb dX11_rests_57 (lv_at hl 6 rfl) ?_
      refine lv_icmp_ne (tgt := 65) hx hb dX11_rests_59 (by decide) (fun c2 => ?_) (fun c2 => ?_)
      · refine lv_iinc (v := n + 1) (lv' := [(5, .int (n + 1)), (6, .int 1), (0, .ref (ad 0)), (1, .int a1), (2, .int a2), (3, .int a3), (4, .int a4)]) hx hb dX11_rests_65 hl (k := 1) rfl (congrArg (fun z => n + z) ki_1) (by decide) rfl (fun ls hl => ?_)
        exact next (n + 1) ls _ (Or.inr rfl) hl ((if_neg c2).symm.trans hn)
      · refine lv_iload hx hb dX11_rests_62 (lv_at hl 0 rfl) ?_
        exact done H locs ls 1 64 hP hS ((if_pos c2).symm.trans hn).symm dX11_rests_64
  have at0 : ∀ (n : Int32) (H : Heap) (locs : List Loc) (ls : Array Slot), fx_P D cy LX ad σ H → va_S A s.heap H locs → lv_has ls 7 [(6, .int 0), (5, .int n), (0, .ref (ad 0)), (1, .int a1), (2, .int a2), (3, .int a3), (4, .int a4)] → zr4 q a4 4 n = rr → W p l e (vz_R 6 1 6) s m [.ref (ad 0), .int a1, .int a2, .int a3, .int a4].toArray below meth c H locs 0 0 (vx_MQ below (zr_Q D cy ad A σ rr) (zr_X D cy ad A σ rr) [.ref (ad 0), .int a1, .int a2, .int a3, .int a4].toArray s 1 6 A) (F0 m 38 ls []) := by
    intro n H locs ls hP hS hl hn
    unfold zr4 at hn
    refine lv_iload hx hb dX11_rests_38 (lv_at hl 0 rfl) ?_
    refine lv_iconst (v := 4) hx hb dX11_rests_40 (by decide) ?_
    refine lv_icmp_ge (tgt := 74) hx hb dX11_rests_41 (by decide) (fun h => absurd h (by decide)) (fun _ => ?_)
    refine lv_iload hx hb dX11_rests_44 (lv_at hl 0 rfl) ?_
    refine lv_iload_n hx hb dX11_rests_46 rfl (lv_at hl 3 rfl) ?_
    refine lv_iload_n hx hb dX11_rests_47 rfl (lv_at hl 4 rfl) ?_
    refine lv_iload_n hx hb dX11_rests_48 rfl (lv_at hl 5 rfl) ?_
    refine fx_ci hC hS (fx_runS (n := 4) (As := [.int 0, .int a1, .int a2, .int a3]) (rest := []) hC hP hS (ctX11_isAtRest l hq0 D cy ad ec _) (fx_l3 rL_X11_isAtRest rS_X11_isAtRest kN_X11) rC_X11_isAtRest (by decide +kernel) rfl ⟨(Nat.le_of_ble_eq_true rfl), (Nat.le_of_ble_eq_true rfl)⟩ ⟨Nat.le_of_ble_eq_true rfl, Nat.le_of_ble_eq_true rfl⟩ hl.1 (Nat.le_of_ble_eq_true rfl) rfl dX11_rests_49) (fun H locs hP hS => ?_)
    have next : ∀ (n2 : Int32) (ls : Array Slot) (lv : List (Nat × Value)), (lv = [(6, .int 0), (5, .int n2), (0, .ref (ad 0)), (1, .int a1), (2, .int a2), (3, .int a3), (4, .int a4)] ∨ lv = [(5, .int n2), (6, .int 0), (0, .ref (ad 0)), (1, .int a1), (2, .int a2), (3, .int a3), (4, .int a4)]) → lv_has ls 7 lv → zr4 q a4 3 n2 = rr → W p l e (vz_R 6 1 6) s m [.ref (ad 0), .int a1, .int a2, .int a3, .int a4].toArray below meth c H locs 0 0 (vx_MQ below (zr_Q D cy ad A σ rr) (zr_X D cy ad A σ rr) [.ref (ad 0), .int a1, .int a2, .int a3, .int a4].toArray s 1 6 A) (F0 m 68 ls []) := by
      intro n2 ls lv hlv hl hn
      rcases hlv with rfl | rfl
      · refine lv_iinc (v := 1) (lv' := [(6, .int 1), (5, .int n2), (0, .ref (ad 0)), (1, .int a1), (2, .int a2), (3, .int a3), (4, .int a4)]) hx hb dX11_rests_68 hl (k := 0) rfl (by decide) (by decide) rfl (fun ls hl => ?_)
        refine lv_goto (tgt := 38) hx hb dX11_rests_71 (by decide) ?_
        exact at1 n2 H locs ls hP hS hl hn
      · refine lv_iinc (v := 1) (lv' := [(6, .int 1), (5, .int n2), (0, .ref (ad 0)), (1, .int a1), (2, .int a2), (3, .int a3), (4, .int a4)]) hx hb dX11_rests_68 hl (k := 1) rfl (by decide) (by decide) rfl (fun ls hl => ?_)
        refine lv_goto (tgt := 38) hx hb dX11_rests_71 (by decide) ?_
        exact at1 n2 H locs ls hP hS hl hn
    refine lv_if_eq (tgt := 68) hx hb dX11_rests_52 (by decide) (fun c1 => ?_) (fun c1 => ?_)
    · exact next n ls _ (Or.inl rfl) hl ((if_pos c1).symm.trans hn)
    · replace hn := (if_neg c1).symm.trans hn
      refine lv_iload hx hb dX11_rests_55 (lv_at hl 1 rfl) ?_
      refine lv_iload hx hb dX11_rests_57 (lv_at hl 6 rfl) ?_
      refine lv_icmp_ne (tgt := 65) hx hb dX11_rests_59 (by decide) (fun c2 => ?_) (fun c2 => ?_)
      · refine lv_iinc (v := n + 1) (lv' := [(5, .int (n + 1)), (6, .int 0), (0, .ref (ad 0)), (1, .int a1), (2, .int a2), (3, .int a3), (4, .int a4)]) hx hb dX11_rests_65 hl (k := 1) rfl (congrArg (fun z => n + z) ki_1) (by decide) rfl (fun ls hl => ?_)
        exact next (n + 1) ls _ (Or.inr rfl) hl ((if_neg c2).symm.trans hn)
      · refine lv_iload hx hb dX11_rests_62 (lv_at hl 0 rfl) ?_
        exact done H locs ls 0 64 hP hS ((if_pos c2).symm.trans hn).symm dX11_rests_64
  unfold zrr at hrr
  refine lv_iload_n hx hb dX11_rests_0 rfl (lv_at hl 1 rfl) ?_
  refine fx_ci hC hS (fx_runS (n := 1) (As := [.int a1]) (rest := []) hC hP hS (ctX11_isStake l hs1 D cy ad ec _) (fx_l3 rL_X11_isStake rS_X11_isStake kN_X11) rC_X11_isStake (by decide +kernel) rfl ⟨(Nat.le_of_ble_eq_true rfl), (Nat.le_of_ble_eq_true rfl)⟩ ⟨Nat.le_of_ble_eq_true rfl, Nat.le_of_ble_eq_true rfl⟩ hl.1 (Nat.le_of_ble_eq_true rfl) rfl dX11_rests_1) (fun H locs hP hS => ?_)
  refine lv_if_eq (tgt := 21) hx hb dX11_rests_4 (by decide) (fun c1 => stair H locs ls hP hS hl.1 ((if_pos c1).symm.trans hrr).symm) (fun c1 => ?_)
  replace hrr := (if_neg c1).symm.trans hrr
  refine lv_iload_n hx hb dX11_rests_7 rfl (lv_at hl 2 rfl) ?_
  refine fx_ci hC hS (fx_runS (n := 1) (As := [.int a2]) (rest := []) hC hP hS (ctX11_isStake l hs2 D cy ad ec _) (fx_l3 rL_X11_isStake rS_X11_isStake kN_X11) rC_X11_isStake (by decide +kernel) rfl ⟨(Nat.le_of_ble_eq_true rfl), (Nat.le_of_ble_eq_true rfl)⟩ ⟨Nat.le_of_ble_eq_true rfl, Nat.le_of_ble_eq_true rfl⟩ hl.1 (Nat.le_of_ble_eq_true rfl) rfl dX11_rests_8) (fun H locs hP hS => ?_)
  refine lv_if_eq (tgt := 21) hx hb dX11_rests_11 (by decide) (fun c2 => stair H locs ls hP hS hl.1 ((if_pos c2).symm.trans hrr).symm) (fun c2 => ?_)
  replace hrr := (if_neg c2).symm.trans hrr
  refine lv_iload_n hx hb dX11_rests_14 rfl (lv_at hl 3 rfl) ?_
  refine fx_ci hC hS (fx_runS (n := 1) (As := [.int a3]) (rest := []) hC hP hS (ctX11_isStake l hs3 D cy ad ec _) (fx_l3 rL_X11_isStake rS_X11_isStake kN_X11) rC_X11_isStake (by decide +kernel) rfl ⟨(Nat.le_of_ble_eq_true rfl), (Nat.le_of_ble_eq_true rfl)⟩ ⟨Nat.le_of_ble_eq_true rfl, Nat.le_of_ble_eq_true rfl⟩ hl.1 (Nat.le_of_ble_eq_true rfl) rfl dX11_rests_15) (fun H locs hP hS => ?_)
  refine lv_if_ne (tgt := 32) hx hb dX11_rests_18 (by decide) (fun c3 => ?_) (fun c3 => stair H locs ls hP hS hl.1 ((if_pos c3).symm.trans hrr).symm)
  replace hrr := (if_neg c3).symm.trans hrr
  refine lv_iconst (v := 0) hx hb dX11_rests_32 (by decide) ?_
  refine lv_istore (lv' := [(5, .int 0), (0, .ref (ad 0)), (1, .int a1), (2, .int a2), (3, .int a3), (4, .int a4)]) hx hb dX11_rests_33 hl (by decide) rfl (fun ls hl => ?_)
  refine lv_iconst (v := 0) hx hb dX11_rests_35 (by decide) ?_
  refine lv_istore (lv' := [(6, .int 0), (5, .int 0), (0, .ref (ad 0)), (1, .int a1), (2, .int a2), (3, .int a3), (4, .int a4)]) hx hb dX11_rests_36 hl (by decide) rfl (fun ls hl => ?_)
  exact at0 0 H locs ls hP hS hl hrr
