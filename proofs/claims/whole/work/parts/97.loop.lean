/-! ===== the law's loop ===== -/
theorem zi_in {t L : Nat} (hL : L ≤ 3584) (h : 7 * t + 7 ≤ L) (j : Int32) (h0 : 0 ≤ j) (h6 : j ≤ 6) : vp_in (nI (7 * t) + j) L := by
  have e1 : (nI (7 * t)).toInt = ((7 * t : Nat) : Int) := nI_toInt (by omega)
  have t0 := Int32.le_iff_toInt_le.mp h0
  have t6 := Int32.le_iff_toInt_le.mp h6
  rw [show (0 : Int32).toInt = 0 from by decide] at t0
  rw [show (6 : Int32).toInt = 6 from by decide] at t6
  have e2 : (nI (7 * t) + j).toInt = ((7 * t : Nat) : Int) + j.toInt := by
    rw [Int32.toInt_add, e1, Int.bmod_def]
    omega
  intro h
  rcases h with h | h
  · have := Int32.lt_iff_toInt_lt.mp h
    rw [e2, show (0 : Int32).toInt = 0 from by decide] at this
    omega
  · have e3 : (nI (7 * t) + j).toNatClampNeg = (nI (7 * t) + j).toInt.toNat := rfl
    rw [e3, e2] at h
    omega
theorem zi_nx {t : Nat} (h : 7 * t + 7 ≤ 3584) : nI (7 * t) + Int32.ofInt 7 = nI (7 * (t + 1)) := by
  apply Int32.toInt_inj.mp
  rw [Int32.toInt_add, nI_toInt (by omega), nI_toInt (by omega), show (Int32.ofInt 7).toInt = 7 from by decide, Int.bmod_def]
  omega
theorem zi_len {L : Nat} (hL : L ≤ 3584) : (Int32.ofNat L - 7).toInt = (L : Int) - 7 := by
  have e : (Int32.ofNat L).toInt = (L : Int) := nI_toInt (by omega)
  rw [Int32.toInt_sub, e, show (7 : Int32).toInt = 7 from by decide, Int.bmod_def]
  omega
section ZLL
variable {p : Program} {l : Launch} {e : Env} {s : State} {m : MethodId} {below : List Frame} {meth : Method} {c : Code}
variable {D : va_G} {cy : Nat → ClassId} {adx adm ec sa : Nat → Nat} {o b L : Nat} {xs : Nat → Int32}
set_option maxHeartbeats 4000000 in
theorem lw_loop (hfl : l.stackTraces = false) (hL : L ≤ 3584) (hr : meth.sig.returnType = ret) (hk : meth.locks = false) (hC : zl_C p s m #[Value.ref b] c D cy adx adm ec sa o b L xs) : ∀ (N t : Nat), t + N = 512 → ∀ (σx σm : FH) (f : Nat → Int64) (H : Heap) (locs : List Loc) (ls : Array Slot), Rel t σx σm → zl_W D cy adx adm o σx σm f H → va_S (zAL s) s.heap H locs → lv_has ls 7 [(4, .int (nI (7 * t))), (3, .ref o), (2, .ref (adm 0)), (1, .ref (adx 0)), (0, .ref b)] →
    W p l e room_1 s m #[Value.ref b] below meth c H locs (1000 + t) (12000 + 6 * t) (lw_Z below #[Value.ref b] s) (F0 m 23 ls []) := by
  have hx := hC.1.1
  have hb : c.code = cL_law := hC.1.2.1
  have hX := hC.2.2.2.2.2.2.1
  have hbl := hC.2.2.2.2.2.2.2.1
  have hbA : ¬ zAL s b := Nat.not_le.mpr hbl
  intro N
  induction N with
  | zero =>
    intro t ht σx σm f H locs ls hR hW hS hl
    refine lv_iload hx hb dL_law_23 (lv_at hl 0 rfl) ?_
    refine lv_aload_n hx hb dL_law_25 rfl (lv_at hl 4 rfl) ?_
    refine va_slen hx hb hX hbl hbA hS dL_law_26 ?_
    refine lv_bipush (v := 7) hx hb dL_law_27 (by decide) ?_
    refine lv_isub hx hb dL_law_29 ?_
    refine lv_icmp_gt (tgt := 1399) hx hb dL_law_30 (by decide) (fun c1 => ?_) (fun c1 => absurd ?_ c1)
    · refine lv_iconst (v := 1) hx hb dL_law_1399 (by decide) ?_
      refine va_forget (fun q hq => hS.2.2 q hq) ?_
      refine W.widen (k := 601024) (n := 7293034) (by omega) (by omega) ?_
      exact lw_ret hx hb hr hk dL_law_1400
    · apply Int32.lt_iff_toInt_lt.mpr
      rw [zi_len hL, nI_toInt (by omega)]
      omega
  | succ N ih =>
    intro t ht σx σm f H locs ls hR hW hS hl
    refine lv_iload hx hb dL_law_23 (lv_at hl 0 rfl) ?_
    refine lv_aload_n hx hb dL_law_25 rfl (lv_at hl 4 rfl) ?_
    refine va_slen hx hb hX hbl hbA hS dL_law_26 ?_
    refine lv_bipush (v := 7) hx hb dL_law_27 (by decide) ?_
    refine lv_isub hx hb dL_law_29 ?_
    refine lv_icmp_gt (tgt := 1399) hx hb dL_law_30 (by decide) (fun c1 => ?_) (fun c1 => ?_)
    · refine lv_iconst (v := 1) hx hb dL_law_1399 (by decide) ?_
      refine va_forget (fun q hq => hS.2.2 q hq) ?_
      refine W.widen (k := 601024) (n := 7293034) (by omega) (by omega) ?_
      exact lw_ret hx hb hr hk dL_law_1400
    have hlt : 7 * t + 7 ≤ L := by
      have c2 := Int32.not_lt.mp c1
      have c3 := Int32.le_iff_toInt_le.mp c2
      rw [zi_len hL, nI_toInt (by omega)] at c3
      omega
    have hin : ∀ j : Int32, 1 ≤ j → j ≤ 6 → vp_in (nI (7 * t) + j) L := fun j h1 h6 => zi_in hL hlt j (Int32.le_trans (by decide) h1) h6
    have hi0 : vp_in (nI (7 * t)) L := by
      have := zi_in hL hlt 0 (by decide) (by decide)
      rwa [Int32.add_zero] at this
    have hcs : (1000 + t) + 1 ≤ room_1.cells ∧ (12000 + 6 * t) + 6 ≤ room_1.slots := ⟨Nat.le_trans (by omega : 1000 + t + 1 ≤ 601024) (Nat.le_of_ble_eq_true rfl), Nat.le_trans (by omega : 12000 + 6 * t + 6 ≤ 7293034) (Nat.le_of_ble_eq_true rfl)⟩
    have nx : ∀ (σx' σm' : FH) (f' : Nat → Int64) (H1 : Heap) (locs1 : List Loc) (ls1 : Array Slot), Rel (t + 1) σx' σm' → zl_W D cy adx adm o σx' σm' f' H1 → va_S (zAL s) s.heap H1 locs1 → lv_has ls1 7 [(4, .int (nI (7 * t))), (3, .ref o), (2, .ref (adm 0)), (1, .ref (adx 0)), (0, .ref b)] → W p l e room_1 s m #[Value.ref b] below meth c H1 locs1 (1000 + t + 1) (12000 + 6 * t + 6) (lw_Z below #[Value.ref b] s) (F0 m 1393 ls1 []) := by
      intro σx' σm' f' H1 locs1 ls1 hR1 hW1 hS1 hl1
      refine lv_iinc (v := nI (7 * (t + 1))) (lv' := [(4, .int (nI (7 * (t + 1)))), (3, .ref o), (2, .ref (adm 0)), (1, .ref (adx 0)), (0, .ref b)]) hx hb dL_law_1393 hl1 (k := 0) rfl (zi_nx (by omega)) (by decide) rfl (fun ls hl => ?_)
      refine lv_goto (tgt := 23) hx hb dL_law_1396 (by decide) ?_
      have := ih (t + 1) (by omega) σx' σm' f' H1 locs1 ls hR1 hW1 hS1 hl
      exact this
    refine lv_aload_n hx hb dL_law_33 rfl (lv_at hl 4 rfl) ?_
    refine lv_iload hx hb dL_law_34 (lv_at hl 0 rfl) ?_
    refine va_sld hx hb hX hbl hbA hS hi0 dL_law_36 ?_
    refine lv_bipush (v := 63) hx hb dL_law_37 (by decide) ?_
    refine lv_iand hx hb dL_law_39 ?_
    generalize xs (nI (7 * t)).toNatClampNeg &&& 63 = w
    by_cases hout : w.toInt < 0 ∨ 35 < w.toInt
    · refine lv_tableOut (tgt := 1393) hx hb dL_law_40 hout (by decide) ?_
      exact W.widen (Nat.le_succ _) (Nat.le_add_right _ 6) (nx _ _ _ _ _ _ (Rel_up hR (Nat.le_succ t)) hW hS hl)
    have hn : t < 600 := by omega
    have hwi : w.toInt = 0 ∨ w.toInt = 1 ∨ w.toInt = 2 ∨ w.toInt = 3 ∨ w.toInt = 4 ∨ w.toInt = 5 ∨ w.toInt = 6 ∨ w.toInt = 7 ∨ w.toInt = 8 ∨ w.toInt = 9 ∨ w.toInt = 10 ∨ w.toInt = 11 ∨ w.toInt = 12 ∨ w.toInt = 13 ∨ w.toInt = 14 ∨ w.toInt = 15 ∨ w.toInt = 16 ∨ w.toInt = 17 ∨ w.toInt = 18 ∨ w.toInt = 19 ∨ w.toInt = 20 ∨ w.toInt = 21 ∨ w.toInt = 22 ∨ w.toInt = 23 ∨ w.toInt = 24 ∨ w.toInt = 25 ∨ w.toInt = 26 ∨ w.toInt = 27 ∨ w.toInt = 28 ∨ w.toInt = 29 ∨ w.toInt = 30 ∨ w.toInt = 31 ∨ w.toInt = 32 ∨ w.toInt = 33 ∨ w.toInt = 34 ∨ w.toInt = 35 := by omega
    rcases hwi with h | h | h | h | h | h | h | h | h | h | h | h | h | h | h | h | h | h | h | h | h | h | h | h | h | h | h | h | h | h | h | h | h | h | h | h
    · refine lv_tableIn (off := 160) (tgt := 200) hx hb dL_law_40 (by omega) (by omega) (by rw [h]; rfl) (by decide) ?_
      exact lw_c200 hfl hC hn hR hW hS hl hin hcs nx
    · refine lv_tableIn (off := 307) (tgt := 347) hx hb dL_law_40 (by omega) (by omega) (by rw [h]; rfl) (by decide) ?_
      exact lw_c347 hfl hC hn hR hW hS hl hin hcs nx
    · refine lv_tableIn (off := 320) (tgt := 360) hx hb dL_law_40 (by omega) (by omega) (by rw [h]; rfl) (by decide) ?_
      exact lw_c360 hfl hC hn hR hW hS hl hin hcs nx
    · refine lv_tableIn (off := 333) (tgt := 373) hx hb dL_law_40 (by omega) (by omega) (by rw [h]; rfl) (by decide) ?_
      exact lw_c373 hfl hC hn hR hW hS hl hin hcs nx
    · refine lv_tableIn (off := 370) (tgt := 410) hx hb dL_law_40 (by omega) (by omega) (by rw [h]; rfl) (by decide) ?_
      exact lw_c410 hfl hC hn hR hW hS hl hin hcs nx
    · refine lv_tableIn (off := 407) (tgt := 447) hx hb dL_law_40 (by omega) (by omega) (by rw [h]; rfl) (by decide) ?_
      exact lw_c447 hfl hC hn hR hW hS hl hin hcs nx
    · refine lv_tableIn (off := 444) (tgt := 484) hx hb dL_law_40 (by omega) (by omega) (by rw [h]; rfl) (by decide) ?_
      exact lw_c484 hfl hC hn hR hW hS hl hin hcs nx
    · refine lv_tableIn (off := 481) (tgt := 521) hx hb dL_law_40 (by omega) (by omega) (by rw [h]; rfl) (by decide) ?_
      exact lw_c521 hfl hC hn hR hW hS hl hin hcs nx
    · refine lv_tableIn (off := 518) (tgt := 558) hx hb dL_law_40 (by omega) (by omega) (by rw [h]; rfl) (by decide) ?_
      exact lw_c558 hfl hC hn hR hW hS hl hin hcs nx
    · refine lv_tableIn (off := 567) (tgt := 607) hx hb dL_law_40 (by omega) (by omega) (by rw [h]; rfl) (by decide) ?_
      exact lw_c607 hfl hC hn hR hW hS hl hin hcs nx
    · refine lv_tableIn (off := 580) (tgt := 620) hx hb dL_law_40 (by omega) (by omega) (by rw [h]; rfl) (by decide) ?_
      exact lw_c620 hfl hC hn hR hW hS hl hin hcs nx
    · refine lv_tableIn (off := 593) (tgt := 633) hx hb dL_law_40 (by omega) (by omega) (by rw [h]; rfl) (by decide) ?_
      exact lw_c633 hfl hC hn hR hW hS hl hin hcs nx
    · refine lv_tableIn (off := 618) (tgt := 658) hx hb dL_law_40 (by omega) (by omega) (by rw [h]; rfl) (by decide) ?_
      exact lw_c658 hfl hC hn hR hW hS hl hin hcs nx
    · refine lv_tableIn (off := 643) (tgt := 683) hx hb dL_law_40 (by omega) (by omega) (by rw [h]; rfl) (by decide) ?_
      exact lw_c683 hfl hC hn hR hW hS hl hin hcs nx
    · refine lv_tableIn (off := 668) (tgt := 708) hx hb dL_law_40 (by omega) (by omega) (by rw [h]; rfl) (by decide) ?_
      exact lw_c708 hfl hC hn hR hW hS hl hin hcs nx
    · refine lv_tableIn (off := 705) (tgt := 745) hx hb dL_law_40 (by omega) (by omega) (by rw [h]; rfl) (by decide) ?_
      exact lw_c745 hfl hC hn hR hW hS hl hin hcs nx
    · refine lv_tableIn (off := 730) (tgt := 770) hx hb dL_law_40 (by omega) (by omega) (by rw [h]; rfl) (by decide) ?_
      exact lw_c770 hfl hC hn hR hW hS hl hin hcs nx
    · refine lv_tableIn (off := 743) (tgt := 783) hx hb dL_law_40 (by omega) (by omega) (by rw [h]; rfl) (by decide) ?_
      exact lw_c783 hfl hC hn hR hW hS hl hin hcs nx
    · refine lv_tableIn (off := 780) (tgt := 820) hx hb dL_law_40 (by omega) (by omega) (by rw [h]; rfl) (by decide) ?_
      exact lw_c820 hfl hC hn hR hW hS hl hin hcs nx
    · refine lv_tableIn (off := 805) (tgt := 845) hx hb dL_law_40 (by omega) (by omega) (by rw [h]; rfl) (by decide) ?_
      exact lw_c845 hfl hC hn hR hW hS hl hin hcs nx
    · refine lv_tableIn (off := 830) (tgt := 870) hx hb dL_law_40 (by omega) (by omega) (by rw [h]; rfl) (by decide) ?_
      exact lw_c870 hfl hC hn hR hW hS hl hin hcs nx
    · refine lv_tableIn (off := 855) (tgt := 895) hx hb dL_law_40 (by omega) (by omega) (by rw [h]; rfl) (by decide) ?_
      exact lw_c895 hfl hC hn hR hW hS hl hin hcs nx
    · refine lv_tableIn (off := 868) (tgt := 908) hx hb dL_law_40 (by omega) (by omega) (by rw [h]; rfl) (by decide) ?_
      exact lw_c908 hfl hC hn hR hW hS hl hin hcs nx
    · refine lv_tableIn (off := 881) (tgt := 921) hx hb dL_law_40 (by omega) (by omega) (by rw [h]; rfl) (by decide) ?_
      exact lw_c921 hfl hC hn hR hW hS hl hin hcs nx
    · refine lv_tableIn (off := 918) (tgt := 958) hx hb dL_law_40 (by omega) (by omega) (by rw [h]; rfl) (by decide) ?_
      exact lw_c958 hfl hC hn hR hW hS hl hin hcs nx
    · refine lv_tableIn (off := 943) (tgt := 983) hx hb dL_law_40 (by omega) (by omega) (by rw [h]; rfl) (by decide) ?_
      exact lw_c983 hfl hC hn hR hW hS hl hin hcs nx
    · refine lv_tableIn (off := 956) (tgt := 996) hx hb dL_law_40 (by omega) (by omega) (by rw [h]; rfl) (by decide) ?_
      exact lw_c996 hfl hC hn hR hW hS hl hin hcs nx
    · refine lv_tableIn (off := 981) (tgt := 1021) hx hb dL_law_40 (by omega) (by omega) (by rw [h]; rfl) (by decide) ?_
      exact lw_c1021 hfl hC hn hR hW hS hl hin hcs nx
    · refine lv_tableIn (off := 994) (tgt := 1034) hx hb dL_law_40 (by omega) (by omega) (by rw [h]; rfl) (by decide) ?_
      exact lw_c1034 hfl hC hn hR hW hS hl hin hcs nx
    · refine lv_tableIn (off := 1047) (tgt := 1087) hx hb dL_law_40 (by omega) (by omega) (by rw [h]; rfl) (by decide) ?_
      exact lw_c1087 hfl hC hn hR hW hS hl hin hcs nx
    · refine lv_tableIn (off := 1072) (tgt := 1112) hx hb dL_law_40 (by omega) (by omega) (by rw [h]; rfl) (by decide) ?_
      exact lw_c1112 hfl hC hn hR hW hS hl hin hcs nx
    · refine lv_tableIn (off := 1085) (tgt := 1125) hx hb dL_law_40 (by omega) (by omega) (by rw [h]; rfl) (by decide) ?_
      exact lw_c1125 hfl hC hn hR hW hS hl hin hcs nx
    · refine lv_tableIn (off := 1134) (tgt := 1174) hx hb dL_law_40 (by omega) (by omega) (by rw [h]; rfl) (by decide) ?_
      exact lw_c1174 hfl hC hn hR hW hS hl hin hcs nx
    · refine lv_tableIn (off := 1226) (tgt := 1266) hx hb dL_law_40 (by omega) (by omega) (by rw [h]; rfl) (by decide) ?_
      exact lw_c1266 hfl hC hn hR hW hS hl hin hcs nx
    · refine lv_tableIn (off := 1275) (tgt := 1315) hx hb dL_law_40 (by omega) (by omega) (by rw [h]; rfl) (by decide) ?_
      exact lw_c1315 hfl hC hn hR hW hS hl hin hcs nx
    · refine lv_tableIn (off := 1328) (tgt := 1368) hx hb dL_law_40 (by omega) (by omega) (by rw [h]; rfl) (by decide) ?_
      exact lw_c1368 hfl hC hn hR hW hS hl hin hcs nx
end ZLL
