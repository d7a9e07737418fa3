/-! ===== the law: its world, its calls ===== -/
def zAL (s : State) : Nat → Prop := fun q => s.heap.size ≤ q
def zl_C (p : Program) (s : State) (m : MethodId) (args : Array Value) (c : Code) (D : va_G) (cy : Nat → ClassId) (adx adm ec sa : Nat → Nat) (o b L : Nat) (xs : Nat → Int32) : Prop :=
  fx_C p s m args c cL_law 7 RL D cy LX adx ec (zAL s) ∧ fx_C p s m args c cL_law 7 RL D cy LM adm ec (zAL s) ∧ (∀ i j, i < LX.length → j < LM.length → adx i ≠ adm j) ∧ (∀ i, i < LX.length → o ≠ adx i) ∧ (∀ j, j < LM.length → o ≠ adm j) ∧ vq_E sa (zAL s) s s.heap ∧ va_X b L xs s s.heap ∧ b < s.heap.size ∧ s.heap.size ≤ o
def zl_W (D : va_G) (cy : Nat → ClassId) (adx adm : Nat → Nat) (o : Nat) (σx σm : FH) (f : Nat → Int64) (H : Heap) : Prop := fx_P D cy LX adx σx H ∧ fx_P D cy LM adm σm H ∧ va_at D vwCl (zoc cy o f) H
section ZL
variable {p : Program} {l : Launch} {e : Env} {R : Room} {s : State} {m : MethodId} {args : Array Value} {below : List Frame} {meth : Method} {c : Code} {H : Heap} {locs : List Loc} {cells slots : Nat} {Q : State → Prop}
variable {pc : Nat} {ls : Array Slot} {rest : List Value} {D : va_G} {cy : Nat → ClassId} {adx adm ec sa : Nat → Nat} {o b L : Nat} {xs : Nat → Int32} {σx σm : FH} {f : Nat → Int64}
theorem zl_cx (hC : zl_C p s m args c D cy adx adm ec sa o b L xs) (hW : zl_W D cy adx adm o σx σm f H) (hS : va_S (zAL s) s.heap H locs) {v : Int32} {σx' : FH} {y : MethodName} {bytes : ByteArray} {maxL d n index : Nat} {ret : Option FieldType} {As : List Value} (hM : fx_Mi l y bytes maxL ret d LX (fun ad _ => .ref (ad 0) :: As) σx v σx')
    (hw : ∀ w ∈ ([.methodLink RL index y, .instanceMethod y, .selects RX11 y y, .initialized RX11] : List Cond), w ∈ fx_tb) (hcd : Cond.code y bytes maxL ret ∈ fx_tb) (hd : y.cls = RX11 ∧ y.cls ≠ "java/lang/invoke/MethodHandle" ∧ y.cls ≠ "java/lang/invoke/VarHandle" ∧ (parseMethodDescriptor y.desc).map (fun d => d.parameters.length) = some n) (hn : As.length = n) (hR : d + 1 ≤ R.frames ∧ 8 + (maxL + 11) + 64 * d ≤ R.locals)
    (hcs : cells ≤ R.cells ∧ slots ≤ R.slots) (hsz : ls.size = 7) (hst : (rest.map fun v => v.category).sum ≤ 8) {st : List Value} (hs : st = As.reverse ++ .ref (adx 0) :: rest) (hdg : decode cL_law pc = .ok (.invokevirtual index, 3))
    (kk : ∀ (H1 : Heap) (locs1 : List Loc), zl_W D cy adx adm o σx' σm f H1 → va_S (zAL s) s.heap H1 locs1 → W p l e R s m args below meth c H1 locs1 cells slots Q (F0 m (pc + 3) ls (.int v :: rest))) : W p l e R s m args below meth c H locs cells slots Q (F0 m pc ls st) := by
  obtain ⟨hCx, hCm, hd1, hd2, hd3, hZ, hX, hb, ho⟩ := hC
  have hA : zAL s = fx_A LX adx s.heap.size := hCx.2.2.2.2.2.2.2.1
  refine va_calli (fx_runV (i := 0) (As := As) (rest := rest) hCx hW.1 hS (hM D cy adx ec H.size) kX_0 (by decide) rfl hw hcd hd hn hR hcs hsz hst hs hdg) hS (fun q _ h => by rw [hA]; exact fx_sub hS.1 h) (fun q h => by rw [hA]; exact fx_sub hS.1 h) (fun r u t H1 locs1 ht hvm hw hB hz1 hk1 hS1 => ?_)
  subst hw
  refine kk H1 locs1 ⟨ht ▸ hB, va_P.kept hW.2.1 (fun k x hx => hk1 x.1 ((hW.2.1 k x hx).lt) (fun h => ?_)), vz_at_k hW.2.2 (hk1 o (vz_lt hW.2.2) (fun h => ?_))⟩ hS1
  · have hlt := (hW.2.1 k x hx).lt
    obtain ⟨k', h1, rfl⟩ := fx_w_in hx
    rcases h with ⟨i, hi, he⟩ | h
    · exact hd1 i k hi (fx_len h1) he.symm
    · exact absurd hlt (Nat.not_lt.mpr h)
  · rcases h with ⟨i, hi, he⟩ | h
    · exact hd2 i hi he
    · exact absurd (vz_lt hW.2.2) (Nat.not_lt.mpr h)
theorem zl_cm (hC : zl_C p s m args c D cy adx adm ec sa o b L xs) (hW : zl_W D cy adx adm o σx σm f H) (hS : va_S (zAL s) s.heap H locs) {v : Int32} {σm' : FH} {y : MethodName} {bytes : ByteArray} {maxL d n index : Nat} {ret : Option FieldType} {As : List Value} (hM : fx_Mi l y bytes maxL ret d LM (fun ad _ => .ref (ad 0) :: As) σm v σm')
    (hw : ∀ w ∈ ([.methodLink RL index y, .instanceMethod y, .selects RX12 y y, .initialized RX12] : List Cond), w ∈ fx_tb) (hcd : Cond.code y bytes maxL ret ∈ fx_tb) (hd : y.cls = RX12 ∧ y.cls ≠ "java/lang/invoke/MethodHandle" ∧ y.cls ≠ "java/lang/invoke/VarHandle" ∧ (parseMethodDescriptor y.desc).map (fun d => d.parameters.length) = some n) (hn : As.length = n) (hR : d + 1 ≤ R.frames ∧ 8 + (maxL + 11) + 64 * d ≤ R.locals)
    (hcs : cells ≤ R.cells ∧ slots ≤ R.slots) (hsz : ls.size = 7) (hst : (rest.map fun v => v.category).sum ≤ 8) {st : List Value} (hs : st = As.reverse ++ .ref (adm 0) :: rest) (hdg : decode cL_law pc = .ok (.invokevirtual index, 3))
    (kk : ∀ (H1 : Heap) (locs1 : List Loc), zl_W D cy adx adm o σx σm' f H1 → va_S (zAL s) s.heap H1 locs1 → W p l e R s m args below meth c H1 locs1 cells slots Q (F0 m (pc + 3) ls (.int v :: rest))) : W p l e R s m args below meth c H locs cells slots Q (F0 m pc ls st) := by
  obtain ⟨hCx, hCm, hd1, hd2, hd3, hZ, hX, hb, ho⟩ := hC
  have hA : zAL s = fx_A LM adm s.heap.size := hCm.2.2.2.2.2.2.2.1
  refine va_calli (fx_runV (i := 0) (As := As) (rest := rest) hCm hW.2.1 hS (hM D cy adm ec H.size) kM_0 (by decide) rfl hw hcd hd hn hR hcs hsz hst hs hdg) hS (fun q _ h => by rw [hA]; exact fx_sub hS.1 h) (fun q h => by rw [hA]; exact fx_sub hS.1 h) (fun r u t H1 locs1 ht hvm hw hB hz1 hk1 hS1 => ?_)
  subst hw
  refine kk H1 locs1 ⟨va_P.kept hW.1 (fun k x hx => hk1 x.1 ((hW.1 k x hx).lt) (fun h => ?_)), ht ▸ hB, vz_at_k hW.2.2 (hk1 o (vz_lt hW.2.2) (fun h => ?_))⟩ hS1
  · have hlt := (hW.1 k x hx).lt
    obtain ⟨k', h1, rfl⟩ := fx_w_in hx
    rcases h with ⟨i, hi, he⟩ | h
    · exact hd1 k i (fx_len h1) hi he
    · exact absurd hlt (Nat.not_lt.mpr h)
  · rcases h with ⟨i, hi, he⟩ | h
    · exact hd3 i hi he
    · exact absurd (vz_lt hW.2.2) (Nat.not_lt.mpr h)
theorem wL_158 : Cond.methodLink RL 158 yL_rests ∈ fx_tb := fx_tb_in (List.mem_of_getElem? (i := 1167) (by decide +kernel)) (by decide +kernel)
theorem wS_158 : Cond.static yL_rests ∈ fx_tb := fx_tb_in (List.mem_of_getElem? (i := 1168) (by decide +kernel)) (by decide +kernel)
theorem wN_158 : Cond.initialized RL ∈ fx_tb := fx_tb_in (List.mem_of_getElem? (i := 94) (by decide +kernel)) (by decide +kernel)
theorem zl_cr (hfl : l.stackTraces = false) (hC : zl_C p s m args c D cy adx adm ec sa o b L xs) (hW : zl_W D cy adx adm o σx σm f H) (hS : va_S (zAL s) s.heap H locs) {a1 a2 a3 a4 : Int32} (hR : 8 ≤ R.frames ∧ 474 ≤ R.locals)
    (hcs : cells + 1 ≤ R.cells ∧ slots + 6 ≤ R.slots) (hsz : ls.size = 7) (hdg : decode cL_law pc = .ok (.invokestatic 158, 3))
    (kk : ∀ (H1 : Heap) (locs1 : List Loc) (f' : Nat → Int64), zl_W D cy adx adm o σx σm f' H1 → (∀ v, zres a1 a2 a3 a4 = some v → f' 0 = v.toInt64) → va_S (zAL s) s.heap H1 locs1 → W p l e R s m args below meth c H1 locs1 (cells + 1) (slots + 6) Q (F0 m (pc + 3) ls [.int (if zres a1 a2 a3 a4 = none then 1 else 0)])) : W p l e R s m args below meth c H locs cells slots Q (F0 m pc ls [.ref o, .int a4, .int a3, .int a2, .int a1, .ref (adx 0)]) := by
  obtain ⟨hCx, hCm, hd1, hd2, hd3, hZ, hX, hb, ho⟩ := hC
  obtain ⟨qx, qb, qml, qown, qts, qK, qI, hA, qE⟩ := hCx
  have hsub : ∀ q, zA2 adx o H.size q → zAL s q := fun q h => h.elim (fun h => by rw [hA]; exact fx_sub hS.1 h) (fun h => by rw [h]; exact ho)
  refine va_calli (vx_runSW (n := 6) (As := [.ref (adx 0), .int a1, .int a2, .int a3, .int a4, .ref o]) (rest := []) ⟨qx, qb, qml, qown, qts⟩ (ctL_rests (f := f) (q := fun j => zq a1 a2 a3 (Int32.ofNat j)) l hfl zst_x zst_x zst_x zq_x zq_x zq_x zq_x D cy adx ec sa o H.size) (vx_cwSW 6 qts (fx_gl (fx_l3 wL_158 wS_158 wN_158) (fun w hw => (List.mem_cons.mp hw).elim (fun e => e ▸ fx_tb_good _ qC_rests) (fun h => fx_tb_good w h))) rfl rfl rfl (by decide +kernel) ⟨hR.1, hR.2⟩)
      ⟨zl_blind, fun U hU hWm => ⟨rfl, by rw [hU], by rw [hU]; exact hW.1, by rw [hU]; exact hW.2.2, va_K.moved hWm.alike qK, qI, hd2, qE.go hS hsub hU hWm, hZ.go hS hsub hU hWm⟩⟩ rfl rfl hsz rfl (lv_room (Nat.le_of_ble_eq_true rfl)) hdg hcs) hS (fun q _ => hsub q) hsub (fun r u t H1 locs1 ht hvm hw hB hz1 hk1 hS1 => ?_)
  obtain ⟨hB1, f', hB2, hB3⟩ := hB
  rw [ht] at hB1 hB2
  subst hw
  refine kk H1 locs1 f' ⟨hB1, va_P.kept hW.2.1 (fun k x hx => hk1 x.1 ((hW.2.1 k x hx).lt) (fun h => ?_)), hB2⟩ hB3 hS1
  have hlt := (hW.2.1 k x hx).lt
  obtain ⟨k', h1, rfl⟩ := fx_w_in hx
  rcases h with h | h
  · rcases h with ⟨i, hi, he⟩ | h
    · exact hd1 i k hi (fx_len h1) he.symm
    · exact absurd hlt (Nat.not_lt.mpr h)
  · exact hd3 k (fx_len h1) h.symm
end ZL
