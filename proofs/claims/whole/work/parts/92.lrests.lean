/-! ===== the law's static rests: 1 where HalfShop.rests throws, else 0 and the answer in the cell ===== -/
section VZL
variable {p : Program} {l : Launch} {e : Env} {R : Room} {s : State} {m : MethodId} {args : Array Value} {below : List Frame} {meth : Method} {c : Code} {H : Heap} {locs : List Loc} {cells slots : Nat} {Q : State → Prop}
variable {cc : ByteArray} {pc nL : Nat} {ls : Array Slot} {rest : List Value} {own : String} {D : va_G} {cy : Nat → ClassId} {A : Nat → Prop}
theorem vz_last (hx : p.tables.exec = Jvm.exec) (hb : c.code = cc) (hK : va_K D vwCl (fx_ty cy) s) {a n : Nat} {f : Nat → Int64} (hP : va_at D vwCl (a, .inl (cy 21, n, .inr (.inl f))) H) (hS : va_S A s.heap H locs) (hAa : A a) {i : Int32} {x : Int64} (hin : vp_in i n) (hdg : decode cc pc = .ok (.lastore, 1))
    (kk : ∀ (H1 : Heap) (locs1 : List Loc), H1.size = H.size → va_at D vwCl (a, .inl (cy 21, n, .inr (.inl (vp_updL f i.toNatClampNeg x)))) H1 → (∀ q : Nat, q ≠ a → H1[q]? = H[q]?) → va_S A s.heap H1 locs1 → W p l e R s m args below meth c H1 locs1 cells slots Q (F0 m (pc + 1) ls rest)) : W p l e R s m args below meth c H locs cells slots Q (F0 m pc ls (.long x :: .int i :: .ref a :: rest)) := by
  refine W.last hx hb hP ((hK.2 1 _ rfl).1 n (fun j => .long (f j))) (fun q => by cases q) (by show ¬ (i < 0 ∨ (arrV _ _ _).slots.size ≤ _); rw [arrV_size]; exact hin) rfl rfl hdg fun H1 e z oq => ?_
  refine kk H1 _ z ?_ oq (hS.put z oq hAa)
  show H1[a]? = some (vp_cell _ _)
  rw [e]
  rw [vp_cell_l, vp_cell_l, arrV_store]
  congr 2
  funext q
  by_cases hq : q = i.toNatClampNeg
  · subst hq
    simp [updV, vp_updL]
  · simp [updV, vp_updL, hq]
end VZL
theorem qL7 : Cond.methodLink RL 7 yX11_rests ∈ fx_tb := fx_tb_in (List.mem_of_getElem? (i := 1171) (by decide +kernel)) (by decide +kernel)
theorem qI7 : Cond.instanceMethod yX11_rests ∈ fx_tb := fx_tb_in (List.mem_of_getElem? (i := 1172) (by decide +kernel)) (by decide +kernel)
theorem qS7 : Cond.selects RX11 yX11_rests yX11_rests ∈ fx_tb := fx_tb_in (List.mem_of_getElem? (i := 1173) (by decide +kernel)) (by decide +kernel)
theorem qK13 : Cond.classLink RL 13 zXN ∈ fx_tb := fx_tb_in (List.mem_of_getElem? (i := 1170) (by decide +kernel)) (by decide +kernel)
theorem qC_rests : Cond.codeWith yL_rests cL_rests 7 (some .int) [(0, 14, 17, 13)] ∈ fx_tb := fx_tb_in (List.mem_of_getElem? (i := 1169) (by decide +kernel)) (by decide +kernel)
def zA2 (ad : Nat → Nat) (o sz : Nat) : Nat → Prop := fun q => fx_A LX ad sz q ∨ q = o
def zoc (cy : Nat → ClassId) (o : Nat) (f : Nat → Int64) : Nat × va_E := (o, .inl (cy 21, 1, .inr (.inl f)))
def zl_B (D : va_G) (cy : Nat → ClassId) (ad ec sa : Nat → Nat) (o sz : Nat) (σ : FH) (f : Nat → Int64) (U : State) : Prop := U.heap.size = sz ∧ fx_P D cy LX ad σ U.heap ∧ va_at D vwCl (zoc cy o f) U.heap ∧ va_K D vwCl (fx_ty cy) U ∧ fx_I LX ad ∧ (∀ i, i < LX.length → o ≠ ad i) ∧ fx_E ec (zA2 ad o sz) U U.heap ∧ vq_E sa (zA2 ad o sz) U U.heap
theorem zl_blind {D : va_G} {cy : Nat → ClassId} {ad ec sa : Nat → Nat} {o sz : Nat} {σ : FH} {f : Nat → Int64} {av : List Value} : FrameBlind (va_Pc av (zl_B D cy ad ec sa o sz σ f)) := fun a U g mk q => by
  obtain ⟨q0, q1, qP, qo, qK, qI, qn, qE, qZ⟩ := q
  exact ⟨q0, q1, qP, qo, va_K.moved (u := U) (U := U.calling g mk a) (Vm.Alike.refl U.vm) qK, qI, qn, qE.same rfl, qZ.same rfl⟩
theorem zr_blind {D : va_G} {cy : Nat → ClassId} {ad ec sa : Nat → Nat} {sz : Nat} {σ : FH} {A : Nat → Prop} {av : List Value} : FrameBlind (va_Pc av (fun U => fx_B D cy LX ad ec sz σ U ∧ vq_E sa A U U.heap)) := fun a U g mk q => by
  obtain ⟨q0, ⟨q1, qP, qK, qI, qE⟩, qZ⟩ := q
  exact ⟨q0, ⟨q1, qP, va_K.moved (u := U) (U := U.calling g mk a) (Vm.Alike.refl U.vm) qK, qI, qE.same rfl⟩, qZ.same rfl⟩
def zl_Q (D : va_G) (cy : Nat → ClassId) (ad : Nat → Nat) (o : Nat) (A : Nat → Prop) (σ : FH) (rr : Option Int32) : Array Value → State → Outcome → State → Prop := va_Qi (fun (r : Int32) (_ : Unit) => r = if rr = none then 1 else 0) (fun _ t => fx_P D cy LX ad σ t.heap ∧ ∃ f : Nat → Int64, va_at D vwCl (zoc cy o f) t.heap ∧ ∀ v, rr = some v → f 0 = v.toInt64) A
set_option maxHeartbeats 1000000 in
theorem ctL_rests (l : Launch) (hfl : l.stackTraces = false) {a1 a2 a3 a4 : Int32} {σ : FH} {s1 s2 s3 : Int32} {q : Nat → Int32} {f : Nat → Int64} (hs1 : fX11_isStake a1 σ = some s1) (hs2 : fX11_isStake a2 σ = some s2) (hs3 : fX11_isStake a3 σ = some s3)
    (hq0 : fX11_isAtRest 0 a1 a2 a3 σ = some (q 0)) (hq1 : fX11_isAtRest 1 a1 a2 a3 σ = some (q 1)) (hq2 : fX11_isAtRest 2 a1 a2 a3 σ = some (q 2)) (hq3 : fX11_isAtRest 3 a1 a2 a3 σ = some (q 3)) (D : va_G) (cy : Nat → ClassId) (ad ec sa : Nat → Nat) (o sz : Nat) :
    Met l yL_rests (.codeWith yL_rests cL_rests 7 (some .int) [(0, 14, 17, 13)] :: fx_tb) (vz_R 7 1 6) (va_Pc [.ref (ad 0), .int a1, .int a2, .int a3, .int a4, .ref o] (zl_B D cy ad ec sa o sz σ f)) (zl_Q D cy ad o (zA2 ad o sz) σ (zrr s1 s2 s3 q a4)) 1 6 (zA2 ad o sz) := by
  have hM := fun sz => ctX11_rests (a4 := a4) l hfl hs1 hs2 hs3 hq0 hq1 hq2 hq3 D cy ad ec sa sz
  generalize zrr s1 s2 s3 q a4 = rr at hM ⊢
  refine va_MetW (cc := cL_rests) (maxL := 7) (ret := some .int) (hh := [(0, 14, 17, 13)]) (by decide +kernel) rfl ?_
  intro p e s m args below meth c s₁ B hml hv
  obtain ⟨rfl, rfl, hP, hat, hK, hI, hne, hE, hZ⟩ := hv
  have hts0 := atoms_spec (ws := .codeWith yL_rests cL_rests 7 (some .int) [(0, 14, 17, 13)] :: fx_tb) B.pre
  have htab := vx_table (x := yL_rests) B (hts0 _ List.mem_cons_self)
  have hts : ∀ w ∈ fx_tb, w.before [.ref (ad 0), .int a1, .int a2, .int a3, .int a4, .ref o].toArray s = true := fun w hw => hts0 w (List.mem_cons_of_mem _ hw)
  have hx := B.exec
  have hb : c.code = cL_rests := B.bytes
  have hown : s.vm.findClass RL = some m.cls := findClass_of_methodNamed B.named
  have hr := B.returns
  have hk := B.notSynchronized
  have hS : va_S (zA2 ad o s.heap.size) s.heap s.heap [] := va_S.rf
  clear B hts0
  have hol : o < s.heap.size := vz_lt hat
  have hno : ¬ fx_A LX ad s.heap.size o := fun h => h.elim (fun ⟨i, hi, e⟩ => hne i hi e) (fun h => by omega)
  have hl := lv_entry ([.ref (ad 0), .int a1, .int a2, .int a3, .int a4, .ref o]) (n := 7) (Nat.le_of_ble_eq_true rfl)
  show W _ _ _ (vz_R 7 1 6) _ _ _ _ _ _ _ _ _ _ _ (entryFrame m ([.ref (ad 0), .int a1, .int a2, .int a3, .int a4, .ref o] : List Value).toArray 7)
  rw [lg_entry_eq]
  generalize (lg_sl ([.ref (ad 0), .int a1, .int a2, .int a3, .int a4, .ref o]) ++ List.replicate (7 - (lg_sl ([.ref (ad 0), .int a1, .int a2, .int a3, .int a4, .ref o])).length) Slot.unset).toArray = ls at hl ⊢
  have hl : lv_has ls 7 [(0, .ref (ad 0)), (1, .int a1), (2, .int a2), (3, .int a3), (4, .int a4), (5, .ref o)] := hl
  refine lv_aload hx hb dL_rests_0 (lv_at hl 5 rfl) ?_
  refine lv_iconst (v := 0) hx hb dL_rests_2 (by decide) ?_
  refine lv_aload_n hx hb dL_rests_3 rfl (lv_at hl 0 rfl) ?_
  refine lv_iload_n hx hb dL_rests_4 rfl (lv_at hl 1 rfl) ?_
  refine lv_iload_n hx hb dL_rests_5 rfl (lv_at hl 2 rfl) ?_
  refine lv_iload_n hx hb dL_rests_6 rfl (lv_at hl 3 rfl) ?_
  refine lv_iload hx hb dL_rests_7 (lv_at hl 4 rfl) ?_
  refine vx_calli (vx_runV (n := 4) (As := [.int a1, .int a2, .int a3, .int a4]) (rest := [.int 0, .ref o]) (b := ad 0) (C := RX11) ⟨hx, hb, hml, hown, hts⟩ (hM s.heap.size) (cwV 4 hts (fx_gl (fx_l4 qL7 qI7 qS7 kN_X11) (fx_gc rC_X11_rests)) rfl rfl rfl (by decide +kernel) ⟨Nat.le_of_ble_eq_true rfl, Nat.le_of_ble_eq_true rfl⟩)
      ⟨zr_blind, va_recv (q := (RX11, _, _)) hK hP rfl (q0 := 0) (by rw [fx_w_at kX_0]; rfl), fun U hU hW => ⟨rfl, ⟨by rw [hU], by rw [hU]; exact hP, va_K.moved hW.alike hK, hI, hE.go hS (fun q => Or.inl) hU hW⟩, hZ.go hS (fun q => Or.inl) hU hW⟩⟩ rfl rfl hl.1 rfl (lv_room (Nat.le_of_ble_eq_true rfl)) dL_rests_9 ⟨Nat.le_of_ble_eq_true rfl, Nat.le_of_ble_eq_true rfl⟩) hS (fun q _ => Or.inl) (fun q => Or.inl) (fun q _ => Or.inl) ?_ ?_
  · intro E ce q9 u t H1 locs1 ht hal hpx hBX hz1 hk1 hS1 e1 e2 e3
    obtain ⟨rfl, hP1⟩ := hBX
    rw [ht] at hP1
    refine vx_catch (own := RL) (name := zXN) hown [] ⟨0, 14, 17, 13⟩ [] htab (fun z hz => nomatch hz) (by decide) (by decide) (hts _ qK13) (va_Nw.use rfl hZ.1.2.2.2) e1 e2 e3 ?_
    refine lv_astore (lv' := [(6, .ref q9), (0, .ref (ad 0)), (1, .int a1), (2, .int a2), (3, .int a3), (4, .int a4), (5, .ref o)]) hx hb dL_rests_17 hl (by decide) rfl (fun ls hl => ?_)
    refine lv_iconst (v := 1) hx hb dL_rests_19 (by decide) ?_
    exact W.iret (v := 1) hx hb hr (fun t2 ht2 hW2 => ⟨⟨1, (), rfl, by rw [if_pos hpx], by rw [ht2]; exact hP1, f, by rw [ht2]; exact vz_at_k hat (hk1 o hol hno), fun v hv => by rw [hpx] at hv; cases hv⟩, hS1.F ht2⟩) hS1.2.2 dL_rests_20 hk
  · intro r u t H1 locs1 ht hal hpost hB hz1 hk1 hS1
    rw [ht] at hB
    have hat1 := vz_at_k hat (hk1 o hol hno)
    refine lv_i2l (v := r.toInt64) hx hb dL_rests_12 rfl ?_
    refine vz_last hx hb hK hat1 hS1 (Or.inr rfl) (show ¬ ((0 : Int32) < 0 ∨ 1 ≤ Int32.toNatClampNeg 0) by decide) dL_rests_13 (fun H2 locs2 z2 hat2 o2 hS2 => ?_)
    refine lv_goto (tgt := 21) hx hb dL_rests_14 (by decide) ?_
    refine lv_iconst (v := 0) hx hb dL_rests_21 (by decide) ?_
    have hP2 : fx_P D cy LX ad σ H2 := va_P.kept hB (fun k x hx => o2 x.1 (by
      obtain ⟨k', h1, rfl⟩ := fx_w_in hx
      exact fun e => hne k (fx_len h1) e.symm))
    exact W.iret (v := 0) hx hb hr (fun t2 ht2 hW2 => ⟨⟨0, (), rfl, by rw [hpost, if_neg (fun h => by cases h)], by rw [ht2]; exact hP2, _, by rw [ht2]; exact hat2, fun v hv => by
      rw [hpost] at hv
      cases hv
      rfl⟩, hS2.F ht2⟩) hS2.2.2 dL_rests_22 hk
