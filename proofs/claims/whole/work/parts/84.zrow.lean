/-! ===== constructors: rows with the very addresses ===== -/
/-- the links of a nest's private constructors -/
def vz_N (U : State) : Prop := va_Nw (.methodLinkNest RX11 9 yX9_init "HalfShop") U ∧ va_Nw (.methodLinkNest RX11 27 yX5_init "HalfShop") U ∧ va_Nw (.methodLinkNest RX5 40 yX1_init "HalfShop") U ∧ va_Nw (.methodLinkNest RX11 37 yX8_init "HalfShop") U ∧ va_Nw (.methodLinkNest RX11 47 yX7_init "HalfShop") U ∧ va_Nw (.methodLinkNest RX11 57 yX6_init "HalfShop") U ∧ va_Nw (.methodLinkNest RX11 64 yX0_init "HalfShop") U ∧ va_Nw (.methodLinkNest RX11 79 yX3_init "HalfShop") U ∧ va_Nw (.methodLinkNest RX3 9 yX7_init "HalfShop") U ∧ va_Nw (.methodLinkNest RX3 18 yX8_init "HalfShop") U ∧ va_Nw (.methodLinkNest RX3 25 yX6_init "HalfShop") U ∧ va_AO RX7 U ∧ va_AO RX3 U
theorem vz_N.warm {s U : State} (hW : s.WarmedH U.vm) (h : vz_N s) : vz_N U := by
  obtain ⟨h1, h2, h3, h4, h5, h6, h7, h8, h9, h10, h11, h12, h13⟩ := h
  exact ⟨h1.warmM hW, h2.warmM hW, h3.warmM hW, h4.warmM hW, h5.warmM hW, h6.warmM hW, h7.warmM hW, h8.warmM hW, h9.warmM hW, h10.warmM hW, h11.warmM hW, va_AO.moved hW.alike h12, va_AO.moved hW.alike h13⟩
theorem vz_N.same {u U : State} (hv : u.vm = U.vm) (h : vz_N u) : vz_N U := by
  obtain ⟨h1, h2, h3, h4, h5, h6, h7, h8, h9, h10, h11, h12, h13⟩ := h
  exact ⟨h1.same rfl hv, h2.same rfl hv, h3.same rfl hv, h4.same rfl hv, h5.same rfl hv, h6.same rfl hv, h7.same rfl hv, h8.same rfl hv, h9.same rfl hv, h10.same rfl hv, h11.same rfl hv, va_AO.moved (by rw [hv]; exact Vm.Alike.refl _) h12, va_AO.moved (by rw [hv]; exact Vm.Alike.refl _) h13⟩
def vz_A (h0 sz : Nat) : Nat → Prop := fun q => q = h0 ∨ sz ≤ q
def vz_C (p : Program) (s : State) (m : MethodId) (args : Array Value) (meth : Method) (c : Code) (cc : ByteArray) (nL : Nat) (own : String) (D : va_G) (cy : Nat → ClassId) (h0 : Nat) : Prop :=
  p.tables.exec = Jvm.exec ∧ c.code = cc ∧ c.maxLocals = nL ∧ s.vm.findClass own = some m.cls ∧ (∀ w ∈ fx_tb, w.before args s = true) ∧ va_K D vwCl (fx_ty cy) s ∧ meth.name = "<init>" ∧ h0 < s.heap.size ∧ vz_N s
def vz_R (d mc ms : Nat) : Room := { frames := d, cells := mc, slots := ms, locals := 64 * d }
def vz_B (D : va_G) (cy : Nat → ClassId) (h0 ci : Nat) (fs : List Value) (sz : Nat) (U : State) : Prop := U.heap.size = sz ∧ h0 < sz ∧ va_at D vwCl (h0, .inr (ci, fs)) U.heap ∧ va_K D vwCl (fx_ty cy) U ∧ vz_N U
/-- a constructor's contract: the object h0 and what it made, at the very addresses -/
def vz_M (l : Launch) (y : MethodName) (cc : ByteArray) (nL d mc ms : Nat) (av : List Value) (h0 ci : Nat) (fs : List Value) (post : (Nat → ClassId) → Nat → va_W) : Prop :=
  ∀ (D : va_G) (cy : Nat → ClassId) (sz : Nat), Met l y (.code y cc nL none :: fx_tb) (vz_R d mc ms) (va_Pc av (vz_B D cy h0 ci fs sz)) (va_Qv (fun (_ : Unit) => True) (fun _ t => t.heap.size = sz + mc ∧ va_P D vwCl (post cy sz) t.heap) (vz_A h0 sz)) mc ms (vz_A h0 sz)
theorem vz_at_k {D : va_G} {q : Nat × va_E} {H H1 : Heap} (h : va_at D vwCl q H) (e : H1[q.1]? = H[q.1]?) : va_at D vwCl q H1 := by
  have h1 : va_P D vwCl [q] H := fun k x hx => by
    have hz : k < 1 := (List.getElem?_eq_some_iff.mp hx).1
    rw [show k = 0 by omega] at hx
    cases hx
    exact h
  exact (h1.kept (fun k x hx => by
    have hz : k < 1 := (List.getElem?_eq_some_iff.mp hx).1
    rw [show k = 0 by omega] at hx
    cases hx
    exact e)) 0 q rfl
theorem vz_one {D : va_G} {q : Nat × va_E} {H : Heap} (h : va_at D vwCl q H) : va_P D vwCl [q] H := fun k x hx => by
  have hz : k < 1 := (List.getElem?_eq_some_iff.mp hx).1
  rw [show k = 0 by omega] at hx
  cases hx
  exact h
theorem vz_lt {D : va_G} {q : Nat × va_E} {H : Heap} (h : va_at D vwCl q H) : q.1 < H.size := (vz_one h 0 q rfl).lt
section VZ
variable {p : Program} {l : Launch} {e : Env} {R : Room} {s : State} {m : MethodId} {args : Array Value} {below : List Frame} {meth : Method} {c : Code} {H : Heap} {locs : List Loc} {cells slots : Nat} {Q : State → Prop}
variable {cc : ByteArray} {pc nL : Nat} {ls : Array Slot} {rest : List Value} {own : String} {D : va_G} {cy : Nat → ClassId} {A : Nat → Prop} {h0 : Nat}
theorem vz_newa (hC : vz_C p s m args meth c cc nL own D cy h0) {atype : ArrayType} {ty : FieldType} (hty : newarray.typeOf atype = ty) (harr : Cond.arrayClass ty ∈ fx_tb) (k : Nat) {cA : ClassId} (hk : (fx_ty cy)[k]? = some (cA, ty)) {n : Int32} {N : Nat} {a0 : vp_A} (ha : ∀ cA : ClassId, vp_cell cA a0 = arrV cA N (fun _ => defaultValue ty)) (hn : ¬ n < 0) (hN : n.toNatClampNeg = N) (hbytes : N * componentBytes ty ≤ 536870912) (hcells : cells + 1 ≤ R.cells) (hslots : slots + N ≤ R.slots) (hdg : decode cc pc = .ok (.newarray atype, 2)) (hS : va_S A s.heap H locs) {z : Nat} (hz : H.size = z)
    (kk : ∀ H1 : Heap, H1.size = z + 1 → va_at D vwCl (z, .inl (cA, a0)) H1 → (∀ q, q < z → H1[q]? = H[q]?) → va_S A s.heap H1 locs → W p l e R s m args below meth c H1 locs (cells + 1) (slots + N) Q (F0 m (pc + 2) ls (.ref z :: rest))) : W p l e R s m args below meth c H locs cells slots Q (F0 m pc ls (.int n :: rest)) := by
  obtain ⟨hx, hb, -, hown, hts, hK, -⟩ := hC
  subst hty
  subst hz
  refine va_newaK hx hb (hts _ harr) rfl hdg rfl hn hN hbytes hcells hslots rfl fun H1 cB e1 z1 o1 hAr hNm => ?_
  have h2 : s.vm.findClass ("[" ++ (newarray.typeOf atype).toString) = some cA := by
    have := (hK.2 k _ hk).2
    cases atype <;> exact this
  cases Option.some.inj (h2.symm.trans hNm)
  refine kk H1 z1 ?_ o1 ⟨Nat.le_trans hS.1 (by omega), fun x h1 h2 => (o1 x (Nat.lt_of_lt_of_le h1 hS.1)).trans (hS.2.1 x h1 h2), hS.2.2⟩
  show H1[H.size]? = some (vp_cell _ _)
  rw [ha]
  exact e1
theorem vz_new (hC : vz_C p s m args meth c cc nL own D cy h0) {C : String} {T : u_T} {N ci index : Nat} (hin : ∀ w ∈ u_ws C T N, w ∈ fx_tb) (ty : Nat → FieldType) (hty : ∀ k, k < N → parseFieldDescriptor (T k).2.2.1 = some (ty k)) (hcl : Cond.classLink own index C ∈ fx_tb) (hinst : Cond.instantiable C N ∈ fx_tb) (hini : Cond.initialized C ∈ fx_tb) (hc : vwCl[ci]? = some (C, T, N)) {fs : List Value} (hfs : ∀ j, j < N → defaultValue (ty j) = vp_V fs j) (hcells : cells + 1 ≤ R.cells) (hslots : slots + N ≤ R.slots) (hdg : decode cc pc = .ok (.new index, 3)) (hS : va_S A s.heap H locs) {z : Nat} (hz : H.size = z)
    (kk : ∀ H1 : Heap, H1.size = z + 1 → va_at D vwCl (z, .inr (ci, fs)) H1 → (∀ q, q < z → H1[q]? = H[q]?) → va_S A s.heap H1 locs → W p l e R s m args below meth c H1 locs (cells + 1) (slots + N) Q (F0 m (pc + 3) ls (.ref z :: rest))) : W p l e R s m args below meth c H locs cells slots Q (F0 m pc ls rest) := by
  obtain ⟨hx, hb, -, hown, hts, hK, -⟩ := hC
  subst hz
  have hKn := hK.1 ci _ hc
  refine W.newcK hx hb hown (hts _ hcl) (hts _ hinst) (hts _ hini) rfl hdg hcells hslots hKn.2.1 rfl fun H1 kC hkC e1 z1 o1 => ?_
  exact kk H1 z1 ⟨_, hc, (u_born ty hts hin hKn hkC e1 hty).to hfs⟩ o1 ⟨Nat.le_trans hS.1 (by omega), fun x h1 h2 => (o1 x (Nat.lt_of_lt_of_le h1 hS.1)).trans (hS.2.1 x h1 h2), hS.2.2⟩
theorem vz_putF (hC : vz_C p s m args meth c cc nL own D cy h0) {C : String} {T : u_T} {N ci index a : Nat} (hin : ∀ w ∈ u_ws C T N, w ∈ fx_tb) (ty0 : Nat → FieldType) (hty : ∀ k, k < N → parseFieldDescriptor (T k).2.2.1 = some (ty0 k)) (hnm : ∀ a, a < N → ∀ b, b < N → a ≠ b → (T a).2.1 ≠ (T b).2.1) {fs : List Value} (hP : va_at D vwCl (a, .inr (ci, fs)) H) (hc : vwCl[ci]? = some (C, T, N)) (k : Nat) (hk : k < N) (hlink : Cond.fieldLink own index (T k).1 (T k).2.1 (T k).2.2.1 ∈ fx_tb) (hfin : (T k).2.2.2 = true) (hdecl : (T k).1 = own) {v : Value} (hn : narrow (ty0 k) v = v) (hfit : fits (ty0 k) v = true) (hl : k < fs.length) (hdg : decode cc pc = .ok (.putfield index, 3)) (hS0 : va_S A s.heap H locs) (hAa : A a)
    (kk : ∀ (H1 : Heap) (locs1 : List Loc), H1.size = H.size → va_at D vwCl (a, .inr (ci, fs.set k v)) H1 → (∀ q : Nat, q ≠ a → H1[q]? = H[q]?) → va_S A s.heap H1 locs1 → W p l e R s m args below meth c H1 locs1 cells slots Q (F0 m (pc + 3) ls rest)) : W p l e R s m args below meth c H locs cells slots Q (F0 m pc ls (v :: .ref a :: rest)) := by
  obtain ⟨hexec, hb, -, hown, hts, hK, hin2, -⟩ := hC
  have hap := va_apart (own := own) hts hin ty0 hty hnm hK hc
  obtain ⟨r, h1, cell, q1, q2, q3, q4⟩ := hP
  have hr : r = (C, T, N) := Option.some.inj (h1.symm.trans hc)
  subst hr
  obtain ⟨hS, hfc, kC, hkC, hkind⟩ := hK.1 ci _ hc
  obtain ⟨cf, kf, fi, f, hi, hsl⟩ := hS k hk
  have hlay := hts _ (hin _ (u_in_lay hk))
  unfold u_lay at hlay
  rw [if_pos hfin] at hlay
  have hst := (u_facts hfc hkC (u_lays hts hin hk) hi).1
  have hcf : m.cls = cf := by
    obtain ⟨_, _, c', _, _, _, -, -, hf', -, -, -, hown2, -⟩ := Cond.laysFinal_spec hlay
    have e1 : c' = cf := by have := hi.symm.trans hf'; simp at this; exact this.1.symm
    rw [hdecl] at hown2
    rw [← e1]; exact Option.some.inj (hown.symm.trans hown2)
  have h6 := u_fits hfc hkC hkind (Or.inr hlay) hi (hty k hk) hn hfit
  refine W.putFinK hexec hb hown (hts _ hlink) hi hst hcf hin2 (by rw [q2]; exact h6) q1 q3 (by rw [hsl]; exact k2_hasslot (q4 k hk)) rfl rfl hdg fun H' e1 e2 e3 => ?_
  rw [hsl] at e1 ⊢
  exact kk H' _ e2 ⟨_, hc, t_OB.to (V := updV (vp_V fs) k v) ⟨_, e1, q2, q3, t_set q4 hap hk v⟩ (fun j _ => vp_updV_set hl v j)⟩ e3 (hS0.put e2 e3 hAa)
theorem vz_put (hC : vz_C p s m args meth c cc nL own D cy h0) {C : String} {T : u_T} {N ci index a : Nat} (hin : ∀ w ∈ u_ws C T N, w ∈ fx_tb) (ty0 : Nat → FieldType) (hty : ∀ k, k < N → parseFieldDescriptor (T k).2.2.1 = some (ty0 k)) (hnm : ∀ a, a < N → ∀ b, b < N → a ≠ b → (T a).2.1 ≠ (T b).2.1) {fs : List Value} (hP : va_at D vwCl (a, .inr (ci, fs)) H) (hc : vwCl[ci]? = some (C, T, N)) (k : Nat) (hk : k < N) (hlink : Cond.fieldLink own index (T k).1 (T k).2.1 (T k).2.2.1 ∈ fx_tb) (hfin : (T k).2.2.2 = false) {v : Value} (hn : narrow (ty0 k) v = v) (hfit : fits (ty0 k) v = true) (hl : k < fs.length) (hdg : decode cc pc = .ok (.putfield index, 3)) (hS0 : va_S A s.heap H locs) (hAa : A a)
    (kk : ∀ (H1 : Heap) (locs1 : List Loc), H1.size = H.size → va_at D vwCl (a, .inr (ci, fs.set k v)) H1 → (∀ q : Nat, q ≠ a → H1[q]? = H[q]?) → va_S A s.heap H1 locs1 → W p l e R s m args below meth c H1 locs1 cells slots Q (F0 m (pc + 3) ls rest)) : W p l e R s m args below meth c H locs cells slots Q (F0 m pc ls (v :: .ref a :: rest)) := by
  obtain ⟨hexec, hb, -, hown, hts, hK, hin2, -⟩ := hC
  have hap := va_apart (own := own) hts hin ty0 hty hnm hK hc
  obtain ⟨r, h1, cell, q1, q2, q3, q4⟩ := hP
  have hr : r = (C, T, N) := Option.some.inj (h1.symm.trans hc)
  subst hr
  obtain ⟨hS, hfc, kC, hkC, hkind⟩ := hK.1 ci _ hc
  obtain ⟨cf, kf, fi, f, hi, hsl⟩ := hS k hk
  have hlay := hts _ (hin _ (u_in_lay hk))
  unfold u_lay at hlay
  rw [if_neg (by rw [hfin]; decide)] at hlay
  have hst := (u_facts hfc hkC (u_lays hts hin hk) hi).1
  have h6 := u_store hfc hkC hkind hlay hi (hty k hk) hn hfit
  refine W.putK hexec hb (f := f) ⟨hown, hts _ hlink, ⟨_, _, _, hi⟩, hst⟩ (by rw [q2]; exact h6) q1 q3 (by rw [hsl]; exact k2_hasslot (q4 k hk)) rfl rfl hdg fun H' e1 e2 e3 => ?_
  rw [hsl] at e1 ⊢
  exact kk H' _ e2 ⟨_, hc, t_OB.to (V := updV (vp_V fs) k v) ⟨_, e1, q2, q3, t_set q4 hap hk v⟩ (fun j _ => vp_updV_set hl v j)⟩ e3 (hS0.put e2 e3 hAa)
theorem vz_blind {h1 ci sz : Nat} {av fs : List Value} : FrameBlind (va_Pc av (vz_B D cy h1 ci fs sz)) := fun a U g mk q => by
  obtain ⟨q0, q1, q2, qP, qK, qN⟩ := q
  exact ⟨q0, q1, q2, qP, va_K.moved (u := U) (U := U.calling g mk a) (Vm.Alike.refl U.vm) qK, qN.same rfl⟩
variable {y : MethodName} {bytes : ByteArray} {maxL d mc ms n index a ci : Nat} {As fs : List Value} {post : (Nat → ClassId) → Nat → va_W}
theorem vz_callN {host : String} (hC : vz_C p s m args meth c cc nL own D cy h0) (hM : vz_M l y bytes maxL d mc ms (.ref a :: As) a ci fs post) (hl : va_Nw (.methodLinkNest own index y host) s) (hI : Cond.instanceMethod y ∈ fx_tb) (hN : Cond.initialized y.cls ∈ fx_tb) (hcd : Cond.code y bytes maxL none ∈ fx_tb) (hy : y.name = "<init>")
    (hd : y.cls ≠ "java/lang/invoke/MethodHandle" ∧ y.cls ≠ "java/lang/invoke/VarHandle" ∧ (parseMethodDescriptor y.desc).map (fun d => d.parameters.length) = some n) (hn : As.length = n) (hR : d + 1 ≤ R.frames ∧ 8 + (maxL + 11) + 64 * d ≤ R.locals) (hcs : cells + mc ≤ R.cells ∧ slots + ms ≤ R.slots) (hsz : ls.size = nL) (hst : (rest.map fun v => v.category).sum ≤ 8) {st : List Value} (hs : st = As.reverse ++ .ref a :: rest) (hdg : decode cc pc = .ok (.invokespecial index, 3))
    (hS : va_S A s.heap H locs) (hat : va_at D vwCl (a, .inr (ci, fs)) H) (hA : ∀ q, vz_A a H.size q → A q)
    (kk : ∀ (H1 : Heap) (locs1 : List Loc), H1.size = H.size + mc → va_P D vwCl (post cy H.size) H1 → (∀ q : Nat, q < H.size → q ≠ a → H1[q]? = H[q]?) → va_S A s.heap H1 locs1 → W p l e R s m args below meth c H1 locs1 (cells + mc) (slots + ms) Q (F0 m (pc + 3) ls rest)) : W p l e R s m args below meth c H locs cells slots Q (F0 m pc ls st) := by
  obtain ⟨hx, hb, hml, hown, hts, hK, hin2, hh, hNw⟩ := hC
  refine va_callv (va_runIN (As := As) (rest := rest) ⟨hx, hb, hml, hown, hts⟩ (hM D cy H.size) ⟨va_cnB n hts (fx_gc hcd) rfl rfl rfl hl (hts _ hN) hd hR, hy, hts _ hI⟩ ⟨vz_blind, fun U hU hW => ⟨rfl, by rw [hU], vz_lt hat, by rw [hU]; exact hat, va_K.moved hW.alike hK, hNw.warm hW⟩⟩ rfl hn hsz hs (lv_room hst) hdg hcs) hS (fun q _ h => hA q h) hA (fun u t H1 locs1 ht hvm hw hB hz1 hk1 hS1 => ?_)
  rw [ht] at hB
  exact kk H1 locs1 hB.1 hB.2 (fun q h1 h2 => hk1 q h1 (fun z => z.elim h2 (fun y => by omega))) hS1
theorem vz_callI (hC : vz_C p s m args meth c cc nL own D cy h0) (hM : vz_M l y bytes maxL d mc ms (.ref a :: As) a ci fs post) (hl : Cond.methodLink own index y ∈ fx_tb) (hI : Cond.instanceMethod y ∈ fx_tb) (hN : Cond.initialized y.cls ∈ fx_tb) (hcd : Cond.code y bytes maxL none ∈ fx_tb) (hy : y.name = "<init>")
    (hd : y.cls ≠ "java/lang/invoke/MethodHandle" ∧ y.cls ≠ "java/lang/invoke/VarHandle" ∧ (parseMethodDescriptor y.desc).map (fun d => d.parameters.length) = some n) (hn : As.length = n) (hR : d + 1 ≤ R.frames ∧ 8 + (maxL + 11) + 64 * d ≤ R.locals) (hcs : cells + mc ≤ R.cells ∧ slots + ms ≤ R.slots) (hsz : ls.size = nL) (hst : (rest.map fun v => v.category).sum ≤ 8) {st : List Value} (hs : st = As.reverse ++ .ref a :: rest) (hdg : decode cc pc = .ok (.invokespecial index, 3))
    (hS : va_S A s.heap H locs) (hat : va_at D vwCl (a, .inr (ci, fs)) H) (hA : ∀ q, vz_A a H.size q → A q)
    (kk : ∀ (H1 : Heap) (locs1 : List Loc), H1.size = H.size + mc → va_P D vwCl (post cy H.size) H1 → (∀ q : Nat, q < H.size → q ≠ a → H1[q]? = H[q]?) → va_S A s.heap H1 locs1 → W p l e R s m args below meth c H1 locs1 (cells + mc) (slots + ms) Q (F0 m (pc + 3) ls rest)) : W p l e R s m args below meth c H locs cells slots Q (F0 m pc ls st) := by
  obtain ⟨hx, hb, hml, hown, hts, hK, hin2, hh, hNw⟩ := hC
  refine va_callv (va_runI (As := As) (rest := rest) ⟨hx, hb, hml, hown, hts⟩ (hM D cy H.size) (cwI n hts (fx_gc hcd) rfl rfl rfl (hts _ hN) (hts _ hl) (hts _ hI) hy hd hR) ⟨vz_blind, fun U hU hW => ⟨rfl, by rw [hU], vz_lt hat, by rw [hU]; exact hat, va_K.moved hW.alike hK, hNw.warm hW⟩⟩ rfl hn hsz hs (lv_room hst) hdg hcs) hS (fun q _ h => hA q h) hA (fun u t H1 locs1 ht hvm hw hB hz1 hk1 hS1 => ?_)
  rw [ht] at hB
  exact kk H1 locs1 hB.1 hB.2 (fun q h1 h2 => hk1 q h1 (fun z => z.elim h2 (fun y => by omega))) hS1
/-- a contract out of a walk -/
theorem vz_ofW (hown0 : y.cls = own) (hnm : y.name = "<init>") (hy : plainName y.cls = true) {av : List Value} {h1 : Nat}
    (body : ∀ (p : Program) (e : Env) (s : State) (m : MethodId) (below : List Frame) (meth : Method) (c : Code) (D : va_G) (cy : Nat → ClassId), vz_C p s m av.toArray meth c cc nL own D cy h1 → meth.sig.returnType = none → meth.locks = false → va_at D vwCl (h1, .inr (ci, fs)) s.heap →
      W p l e (vz_R d mc ms) s m av.toArray below meth c s.heap [] 0 0 (MQ below (va_Qv (fun (_ : Unit) => True) (fun _ t => t.heap.size = s.heap.size + mc ∧ va_P D vwCl (post cy s.heap.size) t.heap) (vz_A h1 s.heap.size)) av.toArray s mc ms (vz_A h1 s.heap.size)) (entryFrame m av.toArray nL)) : vz_M l y cc nL d mc ms av h1 ci fs post := by
  intro D cy sz
  refine Met.ofW (cc := cc) (maxL := nL) (ret := none) hy rfl ?_
  intro p e s m args below meth c s₁ B hml hv
  obtain ⟨rfl, rfl, hlt, hP, hK, hN⟩ := hv
  have hts := atoms_spec (ws := .code y cc nL none :: fx_tb) B.pre
  have hin : meth.name = "<init>" := (name_of_methodNamed B.named B.method).1.trans hnm
  exact body p e s m below meth c D cy ⟨B.exec, B.bytes, hml, hown0 ▸ findClass_of_methodNamed B.named, fun w hw => hts w (List.mem_cons_of_mem _ hw), hK, hin, hlt, hN⟩ B.returns B.notSynchronized hP
theorem vz_ret (hC : vz_C p s m args meth c cc nL own D cy h0) (hr : meth.sig.returnType = none) (hk : meth.locks = false) {A : Nat → Prop} (hS : va_S A s.heap H locs) (hz : H.size = s.heap.size + mc) (hP : va_P D vwCl (post cy s.heap.size) H) (hc : cells ≤ mc) (hs : slots ≤ ms) (hdg : decode cc pc = .ok (.return_, 1)) :
    W p l e R s m args below meth c H locs cells slots (MQ below (va_Qv (fun (_ : Unit) => True) (fun _ t => t.heap.size = s.heap.size + mc ∧ va_P D vwCl (post cy s.heap.size) t.heap) A) args s mc ms A) (F0 m pc ls []) := by
  obtain ⟨hx, hb, -⟩ := hC
  refine W.widen hc hs ?_
  exact W.vret hx hb hr (fun t ht hW => ⟨⟨(), rfl, trivial, by rw [ht]; exact hz, by rw [ht]; exact hP⟩, hS.F ht⟩) hS.2.2 hdg hk
theorem vz_obj (hC : vz_C p s m args meth c cc nL own D cy h0) {idx : Nat} (hlink : Cond.methodLink own idx objectInit ∈ fx_tb) (hi : Cond.instanceMethod objectInit ∈ fx_tb) (hcd : Cond.code objectInit ⟨#[0xb1]⟩ 1 none ∈ fx_tb) (hsz : ls.size = nL) (hdg : decode cc pc = .ok (.invokespecial idx, 3)) (hf : 1 ≤ R.frames) (hlo : 12 ≤ R.locals)
    (kk : W p l e R s m args below meth c H locs cells slots Q (F0 m (pc + 3) ls [])) : W p l e R s m args below meth c H locs cells slots Q (F0 m pc ls [.ref a]) := by
  obtain ⟨hx, hb, hml, hown, hts, -⟩ := hC
  refine W.objInit hx hb hown (hts _ hlink) (hts _ hi) (hts _ hcd) rfl (by rw [hml]; exact hsz) rfl hdg hf (Nat.le_trans (Nat.le_of_eq rfl) hlo) ?_
  exact kk
end VZ
