/-! ===== the program's constructor ===== -/
section VZQ
variable {p : Program} {l : Launch} {e : Env} {R : Room} {s : State} {m : MethodId} {args : Array Value} {below : List Frame} {meth : Method} {c : Code} {H : Heap} {locs : List Loc} {cells slots : Nat} {Q : State → Prop}
variable {cc : ByteArray} {pc nL : Nat} {ls : Array Slot} {rest : List Value} {own : String} {D : va_G} {cy : Nat → ClassId} {A : Nat → Prop} {h0 : Nat}
theorem vz_get (hC : vz_C p s m args meth c cc nL own D cy h0) {C : String} {T : u_T} {N ci index a : Nat} (hin : ∀ w ∈ u_ws C T N, w ∈ fx_tb) {fs : List Value} (hP : va_at D vwCl (a, .inr (ci, fs)) H) (hc : vwCl[ci]? = some (C, T, N)) (k : Nat) (hk : k < N) (hlink : Cond.fieldLink own index (T k).1 (T k).2.1 (T k).2.2.1 ∈ fx_tb) {v : Value} (hv : fs[k]? = some v) (hdg : decode cc pc = .ok (.getfield index, 3))
    (kk : W p l e R s m args below meth c H locs cells slots Q (F0 m (pc + 3) ls (v :: rest))) : W p l e R s m args below meth c H locs cells slots Q (F0 m pc ls (.ref a :: rest)) := by
  obtain ⟨hx, hb, -, hown, hts, hK, -⟩ := hC
  exact va_get hx hb hts hin hown hK (vz_one hP) 0 rfl hc k hk (hts _ hlink) (fun _ h => h) hv hdg kk
theorem vz_alen (hC : vz_C p s m args meth c cc nL own D cy h0) {cA : ClassId} {x : vp_A} {a : Nat} (hP : va_at D vwCl (a, .inl (cA, x)) H) (t0 : Nat) {ty : FieldType} (ht : (fx_ty cy)[t0]? = some (cA, ty)) {v : Int32} (hv : Int32.ofNat x.1 = v) (hdg : decode cc pc = .ok (.arraylength, 1))
    (kk : W p l e R s m args below meth c H locs cells slots Q (F0 m (pc + 1) ls (.int v :: rest))) : W p l e R s m args below meth c H locs cells slots Q (F0 m pc ls (.ref a :: rest)) := by
  obtain ⟨hx, hb, -, hown, hts, hK, -⟩ := hC
  exact va_alen hx hb hK (vz_one hP) 0 t0 rfl ht hv hdg kk
theorem vz_newq (hC : vz_C p s m args meth c cc nL own D cy h0) {C : String} {index : Nat} (hcl : Cond.classLink own index C ∈ fx_tb) (hover : va_AO C s) (k : Nat) {cA : ClassId} (hk : (fx_ty cy)[k]? = some (cA, .object C)) {n : Int32} {N : Nat} (hn : ¬ n < 0) (hN : n.toNatClampNeg = N) (hbytes : N * 4 ≤ 536870912) (hcells : cells + 1 ≤ R.cells) (hslots : slots + N ≤ R.slots) (hdg : decode cc pc = .ok (.anewarray index, 3)) (hS : va_S A s.heap H locs) {z : Nat} (hz : H.size = z)
    (kk : ∀ H1 : Heap, H1.size = z + 1 → va_at D vwCl (z, .inl (cA, N, .inr (.inr (.inr (.inr (fun _ => none)))))) H1 → (∀ q, q < z → H1[q]? = H[q]?) → va_S A s.heap H1 locs → W p l e R s m args below meth c H1 locs (cells + 1) (slots + N) Q (F0 m (pc + 3) ls (.ref z :: rest))) : W p l e R s m args below meth c H locs cells slots Q (F0 m pc ls (.int n :: rest)) := by
  obtain ⟨hx, hb, -, hown, hts, hK, -⟩ := hC
  subst hN
  subst hz
  refine W.anew hx hb hown (hts _ hcl) (va_AO.use hover) rfl hdg rfl hn hbytes hcells hslots fun cB kA comp f1 f2 f3 f4 => ?_
  generalize hH1 : H.push ({ cls := cB, slots := Array.replicate n.toNatClampNeg .null, vm := .none } : Cell) = H1
  have z1 : H1.size = H.size + 1 := by rw [← hH1, Array.size_push]
  have e1 : H1[H.size]? = some (arrV cB n.toNatClampNeg (fun _ => .null)) := by rw [← hH1, Array.getElem?_push_size, ← arrV_new]
  have o1 : ∀ q : Nat, q < H.size → H1[q]? = H[q]? := fun q hq => by rw [← hH1, Array.getElem?_push, if_neg (Nat.ne_of_lt hq)]
  obtain ⟨_, _, -, -, -, hf⟩ := (hK.2 k _ hk).2
  cases Option.some.inj (hf.symm.trans f1)
  refine kk H1 z1 ?_ o1 ⟨Nat.le_trans hS.1 (by omega), fun x h1 h2 => (o1 x (Nat.lt_of_lt_of_le h1 hS.1)).trans (hS.2.1 x h1 h2), hS.2.2⟩
  show H1[H.size]? = some (vp_cell _ _)
  rw [vp_cell_q]
  exact e1
theorem vz_ast (hC : vz_C p s m args meth c cc nL own D cy h0) {a v t0 ci n : Nat} {cA : ClassId} {r : vw_C} {f g : Nat → Option Nat} {vs : List Value} (hP : va_at D vwCl (a, .inl (cA, n, .inr (.inr (.inr (.inr f))))) H) (ht : (fx_ty cy)[t0]? = some (cA, .object r.1)) (hv : va_at D vwCl (v, .inr (ci, vs)) H) (hc : vwCl[ci]? = some r) {i : Int32} {j : Nat} (hj : i.toNatClampNeg = j) (h0i : ¬ i < 0) (hjn : j < n) (hg : va_up f j (some v) = g) (hdg : decode cc pc = .ok (.aastore, 1)) (hS : va_S A s.heap H locs) (hAa : A a)
    (kk : ∀ (H1 : Heap) (locs1 : List Loc), H1.size = H.size → va_at D vwCl (a, .inl (cA, n, .inr (.inr (.inr (.inr g))))) H1 → (∀ q : Nat, q ≠ a → H1[q]? = H[q]?) → va_S A s.heap H1 locs1 → W p l e R s m args below meth c H1 locs1 cells slots Q (F0 m (pc + 1) ls rest)) : W p l e R s m args below meth c H locs cells slots Q (F0 m pc ls (.ref v :: .int i :: .ref a :: rest)) := by
  obtain ⟨hexec, hb, -, hown, hts, hK, -⟩ := hC
  subst hj
  subst hg
  obtain ⟨r', hr', cellV, g1, g2, g3, -⟩ := hv
  have hcls := (hK.1 ci r hc).2
  obtain ⟨kA, comp, k1, k2, k3, -⟩ := (hK.2 t0 _ ht).2
  have hcomp : comp = D.1 ci := Option.some.inj (k3.symm.trans hcls.1)
  subst hcomp
  obtain ⟨kC, hkC, -⟩ := hcls.2
  refine W.aast hexec hb hP (fun q h => by cases h) (fun h => by cases h) k1 k2 rfl hkC ⟨h0i, by show _ < (arrV _ _ _).slots.size; rw [arrV_size]; exact hjn⟩ g1 (fun q h => by rw [g3] at h; cases h) (by rw [g2]; exact hkC) (by rw [g2]; exact va_assign hcls) rfl rfl hdg fun H1 e z oq => ?_
  refine kk H1 _ z ?_ oq (hS.put z oq hAa)
  show H1[a]? = some (vp_cell _ _)
  rw [e]
  rw [vp_cell_q, vp_cell_q, arrV_store]
  congr 2
  funext q
  by_cases hq : q = i.toNatClampNeg
  · subst hq
    simp [updV, va_up, va_rf]
  · simp [updV, va_up, hq]
end VZQ
theorem zh_kB {D : va_G} {cy : Nat → ClassId} {Y : LY} {ad : Nat → Nat} {σ : FH} {off : Nat → Nat} {B : Nat → Bool} {K sz x : Nat} {H H1 : Heap} (h : zh D cy Y ad σ off B K H) (ha : ∀ i, 0 < i → i < Y.length → ad i = sz + off i) (hx : ∀ i, i < Y.length → 0 < i → B i = false → off i ≠ x) (ho : ∀ q, q ≠ sz + x → H1[q]? = H[q]?) : zh D cy Y ad σ off B K H1 := by
  intro i k h1 h2 h3 h4
  have hi := fx_len h1
  refine vz_at_k (h i k h1 h2 h3 h4) (ho _ ?_)
  show ad i ≠ sz + x
  have := hx i hi h2 h4
  rw [ha i h2 hi]; omega
def zoX (i : Nat) : Nat := if i < 3 then i + 1 else if i < 5 then i - 3 else if i < 7 then i + 41 else if i < 17 then i + 29 else if i < 49 then i - 13 else if i = 49 then 48 else if i = 50 then 97 else if i < 99 then i - 2 else i - 1
def zcX (j : Nat) : Nat := if j < 2 then j + 3 else if j < 4 then j - 1 else if j < 36 then j + 13 else if j < 46 then j - 29 else if j < 48 then j - 41 else if j = 48 then 49 else if j < 97 then j + 2 else if j = 97 then 50 else j + 1
def zaX (h0 sz : Nat) : Nat → Nat | 0 => h0 | i + 1 => sz + zoX (i + 1)
def zBX (i : Nat) : Bool := i == 49 || i == 50
def zσX : FH := (fun b => if b = 17 then (fun j => if j = 9 then 2 else 0) else if b = 28 then (fun j => if j = 9 then 2 else 0) else fun _ => 0, fun _ _ => 0, fun r => if r = 2 then 17 else if r = 3 then 28 else if r = 4 then 39 else if r = 5 then 44 else 0)
theorem LX_n : LX.length = 151 := by decide +kernel
theorem zaX_a {h0 sz : Nat} : ∀ i, 0 < i → i < LX.length → zaX h0 sz i = sz + zoX i := fun i h _ => by
  cases i with
  | zero => omega
  | succ i => rfl
theorem zcX_151 : ∀ i, i < 151 → 0 < i → zcX (zoX i) = i := by decide +kernel
theorem zaX_c : ∀ i, 0 < i → i < LX.length → zcX (zoX i) = i := fun i h h2 => zcX_151 i (by rw [← LX_n]; exact h2) h
theorem zB48 : ∀ i, i < LX.length → 0 < i → zBX i = false → zoX i ≠ 48 := by
  rw [LX_n]; decide +kernel
theorem zB97 : ∀ i, i < LX.length → 0 < i → zBX i = false → zoX i ≠ 97 := by
  rw [LX_n]; decide +kernel
theorem zoX_lt : ∀ i, i < LX.length → 0 < i → zBX i = false → zoX i < 150 := by
  rw [LX_n]; decide +kernel
theorem zaX_I {h0 sz : Nat} (h : h0 < sz) : fx_I LX (zaX h0 sz) := fun i j hi hj e => by
  cases i with
  | zero => cases j with
    | zero => rfl
    | succ j => have e2 : h0 = sz + zoX (j + 1) := e; omega
  | succ i => cases j with
    | zero => have e2 : sz + zoX (i + 1) = h0 := e; omega
    | succ j =>
      have e2 : sz + zoX (i + 1) = sz + zoX (j + 1) := e
      have e3 : zoX (i + 1) = zoX (j + 1) := by omega
      exact (zaX_c _ (Nat.succ_pos _) hi).symm.trans ((congrArg zcX e3).trans (zaX_c _ (Nat.succ_pos _) hj))
theorem zaX_A {h0 sz : Nat} : vz_A h0 sz = fx_A LX (zaX h0 sz) sz := by
  funext q
  refine propext ⟨fun h => ?_, fun h => ?_⟩
  · rcases h with h | h
    · exact Or.inl ⟨0, by rw [LX_n]; decide, h⟩
    · exact Or.inr h
  · rcases h with ⟨i, hi, h⟩ | h
    · cases i with
      | zero => exact Or.inl h
      | succ i => have e2 : q = sz + zoX (i + 1) := h; exact Or.inr (by omega)
    · exact Or.inr h
def zfq (sz b t k : Nat) : Nat → Option Nat := fun j => if j < k then some (sz + (b + t * j)) else none
theorem zfq_0 {sz b t : Nat} : (fun _ => none : Nat → Option Nat) = zfq sz b t 0 := by
  funext j; unfold zfq; rw [if_neg (Nat.not_lt_zero j)]
theorem zfq_s {sz b t k v : Nat} (h : v = sz + (b + t * k)) : va_up (zfq sz b t k) k (some v) = zfq sz b t (k + 1) := by
  funext j
  unfold va_up zfq
  by_cases hj : j = k
  · subst hj
    rw [if_pos (Nat.lt_succ_self _), h]
    simp
  · by_cases hk : j < k
    · rw [if_pos (by omega : j < k + 1)]; simp [hj, hk]
    · rw [if_neg (by omega : ¬ j < k + 1)]; simp [hj, hk]
theorem zarr {cA : ClassId} {n : Nat} {f g : Nat → Value} (h : ∀ j, j < n → f j = g j) : arrV cA n f = arrV cA n g := by
  unfold arrV
  congr 1
  apply Array.ext
  · simp
  · intro i h1 h2
    simp at h1 ⊢
    exact h i h1
theorem zfq_at {D : va_G} {a n : Nat} {cA : ClassId} {f g : Nat → Option Nat} {H : Heap} (h : va_at D vwCl (a, .inl (cA, n, .inr (.inr (.inr (.inr f))))) H) (he : ∀ j, j < n → f j = g j) : va_at D vwCl (a, .inl (cA, n, .inr (.inr (.inr (.inr g))))) H := by
  show H[a]? = some (vp_cell _ _)
  have h2 : H[a]? = some (vp_cell cA (n, .inr (.inr (.inr (.inr f))))) := h
  rw [h2, vp_cell_q, vp_cell_q]
  congr 1
  exact zarr (fun j hj => by rw [he j hj])
theorem zO_X11 : Cond.methodLink RX11 1 objectInit ∈ fx_tb := fx_tb_in (List.mem_of_getElem? (i := 125) (by decide +kernel)) (by decide +kernel)
theorem zK_X11_7 : Cond.classLink RX11 7 RX9 ∈ fx_tb := fx_tb_in (List.mem_of_getElem? (i := 128) (by decide +kernel)) (by decide +kernel)
theorem zI_X9 : Cond.instantiable RX9 9 ∈ fx_tb := fx_tb_in (List.mem_of_getElem? (i := 129) (by decide +kernel)) (by decide +kernel)
theorem zIM_X9_init : Cond.instanceMethod yX9_init ∈ fx_tb := fx_tb_in (List.mem_of_getElem? (i := 131) (by decide +kernel)) (by decide +kernel)
theorem zC_X9_init : Cond.code yX9_init cX9_init 1 none ∈ fx_tb := fx_tb_in (List.mem_of_getElem? (i := 132) (by decide +kernel)) (by decide +kernel)
theorem zF_X11_10 : Cond.fieldLink RX11 10 (TX11 0).1 (TX11 0).2.1 (TX11 0).2.2.1 ∈ fx_tb := fx_tb_in (List.mem_of_getElem? (i := 403) (by decide +kernel)) (by decide +kernel)
theorem zK_X11_16 : Cond.classLink RX11 16 RX4 ∈ fx_tb := fx_tb_in (List.mem_of_getElem? (i := 167) (by decide +kernel)) (by decide +kernel)
theorem zI_X4 : Cond.instantiable RX4 2 ∈ fx_tb := fx_tb_in (List.mem_of_getElem? (i := 168) (by decide +kernel)) (by decide +kernel)
theorem zL_X11_18 : Cond.methodLink RX11 18 yX4_init ∈ fx_tb := fx_tb_in (List.mem_of_getElem? (i := 169) (by decide +kernel)) (by decide +kernel)
theorem zIM_X4_init : Cond.instanceMethod yX4_init ∈ fx_tb := fx_tb_in (List.mem_of_getElem? (i := 170) (by decide +kernel)) (by decide +kernel)
theorem zC_X4_init : Cond.code yX4_init cX4_init 2 none ∈ fx_tb := fx_tb_in (List.mem_of_getElem? (i := 171) (by decide +kernel)) (by decide +kernel)
theorem zF_X11_21 : Cond.fieldLink RX11 21 (TX11 1).1 (TX11 1).2.1 (TX11 1).2.2.1 ∈ fx_tb := fx_tb_in (List.mem_of_getElem? (i := 404) (by decide +kernel)) (by decide +kernel)
theorem zK_X11_25 : Cond.classLink RX11 25 RX5 ∈ fx_tb := fx_tb_in (List.mem_of_getElem? (i := 190) (by decide +kernel)) (by decide +kernel)
theorem zI_X5 : Cond.instantiable RX5 13 ∈ fx_tb := fx_tb_in (List.mem_of_getElem? (i := 191) (by decide +kernel)) (by decide +kernel)
theorem zIM_X5_init : Cond.instanceMethod yX5_init ∈ fx_tb := fx_tb_in (List.mem_of_getElem? (i := 193) (by decide +kernel)) (by decide +kernel)
theorem zC_X5_init : Cond.code yX5_init cX5_init 1 none ∈ fx_tb := fx_tb_in (List.mem_of_getElem? (i := 194) (by decide +kernel)) (by decide +kernel)
theorem zF_X11_28 : Cond.fieldLink RX11 28 (TX11 2).1 (TX11 2).2.1 (TX11 2).2.2.1 ∈ fx_tb := fx_tb_in (List.mem_of_getElem? (i := 405) (by decide +kernel)) (by decide +kernel)
theorem zF_X11_32 : Cond.fieldLink RX11 32 (TX11 3).1 (TX11 3).2.1 (TX11 3).2.2.1 ∈ fx_tb := fx_tb_in (List.mem_of_getElem? (i := 406) (by decide +kernel)) (by decide +kernel)
theorem zK_X11_35 : Cond.classLink RX11 35 RX8 ∈ fx_tb := fx_tb_in (List.mem_of_getElem? (i := 280) (by decide +kernel)) (by decide +kernel)
theorem zF_X11_38 : Cond.fieldLink RX11 38 (TX11 4).1 (TX11 4).2.1 (TX11 4).2.2.1 ∈ fx_tb := fx_tb_in (List.mem_of_getElem? (i := 407) (by decide +kernel)) (by decide +kernel)
theorem zF_X11_42 : Cond.fieldLink RX11 42 (TX11 5).1 (TX11 5).2.1 (TX11 5).2.2.1 ∈ fx_tb := fx_tb_in (List.mem_of_getElem? (i := 408) (by decide +kernel)) (by decide +kernel)
theorem zK_X11_45 : Cond.classLink RX11 45 RX7 ∈ fx_tb := fx_tb_in (List.mem_of_getElem? (i := 308) (by decide +kernel)) (by decide +kernel)
theorem zF_X11_48 : Cond.fieldLink RX11 48 (TX11 6).1 (TX11 6).2.1 (TX11 6).2.2.1 ∈ fx_tb := fx_tb_in (List.mem_of_getElem? (i := 409) (by decide +kernel)) (by decide +kernel)
theorem zF_X11_52 : Cond.fieldLink RX11 52 (TX11 7).1 (TX11 7).2.1 (TX11 7).2.2.1 ∈ fx_tb := fx_tb_in (List.mem_of_getElem? (i := 410) (by decide +kernel)) (by decide +kernel)
theorem zK_X11_55 : Cond.classLink RX11 55 RX6 ∈ fx_tb := fx_tb_in (List.mem_of_getElem? (i := 335) (by decide +kernel)) (by decide +kernel)
theorem zF_X11_58 : Cond.fieldLink RX11 58 (TX11 8).1 (TX11 8).2.1 (TX11 8).2.2.1 ∈ fx_tb := fx_tb_in (List.mem_of_getElem? (i := 411) (by decide +kernel)) (by decide +kernel)
theorem zK_X11_62 : Cond.classLink RX11 62 RX0 ∈ fx_tb := fx_tb_in (List.mem_of_getElem? (i := 356) (by decide +kernel)) (by decide +kernel)
theorem zI_X0 : Cond.instantiable RX0 3 ∈ fx_tb := fx_tb_in (List.mem_of_getElem? (i := 357) (by decide +kernel)) (by decide +kernel)
theorem zIM_X0_init : Cond.instanceMethod yX0_init ∈ fx_tb := fx_tb_in (List.mem_of_getElem? (i := 359) (by decide +kernel)) (by decide +kernel)
theorem zC_X0_init : Cond.code yX0_init cX0_init 1 none ∈ fx_tb := fx_tb_in (List.mem_of_getElem? (i := 360) (by decide +kernel)) (by decide +kernel)
theorem zF_X11_65 : Cond.fieldLink RX11 65 (TX11 9).1 (TX11 9).2.1 (TX11 9).2.2.1 ∈ fx_tb := fx_tb_in (List.mem_of_getElem? (i := 412) (by decide +kernel)) (by decide +kernel)
theorem zF_X11_69 : Cond.fieldLink RX11 69 (TX11 10).1 (TX11 10).2.1 (TX11 10).2.2.1 ∈ fx_tb := fx_tb_in (List.mem_of_getElem? (i := 413) (by decide +kernel)) (by decide +kernel)
theorem zK_X11_73 : Cond.classLink RX11 73 RX3 ∈ fx_tb := fx_tb_in (List.mem_of_getElem? (i := 373) (by decide +kernel)) (by decide +kernel)
theorem zF_X11_75 : Cond.fieldLink RX11 75 (TX11 13).1 (TX11 13).2.1 (TX11 13).2.2.1 ∈ fx_tb := fx_tb_in (List.mem_of_getElem? (i := 416) (by decide +kernel)) (by decide +kernel)
theorem zI_X3 : Cond.instantiable RX3 4 ∈ fx_tb := fx_tb_in (List.mem_of_getElem? (i := 375) (by decide +kernel)) (by decide +kernel)
theorem zIM_X3_init : Cond.instanceMethod yX3_init ∈ fx_tb := fx_tb_in (List.mem_of_getElem? (i := 377) (by decide +kernel)) (by decide +kernel)
theorem zC_X3_init : Cond.code yX3_init cX3_init 1 none ∈ fx_tb := fx_tb_in (List.mem_of_getElem? (i := 378) (by decide +kernel)) (by decide +kernel)
def zX11fs : List Value := [.null, .null, .null, .null, .null, .null, .null, .null, .null, .null, .null, .int 0, .int 0, .null]
theorem zpast {h0 sz : Nat} (j : Nat) (hj : j < 16) : sz + (49 + 3 * j) = zaX h0 sz (51 + 3 * j) := by
  have e : zaX h0 sz (51 + 3 * j) = sz + zoX (51 + 3 * j) := zaX_a _ (by omega) (by rw [LX_n]; omega)
  rw [e]
  unfold zoX
  rw [if_neg (by omega), if_neg (by omega), if_neg (by omega), if_neg (by omega), if_neg (by omega), if_neg (by omega), if_neg (by omega), if_pos (by omega)]
  omega
theorem zmark {h0 sz : Nat} (j : Nat) (hj : j < 4) : sz + (98 + 13 * j) = zaX h0 sz (99 + 13 * j) := by
  have e : zaX h0 sz (99 + 13 * j) = sz + zoX (99 + 13 * j) := zaX_a _ (by omega) (by rw [LX_n]; omega)
  rw [e]
  unfold zoX
  rw [if_neg (by omega), if_neg (by omega), if_neg (by omega), if_neg (by omega), if_neg (by omega), if_neg (by omega), if_neg (by omega), if_neg (by omega)]
  omega
set_option maxHeartbeats 8000000 in
theorem zx_M (l : Launch) (D : va_G) (cy : Nat → ClassId) (h0 sz : Nat) : Met l yX11_init (.code yX11_init cX11_init 2 none :: fx_tb) (vz_R 3 150 4854) (va_Pc [.ref h0] (vz_B D cy h0 10 zX11fs sz)) (va_Qv (fun (_ : Unit) => True) (fun _ t => fx_P D cy LX (zaX h0 sz) zσX t.heap) (vz_A h0 sz)) 150 4854 (vz_A h0 sz) := by
  refine Met.ofW (cc := cX11_init) (maxL := 2) (ret := none) (by decide +kernel) rfl ?_
  intro p e s m args below meth c s₁ B hml hv
  obtain ⟨rfl, rfl, hlt, hO, hK, hN⟩ := hv
  have hts := atoms_spec (ws := .code yX11_init cX11_init 2 none :: fx_tb) B.pre
  have hin : meth.name = "<init>" := (name_of_methodNamed B.named B.method).1.trans rfl
  have hC : vz_C p s m [.ref h0].toArray meth c cX11_init 2 RX11 D cy h0 := ⟨B.exec, B.bytes, hml, findClass_of_methodNamed B.named, fun w hw => hts w (List.mem_cons_of_mem _ hw), hK, hin, hlt, hN⟩
  have hr := B.returns
  have hk := B.notSynchronized
  clear hts hin B
  have hx := hC.1
  have hb := hC.2.1
  have hl := lv_entry ([.ref h0]) (n := 2) (Nat.le_of_ble_eq_true rfl)
  show W _ _ _ _ _ _ _ _ _ _ _ _ _ _ _ (entryFrame m ([.ref h0] : List Value).toArray 2)
  rw [lg_entry_eq]
  generalize (lg_sl ([.ref h0]) ++ List.replicate (2 - (lg_sl ([.ref h0])).length) Slot.unset).toArray = ls at hl ⊢
  have hl : lv_has ls 2 [(0, .ref h0)] := hl
  have hz : s.heap.size = s.heap.size := rfl
  have hS : va_S (vz_A h0 s.heap.size) s.heap s.heap [] := va_S.rf
  have hR : zh D cy LX (zaX h0 s.heap.size) zσX zoX zBX 0 s.heap := zh_0
  refine lv_aload_n hx hb dX11_init_0 rfl (lv_at hl 0 rfl) ?_
  refine vz_obj hC zO_X11 zOI zOC hl.1 dX11_init_1 (Nat.le_of_ble_eq_true rfl) (Nat.le_of_ble_eq_true rfl) ?_
  refine lv_aload_n hx hb dX11_init_4 rfl (lv_at hl 0 rfl) ?_
  refine vz_new (ci := 9) (fs := [.null, .int 0, .int 0, .int 0, .int 0, .int 0, .int 0, .long 0, .int 0]) hC inT_X9 tyX9 tyX9_ok zK_X11_7 zI_X9 kN_X9 rfl (by decide +kernel) (Nat.le_of_ble_eq_true rfl) (Nat.le_of_ble_eq_true rfl) dX11_init_5 hS hz (fun H1 z1 at1 o1 hS1 => ?_)
  replace hO := vz_at_k hO (o1 _ (hlt))
  replace hR := zh_k hR zaX_a (fun q _ h => o1 q h)
  have atn := at1
  replace hz : H1.size = s.heap.size + 1 := z1
  replace hS := hS1
  clear o1 at1 z1 hS1
  refine lv_dup hx hb dX11_init_8 rfl ?_
  refine vz_callN (n := 0) (As := []) (rest := [.ref (s.heap.size), .ref h0]) hC (zc_X9 l (s.heap.size)) hC.2.2.2.2.2.2.2.2.1 zIM_X9_init kN_X9 zC_X9_init rfl (by decide +kernel) rfl ⟨Nat.le_of_ble_eq_true rfl, Nat.le_of_ble_eq_true rfl⟩ ⟨Nat.le_of_ble_eq_true rfl, Nat.le_of_ble_eq_true rfl⟩ hl.1 (Nat.le_of_ble_eq_true rfl) rfl dX11_init_9 hS atn (fun q hq => hq.elim (fun z => Or.inr (by omega)) (fun z => Or.inr (by omega))) (fun H2 locs2 z2 hp2 o2 hS2 => ?_)
  rw [hz] at hp2 z2 o2
  replace hO := vz_at_k hO (o2 _ (Nat.lt_add_right 1 hlt) (Nat.ne_of_lt (hlt)))
  replace hR := zh_k hR zaX_a (fun q _ h => o2 q (by omega) (by omega))
  replace hR := zh_s (cof := zcX) hR zaX_c 3 (k0 := (9, 0)) rfl rfl (hp2 0 _ rfl)
  replace hR := zh_s (cof := zcX) hR zaX_c 4 (k0 := (22, 1000)) rfl rfl (hp2 1 _ rfl)
  replace hz : H2.size = s.heap.size + 2 := z2
  replace hS := hS2
  clear o2 hp2 z2 hS2 atn
  refine vz_putF hC inT_X11 tyX11 tyX11_ok nmX11 hO rfl 0 (by decide) zF_X11_10 rfl rfl rfl rfl (Nat.le_of_ble_eq_true rfl) dX11_init_12 hS (Or.inl rfl) (fun H1 locs1 z1 hO1 o1 hS1 => ?_)
  replace hO : va_at D vwCl (h0, .inr (10, [.ref (s.heap.size), .null, .null, .null, .null, .null, .null, .null, .null, .null, .null, .int 0, .int 0, .null])) H1 := hO1
  replace hR := zh_k hR zaX_a (fun q h _ => o1 q (Nat.ne_of_gt (Nat.lt_of_lt_of_le hlt h)))
  replace hz : H1.size = s.heap.size + 2 := z1.trans hz
  replace hS := hS1
  clear o1 z1 hS1 hO1
  refine lv_aload_n hx hb dX11_init_15 rfl (lv_at hl 0 rfl) ?_
  refine vz_new (ci := 4) (fs := [.null, .null]) hC inT_X4 tyX4 tyX4_ok zK_X11_16 zI_X4 kN_X4 rfl (by decide +kernel) (Nat.le_of_ble_eq_true rfl) (Nat.le_of_ble_eq_true rfl) dX11_init_16 hS hz (fun H1 z1 at1 o1 hS1 => ?_)
  replace hO := vz_at_k hO (o1 _ (Nat.lt_add_right 2 hlt))
  replace hR := zh_k hR zaX_a (fun q _ h => o1 q h)
  have atn := at1
  replace hz : H1.size = s.heap.size + 3 := z1
  replace hS := hS1
  clear o1 at1 z1 hS1
  refine lv_dup hx hb dX11_init_19 rfl ?_
  refine lv_aload_n hx hb dX11_init_20 rfl (lv_at hl 0 rfl) ?_
  refine vz_get hC inT_X11 hO rfl 0 (by decide) zF_X11_10 rfl dX11_init_21 ?_
  refine vz_callI (n := 1) (As := [.ref (s.heap.size)]) (rest := [.ref (s.heap.size + 2), .ref h0]) hC (zc_X4 l (s.heap.size + 2) (s.heap.size)) zL_X11_18 zIM_X4_init kN_X4 zC_X4_init rfl (by decide +kernel) rfl ⟨Nat.le_of_ble_eq_true rfl, Nat.le_of_ble_eq_true rfl⟩ ⟨Nat.le_of_ble_eq_true rfl, Nat.le_of_ble_eq_true rfl⟩ hl.1 (Nat.le_of_ble_eq_true rfl) rfl dX11_init_24 hS atn (fun q hq => hq.elim (fun z => Or.inr (by omega)) (fun z => Or.inr (by omega))) (fun H2 locs2 z2 hp2 o2 hS2 => ?_)
  rw [hz] at hp2 z2 o2
  replace hO := vz_at_k hO (o2 _ (Nat.lt_add_right 3 hlt) (Nat.ne_of_lt (Nat.lt_add_right 2 hlt)))
  replace hR := zh_k hR zaX_a (fun q _ h => o2 q (by omega) (by omega))
  replace hR := zh_s (cof := zcX) hR zaX_c 1 (k0 := (4, 0)) rfl rfl (hp2 0 _ rfl)
  replace hR := zh_s (cof := zcX) hR zaX_c 2 (k0 := (2, 0)) rfl rfl (hp2 1 _ rfl)
  replace hz : H2.size = s.heap.size + 4 := z2
  replace hS := hS2
  clear o2 hp2 z2 hS2 atn
  refine vz_putF hC inT_X11 tyX11 tyX11_ok nmX11 hO rfl 1 (by decide) zF_X11_21 rfl rfl rfl rfl (Nat.le_of_ble_eq_true rfl) dX11_init_27 hS (Or.inl rfl) (fun H1 locs1 z1 hO1 o1 hS1 => ?_)
  replace hO : va_at D vwCl (h0, .inr (10, [.ref (s.heap.size), .ref (s.heap.size + 2), .null, .null, .null, .null, .null, .null, .null, .null, .null, .int 0, .int 0, .null])) H1 := hO1
  replace hR := zh_k hR zaX_a (fun q h _ => o1 q (Nat.ne_of_gt (Nat.lt_of_lt_of_le hlt h)))
  replace hz : H1.size = s.heap.size + 4 := z1.trans hz
  replace hS := hS1
  clear o1 z1 hS1 hO1
  refine lv_aload_n hx hb dX11_init_30 rfl (lv_at hl 0 rfl) ?_
  refine vz_new (ci := 5) (fs := [.int 0, .null, .null, .null, .null, .int 0, .null, .null, .null, .int 0, .int 0, .int 0, .null]) hC inT_X5 tyX5 tyX5_ok zK_X11_25 zI_X5 kN_X5 rfl (by decide +kernel) (Nat.le_of_ble_eq_true rfl) (Nat.le_of_ble_eq_true rfl) dX11_init_31 hS hz (fun H1 z1 at1 o1 hS1 => ?_)
  replace hO := vz_at_k hO (o1 _ (Nat.lt_add_right 4 hlt))
  replace hR := zh_k hR zaX_a (fun q _ h => o1 q h)
  have atn := at1
  replace hz : H1.size = s.heap.size + 5 := z1
  replace hS := hS1
  clear o1 at1 z1 hS1
  refine lv_dup hx hb dX11_init_34 rfl ?_
  refine vz_callN (n := 0) (As := []) (rest := [.ref (s.heap.size + 4), .ref h0]) hC (zc_X5 l (s.heap.size + 4)) hC.2.2.2.2.2.2.2.2.2.1 zIM_X5_init kN_X5 zC_X5_init rfl (by decide +kernel) rfl ⟨Nat.le_of_ble_eq_true rfl, Nat.le_of_ble_eq_true rfl⟩ ⟨Nat.le_of_ble_eq_true rfl, Nat.le_of_ble_eq_true rfl⟩ hl.1 (Nat.le_of_ble_eq_true rfl) rfl dX11_init_35 hS atn (fun q hq => hq.elim (fun z => Or.inr (by omega)) (fun z => Or.inr (by omega))) (fun H2 locs2 z2 hp2 o2 hS2 => ?_)
  rw [hz] at hp2 z2 o2
  replace hO := vz_at_k hO (o2 _ (Nat.lt_add_right 5 hlt) (Nat.ne_of_lt (Nat.lt_add_right 4 hlt)))
  replace hR := zh_k hR zaX_a (fun q _ h => o2 q (by omega) (by omega))
  replace hR := zh_s (cof := zcX) hR zaX_c 17 (k0 := (5, 0)) rfl rfl (hp2 0 _ rfl)
  replace hR := zh_s (cof := zcX) hR zaX_c 18 (k0 := (21, 6)) rfl rfl (hp2 1 _ rfl)
  replace hR := zh_s (cof := zcX) hR zaX_c 19 (k0 := (20, 6)) rfl rfl (hp2 2 _ rfl)
  replace hR := zh_s (cof := zcX) hR zaX_c 20 (k0 := (20, 6)) rfl rfl (hp2 3 _ rfl)
  replace hR := zh_s (cof := zcX) hR zaX_c 21 (k0 := (20, 6)) rfl rfl (hp2 4 _ rfl)
  replace hR := zh_s (cof := zcX) hR zaX_c 22 (k0 := (21, 5)) rfl rfl (hp2 5 _ rfl)
  replace hR := zh_s (cof := zcX) hR zaX_c 23 (k0 := (20, 5)) rfl rfl (hp2 6 _ rfl)
  replace hR := zh_s (cof := zcX) hR zaX_c 24 (k0 := (20, 5)) rfl rfl (hp2 7 _ rfl)
  replace hR := zh_s (cof := zcX) hR zaX_c 25 (k0 := (1, 0)) rfl rfl (hp2 8 _ rfl)
  replace hR := zh_s (cof := zcX) hR zaX_c 26 (k0 := (20, 1000)) rfl rfl (hp2 9 _ rfl)
  replace hR := zh_s (cof := zcX) hR zaX_c 27 (k0 := (20, 32)) rfl rfl (hp2 10 _ rfl)
  replace hz : H2.size = s.heap.size + 15 := z2
  replace hS := hS2
  clear o2 hp2 z2 hS2 atn
  refine vz_put hC inT_X11 tyX11 tyX11_ok nmX11 hO rfl 2 (by decide) zF_X11_28 rfl rfl rfl (Nat.le_of_ble_eq_true rfl) dX11_init_38 hS (Or.inl rfl) (fun H1 locs1 z1 hO1 o1 hS1 => ?_)
  replace hO : va_at D vwCl (h0, .inr (10, [.ref (s.heap.size), .ref (s.heap.size + 2), .ref (s.heap.size + 4), .null, .null, .null, .null, .null, .null, .null, .null, .int 0, .int 0, .null])) H1 := hO1
  replace hR := zh_k hR zaX_a (fun q h _ => o1 q (Nat.ne_of_gt (Nat.lt_of_lt_of_le hlt h)))
  replace hz : H1.size = s.heap.size + 15 := z1.trans hz
  replace hS := hS1
  clear o1 z1 hS1 hO1
  refine lv_aload_n hx hb dX11_init_41 rfl (lv_at hl 0 rfl) ?_
  refine vz_new (ci := 5) (fs := [.int 0, .null, .null, .null, .null, .int 0, .null, .null, .null, .int 0, .int 0, .int 0, .null]) hC inT_X5 tyX5 tyX5_ok zK_X11_25 zI_X5 kN_X5 rfl (by decide +kernel) (Nat.le_of_ble_eq_true rfl) (Nat.le_of_ble_eq_true rfl) dX11_init_42 hS hz (fun H1 z1 at1 o1 hS1 => ?_)
  replace hO := vz_at_k hO (o1 _ (Nat.lt_add_right 15 hlt))
  replace hR := zh_k hR zaX_a (fun q _ h => o1 q h)
  have atn := at1
  replace hz : H1.size = s.heap.size + 16 := z1
  replace hS := hS1
  clear o1 at1 z1 hS1
  refine lv_dup hx hb dX11_init_45 rfl ?_
  refine vz_callN (n := 0) (As := []) (rest := [.ref (s.heap.size + 15), .ref h0]) hC (zc_X5 l (s.heap.size + 15)) hC.2.2.2.2.2.2.2.2.2.1 zIM_X5_init kN_X5 zC_X5_init rfl (by decide +kernel) rfl ⟨Nat.le_of_ble_eq_true rfl, Nat.le_of_ble_eq_true rfl⟩ ⟨Nat.le_of_ble_eq_true rfl, Nat.le_of_ble_eq_true rfl⟩ hl.1 (Nat.le_of_ble_eq_true rfl) rfl dX11_init_46 hS atn (fun q hq => hq.elim (fun z => Or.inr (by omega)) (fun z => Or.inr (by omega))) (fun H2 locs2 z2 hp2 o2 hS2 => ?_)
  rw [hz] at hp2 z2 o2
  replace hO := vz_at_k hO (o2 _ (Nat.lt_add_right 16 hlt) (Nat.ne_of_lt (Nat.lt_add_right 15 hlt)))
  replace hR := zh_k hR zaX_a (fun q _ h => o2 q (by omega) (by omega))
  replace hR := zh_s (cof := zcX) hR zaX_c 28 (k0 := (5, 0)) rfl rfl (hp2 0 _ rfl)
  replace hR := zh_s (cof := zcX) hR zaX_c 29 (k0 := (21, 6)) rfl rfl (hp2 1 _ rfl)
  replace hR := zh_s (cof := zcX) hR zaX_c 30 (k0 := (20, 6)) rfl rfl (hp2 2 _ rfl)
  replace hR := zh_s (cof := zcX) hR zaX_c 31 (k0 := (20, 6)) rfl rfl (hp2 3 _ rfl)
  replace hR := zh_s (cof := zcX) hR zaX_c 32 (k0 := (20, 6)) rfl rfl (hp2 4 _ rfl)
  replace hR := zh_s (cof := zcX) hR zaX_c 33 (k0 := (21, 5)) rfl rfl (hp2 5 _ rfl)
  replace hR := zh_s (cof := zcX) hR zaX_c 34 (k0 := (20, 5)) rfl rfl (hp2 6 _ rfl)
  replace hR := zh_s (cof := zcX) hR zaX_c 35 (k0 := (20, 5)) rfl rfl (hp2 7 _ rfl)
  replace hR := zh_s (cof := zcX) hR zaX_c 36 (k0 := (1, 0)) rfl rfl (hp2 8 _ rfl)
  replace hR := zh_s (cof := zcX) hR zaX_c 37 (k0 := (20, 1000)) rfl rfl (hp2 9 _ rfl)
  replace hR := zh_s (cof := zcX) hR zaX_c 38 (k0 := (20, 32)) rfl rfl (hp2 10 _ rfl)
  replace hz : H2.size = s.heap.size + 26 := z2
  replace hS := hS2
  clear o2 hp2 z2 hS2 atn
  refine vz_put hC inT_X11 tyX11 tyX11_ok nmX11 hO rfl 3 (by decide) zF_X11_32 rfl rfl rfl (Nat.le_of_ble_eq_true rfl) dX11_init_49 hS (Or.inl rfl) (fun H1 locs1 z1 hO1 o1 hS1 => ?_)
  replace hO : va_at D vwCl (h0, .inr (10, [.ref (s.heap.size), .ref (s.heap.size + 2), .ref (s.heap.size + 4), .ref (s.heap.size + 15), .null, .null, .null, .null, .null, .null, .null, .int 0, .int 0, .null])) H1 := hO1
  replace hR := zh_k hR zaX_a (fun q h _ => o1 q (Nat.ne_of_gt (Nat.lt_of_lt_of_le hlt h)))
  replace hz : H1.size = s.heap.size + 26 := z1.trans hz
  replace hS := hS1
  clear o1 z1 hS1 hO1
  refine lv_aload_n hx hb dX11_init_52 rfl (lv_at hl 0 rfl) ?_
  refine vz_new (ci := 8) (fs := [.int 0, .null, .null, .null, .null]) hC inT_X8 tyX8 tyX8_ok zK_X11_35 zI_X8 kN_X8 rfl (by decide +kernel) (Nat.le_of_ble_eq_true rfl) (Nat.le_of_ble_eq_true rfl) dX11_init_53 hS hz (fun H1 z1 at1 o1 hS1 => ?_)
  replace hO := vz_at_k hO (o1 _ (Nat.lt_add_right 26 hlt))
  replace hR := zh_k hR zaX_a (fun q _ h => o1 q h)
  have atn := at1
  replace hz : H1.size = s.heap.size + 27 := z1
  replace hS := hS1
  clear o1 at1 z1 hS1
  refine lv_dup hx hb dX11_init_56 rfl ?_
  refine vz_callN (n := 0) (As := []) (rest := [.ref (s.heap.size + 26), .ref h0]) hC (zc_X8 l (s.heap.size + 26)) hC.2.2.2.2.2.2.2.2.2.2.2.1 zIM_X8_init kN_X8 zC_X8_init rfl (by decide +kernel) rfl ⟨Nat.le_of_ble_eq_true rfl, Nat.le_of_ble_eq_true rfl⟩ ⟨Nat.le_of_ble_eq_true rfl, Nat.le_of_ble_eq_true rfl⟩ hl.1 (Nat.le_of_ble_eq_true rfl) rfl dX11_init_57 hS atn (fun q hq => hq.elim (fun z => Or.inr (by omega)) (fun z => Or.inr (by omega))) (fun H2 locs2 z2 hp2 o2 hS2 => ?_)
  rw [hz] at hp2 z2 o2
  replace hO := vz_at_k hO (o2 _ (Nat.lt_add_right 27 hlt) (Nat.ne_of_lt (Nat.lt_add_right 26 hlt)))
  replace hR := zh_k hR zaX_a (fun q _ h => o2 q (by omega) (by omega))
  replace hR := zh_s (cof := zcX) hR zaX_c 39 (k0 := (8, 0)) rfl rfl (hp2 0 _ rfl)
  replace hR := zh_s (cof := zcX) hR zaX_c 40 (k0 := (20, 40)) rfl rfl (hp2 1 _ rfl)
  replace hR := zh_s (cof := zcX) hR zaX_c 41 (k0 := (20, 40)) rfl rfl (hp2 2 _ rfl)
  replace hR := zh_s (cof := zcX) hR zaX_c 42 (k0 := (20, 40)) rfl rfl (hp2 3 _ rfl)
  replace hR := zh_s (cof := zcX) hR zaX_c 43 (k0 := (20, 40)) rfl rfl (hp2 4 _ rfl)
  replace hz : H2.size = s.heap.size + 31 := z2
  replace hS := hS2
  clear o2 hp2 z2 hS2 atn
  refine vz_put hC inT_X11 tyX11 tyX11_ok nmX11 hO rfl 4 (by decide) zF_X11_38 rfl rfl rfl (Nat.le_of_ble_eq_true rfl) dX11_init_60 hS (Or.inl rfl) (fun H1 locs1 z1 hO1 o1 hS1 => ?_)
  replace hO : va_at D vwCl (h0, .inr (10, [.ref (s.heap.size), .ref (s.heap.size + 2), .ref (s.heap.size + 4), .ref (s.heap.size + 15), .ref (s.heap.size + 26), .null, .null, .null, .null, .null, .null, .int 0, .int 0, .null])) H1 := hO1
  replace hR := zh_k hR zaX_a (fun q h _ => o1 q (Nat.ne_of_gt (Nat.lt_of_lt_of_le hlt h)))
  replace hz : H1.size = s.heap.size + 31 := z1.trans hz
  replace hS := hS1
  clear o1 z1 hS1 hO1
  refine lv_aload_n hx hb dX11_init_63 rfl (lv_at hl 0 rfl) ?_
  refine vz_new (ci := 8) (fs := [.int 0, .null, .null, .null, .null]) hC inT_X8 tyX8 tyX8_ok zK_X11_35 zI_X8 kN_X8 rfl (by decide +kernel) (Nat.le_of_ble_eq_true rfl) (Nat.le_of_ble_eq_true rfl) dX11_init_64 hS hz (fun H1 z1 at1 o1 hS1 => ?_)
  replace hO := vz_at_k hO (o1 _ (Nat.lt_add_right 31 hlt))
  replace hR := zh_k hR zaX_a (fun q _ h => o1 q h)
  have atn := at1
  replace hz : H1.size = s.heap.size + 32 := z1
  replace hS := hS1
  clear o1 at1 z1 hS1
  refine lv_dup hx hb dX11_init_67 rfl ?_
  refine vz_callN (n := 0) (As := []) (rest := [.ref (s.heap.size + 31), .ref h0]) hC (zc_X8 l (s.heap.size + 31)) hC.2.2.2.2.2.2.2.2.2.2.2.1 zIM_X8_init kN_X8 zC_X8_init rfl (by decide +kernel) rfl ⟨Nat.le_of_ble_eq_true rfl, Nat.le_of_ble_eq_true rfl⟩ ⟨Nat.le_of_ble_eq_true rfl, Nat.le_of_ble_eq_true rfl⟩ hl.1 (Nat.le_of_ble_eq_true rfl) rfl dX11_init_68 hS atn (fun q hq => hq.elim (fun z => Or.inr (by omega)) (fun z => Or.inr (by omega))) (fun H2 locs2 z2 hp2 o2 hS2 => ?_)
  rw [hz] at hp2 z2 o2
  replace hO := vz_at_k hO (o2 _ (Nat.lt_add_right 32 hlt) (Nat.ne_of_lt (Nat.lt_add_right 31 hlt)))
  replace hR := zh_k hR zaX_a (fun q _ h => o2 q (by omega) (by omega))
  replace hR := zh_s (cof := zcX) hR zaX_c 44 (k0 := (8, 0)) rfl rfl (hp2 0 _ rfl)
  replace hR := zh_s (cof := zcX) hR zaX_c 45 (k0 := (20, 40)) rfl rfl (hp2 1 _ rfl)
  replace hR := zh_s (cof := zcX) hR zaX_c 46 (k0 := (20, 40)) rfl rfl (hp2 2 _ rfl)
  replace hR := zh_s (cof := zcX) hR zaX_c 47 (k0 := (20, 40)) rfl rfl (hp2 3 _ rfl)
  replace hR := zh_s (cof := zcX) hR zaX_c 48 (k0 := (20, 40)) rfl rfl (hp2 4 _ rfl)
  replace hz : H2.size = s.heap.size + 36 := z2
  replace hS := hS2
  clear o2 hp2 z2 hS2 atn
  refine vz_put hC inT_X11 tyX11 tyX11_ok nmX11 hO rfl 5 (by decide) zF_X11_42 rfl rfl rfl (Nat.le_of_ble_eq_true rfl) dX11_init_71 hS (Or.inl rfl) (fun H1 locs1 z1 hO1 o1 hS1 => ?_)
  replace hO : va_at D vwCl (h0, .inr (10, [.ref (s.heap.size), .ref (s.heap.size + 2), .ref (s.heap.size + 4), .ref (s.heap.size + 15), .ref (s.heap.size + 26), .ref (s.heap.size + 31), .null, .null, .null, .null, .null, .int 0, .int 0, .null])) H1 := hO1
  replace hR := zh_k hR zaX_a (fun q h _ => o1 q (Nat.ne_of_gt (Nat.lt_of_lt_of_le hlt h)))
  replace hz : H1.size = s.heap.size + 36 := z1.trans hz
  replace hS := hS1
  clear o1 z1 hS1 hO1
  refine lv_aload_n hx hb dX11_init_74 rfl (lv_at hl 0 rfl) ?_
  refine vz_new (ci := 7) (fs := [.null, .null, .int 0, .int 0, .int 0]) hC inT_X7 tyX7 tyX7_ok zK_X11_45 zI_X7 kN_X7 rfl (by decide +kernel) (Nat.le_of_ble_eq_true rfl) (Nat.le_of_ble_eq_true rfl) dX11_init_75 hS hz (fun H1 z1 at1 o1 hS1 => ?_)
  replace hO := vz_at_k hO (o1 _ (Nat.lt_add_right 36 hlt))
  replace hR := zh_k hR zaX_a (fun q _ h => o1 q h)
  have atn := at1
  replace hz : H1.size = s.heap.size + 37 := z1
  replace hS := hS1
  clear o1 at1 z1 hS1
  refine lv_dup hx hb dX11_init_78 rfl ?_
  refine vz_callN (n := 0) (As := []) (rest := [.ref (s.heap.size + 36), .ref h0]) hC (zc_X7 l (s.heap.size + 36)) hC.2.2.2.2.2.2.2.2.2.2.2.2.1 zIM_X7_init kN_X7 zC_X7_init rfl (by decide +kernel) rfl ⟨Nat.le_of_ble_eq_true rfl, Nat.le_of_ble_eq_true rfl⟩ ⟨Nat.le_of_ble_eq_true rfl, Nat.le_of_ble_eq_true rfl⟩ hl.1 (Nat.le_of_ble_eq_true rfl) rfl dX11_init_79 hS atn (fun q hq => hq.elim (fun z => Or.inr (by omega)) (fun z => Or.inr (by omega))) (fun H2 locs2 z2 hp2 o2 hS2 => ?_)
  rw [hz] at hp2 z2 o2
  replace hO := vz_at_k hO (o2 _ (Nat.lt_add_right 37 hlt) (Nat.ne_of_lt (Nat.lt_add_right 36 hlt)))
  replace hR := zh_k hR zaX_a (fun q _ h => o2 q (by omega) (by omega))
  replace hR := zh_s (cof := zcX) hR zaX_c 7 (k0 := (7, 0)) rfl rfl (hp2 0 _ rfl)
  replace hR := zh_s (cof := zcX) hR zaX_c 8 (k0 := (20, 6)) rfl rfl (hp2 1 _ rfl)
  replace hR := zh_s (cof := zcX) hR zaX_c 9 (k0 := (20, 5)) rfl rfl (hp2 2 _ rfl)
  replace hz : H2.size = s.heap.size + 39 := z2
  replace hS := hS2
  clear o2 hp2 z2 hS2 atn
  refine vz_putF hC inT_X11 tyX11 tyX11_ok nmX11 hO rfl 6 (by decide) zF_X11_48 rfl rfl rfl rfl (Nat.le_of_ble_eq_true rfl) dX11_init_82 hS (Or.inl rfl) (fun H1 locs1 z1 hO1 o1 hS1 => ?_)
  replace hO : va_at D vwCl (h0, .inr (10, [.ref (s.heap.size), .ref (s.heap.size + 2), .ref (s.heap.size + 4), .ref (s.heap.size + 15), .ref (s.heap.size + 26), .ref (s.heap.size + 31), .ref (s.heap.size + 36), .null, .null, .null, .null, .int 0, .int 0, .null])) H1 := hO1
  replace hR := zh_k hR zaX_a (fun q h _ => o1 q (Nat.ne_of_gt (Nat.lt_of_lt_of_le hlt h)))
  replace hz : H1.size = s.heap.size + 39 := z1.trans hz
  replace hS := hS1
  clear o1 z1 hS1 hO1
  refine lv_aload_n hx hb dX11_init_85 rfl (lv_at hl 0 rfl) ?_
  refine vz_new (ci := 7) (fs := [.null, .null, .int 0, .int 0, .int 0]) hC inT_X7 tyX7 tyX7_ok zK_X11_45 zI_X7 kN_X7 rfl (by decide +kernel) (Nat.le_of_ble_eq_true rfl) (Nat.le_of_ble_eq_true rfl) dX11_init_86 hS hz (fun H1 z1 at1 o1 hS1 => ?_)
  replace hO := vz_at_k hO (o1 _ (Nat.lt_add_right 39 hlt))
  replace hR := zh_k hR zaX_a (fun q _ h => o1 q h)
  have atn := at1
  replace hz : H1.size = s.heap.size + 40 := z1
  replace hS := hS1
  clear o1 at1 z1 hS1
  refine lv_dup hx hb dX11_init_89 rfl ?_
  refine vz_callN (n := 0) (As := []) (rest := [.ref (s.heap.size + 39), .ref h0]) hC (zc_X7 l (s.heap.size + 39)) hC.2.2.2.2.2.2.2.2.2.2.2.2.1 zIM_X7_init kN_X7 zC_X7_init rfl (by decide +kernel) rfl ⟨Nat.le_of_ble_eq_true rfl, Nat.le_of_ble_eq_true rfl⟩ ⟨Nat.le_of_ble_eq_true rfl, Nat.le_of_ble_eq_true rfl⟩ hl.1 (Nat.le_of_ble_eq_true rfl) rfl dX11_init_90 hS atn (fun q hq => hq.elim (fun z => Or.inr (by omega)) (fun z => Or.inr (by omega))) (fun H2 locs2 z2 hp2 o2 hS2 => ?_)
  rw [hz] at hp2 z2 o2
  replace hO := vz_at_k hO (o2 _ (Nat.lt_add_right 40 hlt) (Nat.ne_of_lt (Nat.lt_add_right 39 hlt)))
  replace hR := zh_k hR zaX_a (fun q _ h => o2 q (by omega) (by omega))
  replace hR := zh_s (cof := zcX) hR zaX_c 10 (k0 := (7, 0)) rfl rfl (hp2 0 _ rfl)
  replace hR := zh_s (cof := zcX) hR zaX_c 11 (k0 := (20, 6)) rfl rfl (hp2 1 _ rfl)
  replace hR := zh_s (cof := zcX) hR zaX_c 12 (k0 := (20, 5)) rfl rfl (hp2 2 _ rfl)
  replace hz : H2.size = s.heap.size + 42 := z2
  replace hS := hS2
  clear o2 hp2 z2 hS2 atn
  refine vz_putF hC inT_X11 tyX11 tyX11_ok nmX11 hO rfl 7 (by decide) zF_X11_52 rfl rfl rfl rfl (Nat.le_of_ble_eq_true rfl) dX11_init_93 hS (Or.inl rfl) (fun H1 locs1 z1 hO1 o1 hS1 => ?_)
  replace hO : va_at D vwCl (h0, .inr (10, [.ref (s.heap.size), .ref (s.heap.size + 2), .ref (s.heap.size + 4), .ref (s.heap.size + 15), .ref (s.heap.size + 26), .ref (s.heap.size + 31), .ref (s.heap.size + 36), .ref (s.heap.size + 39), .null, .null, .null, .int 0, .int 0, .null])) H1 := hO1
  replace hR := zh_k hR zaX_a (fun q h _ => o1 q (Nat.ne_of_gt (Nat.lt_of_lt_of_le hlt h)))
  replace hz : H1.size = s.heap.size + 42 := z1.trans hz
  replace hS := hS1
  clear o1 z1 hS1 hO1
  refine lv_aload_n hx hb dX11_init_96 rfl (lv_at hl 0 rfl) ?_
  refine vz_new (ci := 6) (fs := [.int 0, .null, .null, .null]) hC inT_X6 tyX6 tyX6_ok zK_X11_55 zI_X6 kN_X6 rfl (by decide +kernel) (Nat.le_of_ble_eq_true rfl) (Nat.le_of_ble_eq_true rfl) dX11_init_97 hS hz (fun H1 z1 at1 o1 hS1 => ?_)
  replace hO := vz_at_k hO (o1 _ (Nat.lt_add_right 42 hlt))
  replace hR := zh_k hR zaX_a (fun q _ h => o1 q h)
  have atn := at1
  replace hz : H1.size = s.heap.size + 43 := z1
  replace hS := hS1
  clear o1 at1 z1 hS1
  refine lv_dup hx hb dX11_init_100 rfl ?_
  refine vz_callN (n := 0) (As := []) (rest := [.ref (s.heap.size + 42), .ref h0]) hC (zc_X6 l (s.heap.size + 42)) hC.2.2.2.2.2.2.2.2.2.2.2.2.2.1 zIM_X6_init kN_X6 zC_X6_init rfl (by decide +kernel) rfl ⟨Nat.le_of_ble_eq_true rfl, Nat.le_of_ble_eq_true rfl⟩ ⟨Nat.le_of_ble_eq_true rfl, Nat.le_of_ble_eq_true rfl⟩ hl.1 (Nat.le_of_ble_eq_true rfl) rfl dX11_init_101 hS atn (fun q hq => hq.elim (fun z => Or.inr (by omega)) (fun z => Or.inr (by omega))) (fun H2 locs2 z2 hp2 o2 hS2 => ?_)
  rw [hz] at hp2 z2 o2
  replace hO := vz_at_k hO (o2 _ (Nat.lt_add_right 43 hlt) (Nat.ne_of_lt (Nat.lt_add_right 42 hlt)))
  replace hR := zh_k hR zaX_a (fun q _ h => o2 q (by omega) (by omega))
  replace hR := zh_s (cof := zcX) hR zaX_c 13 (k0 := (6, 0)) rfl rfl (hp2 0 _ rfl)
  replace hR := zh_s (cof := zcX) hR zaX_c 14 (k0 := (20, 8)) rfl rfl (hp2 1 _ rfl)
  replace hR := zh_s (cof := zcX) hR zaX_c 15 (k0 := (23, 8)) rfl rfl (hp2 2 _ rfl)
  replace hR := zh_s (cof := zcX) hR zaX_c 16 (k0 := (20, 31)) rfl rfl (hp2 3 _ rfl)
  replace hz : H2.size = s.heap.size + 46 := z2
  replace hS := hS2
  clear o2 hp2 z2 hS2 atn
  refine vz_putF hC inT_X11 tyX11 tyX11_ok nmX11 hO rfl 8 (by decide) zF_X11_58 rfl rfl rfl rfl (Nat.le_of_ble_eq_true rfl) dX11_init_104 hS (Or.inl rfl) (fun H1 locs1 z1 hO1 o1 hS1 => ?_)
  replace hO : va_at D vwCl (h0, .inr (10, [.ref (s.heap.size), .ref (s.heap.size + 2), .ref (s.heap.size + 4), .ref (s.heap.size + 15), .ref (s.heap.size + 26), .ref (s.heap.size + 31), .ref (s.heap.size + 36), .ref (s.heap.size + 39), .ref (s.heap.size + 42), .null, .null, .int 0, .int 0, .null])) H1 := hO1
  replace hR := zh_k hR zaX_a (fun q h _ => o1 q (Nat.ne_of_gt (Nat.lt_of_lt_of_le hlt h)))
  replace hz : H1.size = s.heap.size + 46 := z1.trans hz
  replace hS := hS1
  clear o1 z1 hS1 hO1
  refine lv_aload_n hx hb dX11_init_107 rfl (lv_at hl 0 rfl) ?_
  refine vz_new (ci := 0) (fs := [.null, .int 0, .int 0]) hC inT_X0 tyX0 tyX0_ok zK_X11_62 zI_X0 kN_X0 rfl (by decide +kernel) (Nat.le_of_ble_eq_true rfl) (Nat.le_of_ble_eq_true rfl) dX11_init_108 hS hz (fun H1 z1 at1 o1 hS1 => ?_)
  replace hO := vz_at_k hO (o1 _ (Nat.lt_add_right 46 hlt))
  replace hR := zh_k hR zaX_a (fun q _ h => o1 q h)
  have atn := at1
  replace hz : H1.size = s.heap.size + 47 := z1
  replace hS := hS1
  clear o1 at1 z1 hS1
  refine lv_dup hx hb dX11_init_111 rfl ?_
  refine vz_callN (n := 0) (As := []) (rest := [.ref (s.heap.size + 46), .ref h0]) hC (zc_X0 l (s.heap.size + 46)) hC.2.2.2.2.2.2.2.2.2.2.2.2.2.2.1 zIM_X0_init kN_X0 zC_X0_init rfl (by decide +kernel) rfl ⟨Nat.le_of_ble_eq_true rfl, Nat.le_of_ble_eq_true rfl⟩ ⟨Nat.le_of_ble_eq_true rfl, Nat.le_of_ble_eq_true rfl⟩ hl.1 (Nat.le_of_ble_eq_true rfl) rfl dX11_init_112 hS atn (fun q hq => hq.elim (fun z => Or.inr (by omega)) (fun z => Or.inr (by omega))) (fun H2 locs2 z2 hp2 o2 hS2 => ?_)
  rw [hz] at hp2 z2 o2
  replace hO := vz_at_k hO (o2 _ (Nat.lt_add_right 47 hlt) (Nat.ne_of_lt (Nat.lt_add_right 46 hlt)))
  replace hR := zh_k hR zaX_a (fun q _ h => o2 q (by omega) (by omega))
  replace hR := zh_s (cof := zcX) hR zaX_c 5 (k0 := (0, 0)) rfl rfl (hp2 0 _ rfl)
  replace hR := zh_s (cof := zcX) hR zaX_c 6 (k0 := (20, 32)) rfl rfl (hp2 1 _ rfl)
  replace hz : H2.size = s.heap.size + 48 := z2
  replace hS := hS2
  clear o2 hp2 z2 hS2 atn
  refine vz_putF hC inT_X11 tyX11 tyX11_ok nmX11 hO rfl 9 (by decide) zF_X11_65 rfl rfl rfl rfl (Nat.le_of_ble_eq_true rfl) dX11_init_115 hS (Or.inl rfl) (fun H1 locs1 z1 hO1 o1 hS1 => ?_)
  replace hO : va_at D vwCl (h0, .inr (10, [.ref (s.heap.size), .ref (s.heap.size + 2), .ref (s.heap.size + 4), .ref (s.heap.size + 15), .ref (s.heap.size + 26), .ref (s.heap.size + 31), .ref (s.heap.size + 36), .ref (s.heap.size + 39), .ref (s.heap.size + 42), .ref (s.heap.size + 46), .null, .int 0, .int 0, .null])) H1 := hO1
  replace hR := zh_k hR zaX_a (fun q h _ => o1 q (Nat.ne_of_gt (Nat.lt_of_lt_of_le hlt h)))
  replace hz : H1.size = s.heap.size + 48 := z1.trans hz
  replace hS := hS1
  clear o1 z1 hS1 hO1
  refine lv_aload_n hx hb dX11_init_118 rfl (lv_at hl 0 rfl) ?_
  refine lv_bipush (v := 16) hx hb dX11_init_119 (by decide) ?_
  refine vz_newq hC (N := 16) zK_X11_45 hC.2.2.2.2.2.2.2.2.2.2.2.2.2.2.2.2.2.2.2.1 4 rfl (by decide) (by decide) (by decide) (Nat.le_of_ble_eq_true rfl) (Nat.le_of_ble_eq_true rfl) dX11_init_121 hS hz (fun H1 z1 at1 o1 hS1 => ?_)
  replace hO := vz_at_k hO (o1 _ (Nat.lt_add_right 48 hlt))
  replace hR := zh_x (cof := zcX) (zh_k hR zaX_a (fun q _ h => o1 q h)) zaX_c rfl
  have hq48 := at1
  rw [zfq_0 (sz := s.heap.size) (b := 49) (t := 3)] at hq48
  replace hz : H1.size = s.heap.size + 49 := z1
  replace hS := hS1
  clear o1 at1 z1 hS1
  refine vz_putF hC inT_X11 tyX11 tyX11_ok nmX11 hO rfl 10 (by decide) zF_X11_69 rfl rfl rfl rfl (Nat.le_of_ble_eq_true rfl) dX11_init_124 hS (Or.inl rfl) (fun H1 locs1 z1 hO1 o1 hS1 => ?_)
  replace hO : va_at D vwCl (h0, .inr (10, [.ref (s.heap.size), .ref (s.heap.size + 2), .ref (s.heap.size + 4), .ref (s.heap.size + 15), .ref (s.heap.size + 26), .ref (s.heap.size + 31), .ref (s.heap.size + 36), .ref (s.heap.size + 39), .ref (s.heap.size + 42), .ref (s.heap.size + 46), .ref (s.heap.size + 48), .int 0, .int 0, .null])) H1 := hO1
  replace hR := zh_k hR zaX_a (fun q h _ => o1 q (Nat.ne_of_gt (Nat.lt_of_lt_of_le hlt h)))
  replace hq48 := vz_at_k hq48 (o1 _ (Nat.ne_of_gt (Nat.lt_add_right 48 hlt)))
  replace hz : H1.size = s.heap.size + 49 := z1.trans hz
  replace hS := hS1
  clear o1 z1 hS1 hO1
  refine lv_iconst (v := 0) hx hb dX11_init_127 (by decide) ?_
  refine lv_istore_n (lv' := [(1, .int 0), (0, .ref h0)]) hx hb dX11_init_128 rfl hl (by decide) rfl (fun ls hl => ?_)
  refine lv_iload_n hx hb dX11_init_129 rfl (lv_at hl 0 rfl) ?_
  refine lv_aload_n hx hb dX11_init_130 rfl (lv_at hl 1 rfl) ?_
  refine vz_get hC inT_X11 hO rfl 10 (by decide) zF_X11_69 rfl dX11_init_131 ?_
  refine vz_alen hC hq48 4 rfl (v := 16) rfl dX11_init_134 ?_
  refine lv_icmp_ge (tgt := 157) hx hb dX11_init_135 (by decide) (fun h => absurd h (by decide)) (fun _ => ?_)
  refine lv_aload_n hx hb dX11_init_138 rfl (lv_at hl 1 rfl) ?_
  refine vz_get hC inT_X11 hO rfl 10 (by decide) zF_X11_69 rfl dX11_init_139 ?_
  refine lv_iload_n hx hb dX11_init_142 rfl (lv_at hl 0 rfl) ?_
  refine vz_new (ci := 7) (fs := [.null, .null, .int 0, .int 0, .int 0]) hC inT_X7 tyX7 tyX7_ok zK_X11_45 zI_X7 kN_X7 rfl (by decide +kernel) (Nat.le_of_ble_eq_true rfl) (Nat.le_of_ble_eq_true rfl) dX11_init_143 hS hz (fun H1 z1 at1 o1 hS1 => ?_)
  replace hO := vz_at_k hO (o1 _ (Nat.lt_add_right 49 hlt))
  replace hq48 := vz_at_k hq48 (o1 _ (by show s.heap.size + 48 < s.heap.size + 49; omega))
  replace hR := zh_k hR zaX_a (fun q _ h => o1 q h)
  have atn := at1
  replace hz : H1.size = s.heap.size + 50 := z1
  replace hS := hS1
  clear o1 at1 z1 hS1
  refine lv_dup hx hb dX11_init_146 rfl ?_
  refine vz_callN (n := 0) (As := []) (rest := [.ref (s.heap.size + 49), .int 0, .ref (s.heap.size + 48)]) hC (zc_X7 l (s.heap.size + 49)) hC.2.2.2.2.2.2.2.2.2.2.2.2.1 zIM_X7_init kN_X7 zC_X7_init rfl (by decide +kernel) rfl ⟨Nat.le_of_ble_eq_true rfl, Nat.le_of_ble_eq_true rfl⟩ ⟨Nat.le_of_ble_eq_true rfl, Nat.le_of_ble_eq_true rfl⟩ hl.1 (Nat.le_of_ble_eq_true rfl) rfl dX11_init_147 hS atn (fun q hq => hq.elim (fun z => Or.inr (by omega)) (fun z => Or.inr (by omega))) (fun H2 locs2 z2 hp2 o2 hS2 => ?_)
  rw [hz] at hp2 z2 o2
  replace hO := vz_at_k hO (o2 _ (Nat.lt_add_right 50 hlt) (Nat.ne_of_lt (Nat.lt_add_right 49 hlt)))
  replace hq48 := vz_at_k hq48 (o2 _ (by show s.heap.size + 48 < _; omega) (by show s.heap.size + 48 ≠ _; omega))
  replace hR := zh_k hR zaX_a (fun q _ h => o2 q (by omega) (by omega))
  replace hR := zh_s (cof := zcX) hR zaX_c 51 (k0 := (7, 0)) rfl rfl (hp2 0 _ rfl)
  replace hR := zh_s (cof := zcX) hR zaX_c 52 (k0 := (20, 6)) rfl rfl (hp2 1 _ rfl)
  replace hR := zh_s (cof := zcX) hR zaX_c 53 (k0 := (20, 5)) rfl rfl (hp2 2 _ rfl)
  have hv0 := hp2 0 _ rfl
  replace hz : H2.size = s.heap.size + 52 := z2
  replace hS := hS2
  clear o2 hp2 z2 hS2 atn
  refine vz_ast hC (t0 := 4) (ci := 7) (j := 0) hq48 rfl hv0 rfl (by decide) (by decide) (by decide) (zfq_s rfl) dX11_init_150 hS (Or.inr (by omega)) (fun H1 locs1 z1 at1 o1 hS1 => ?_)
  replace hO := vz_at_k hO (o1 _ (by show h0 ≠ _; omega))
  replace hR := zh_kB hR zaX_a zB48 (fun q h => o1 q h)
  replace hq48 := at1
  replace hz : H1.size = s.heap.size + 52 := z1.trans hz
  replace hS := hS1
  clear o1 z1 hS1 at1 hv0
  refine lv_iinc (v := 1) (lv' := [(1, .int 1), (0, .ref h0)]) hx hb dX11_init_151 hl (k := 0) rfl (by decide) (by decide) rfl (fun ls hl => ?_)
  refine lv_goto (tgt := 129) hx hb dX11_init_154 (by decide) ?_
  refine lv_iload_n hx hb dX11_init_129 rfl (lv_at hl 0 rfl) ?_
  refine lv_aload_n hx hb dX11_init_130 rfl (lv_at hl 1 rfl) ?_
  refine vz_get hC inT_X11 hO rfl 10 (by decide) zF_X11_69 rfl dX11_init_131 ?_
  refine vz_alen hC hq48 4 rfl (v := 16) rfl dX11_init_134 ?_
  refine lv_icmp_ge (tgt := 157) hx hb dX11_init_135 (by decide) (fun h => absurd h (by decide)) (fun _ => ?_)
  refine lv_aload_n hx hb dX11_init_138 rfl (lv_at hl 1 rfl) ?_
  refine vz_get hC inT_X11 hO rfl 10 (by decide) zF_X11_69 rfl dX11_init_139 ?_
  refine lv_iload_n hx hb dX11_init_142 rfl (lv_at hl 0 rfl) ?_
  refine vz_new (ci := 7) (fs := [.null, .null, .int 0, .int 0, .int 0]) hC inT_X7 tyX7 tyX7_ok zK_X11_45 zI_X7 kN_X7 rfl (by decide +kernel) (Nat.le_of_ble_eq_true rfl) (Nat.le_of_ble_eq_true rfl) dX11_init_143 hS hz (fun H1 z1 at1 o1 hS1 => ?_)
  replace hO := vz_at_k hO (o1 _ (Nat.lt_add_right 52 hlt))
  replace hq48 := vz_at_k hq48 (o1 _ (by show s.heap.size + 48 < s.heap.size + 52; omega))
  replace hR := zh_k hR zaX_a (fun q _ h => o1 q h)
  have atn := at1
  replace hz : H1.size = s.heap.size + 53 := z1
  replace hS := hS1
  clear o1 at1 z1 hS1
  refine lv_dup hx hb dX11_init_146 rfl ?_
  refine vz_callN (n := 0) (As := []) (rest := [.ref (s.heap.size + 52), .int 1, .ref (s.heap.size + 48)]) hC (zc_X7 l (s.heap.size + 52)) hC.2.2.2.2.2.2.2.2.2.2.2.2.1 zIM_X7_init kN_X7 zC_X7_init rfl (by decide +kernel) rfl ⟨Nat.le_of_ble_eq_true rfl, Nat.le_of_ble_eq_true rfl⟩ ⟨Nat.le_of_ble_eq_true rfl, Nat.le_of_ble_eq_true rfl⟩ hl.1 (Nat.le_of_ble_eq_true rfl) rfl dX11_init_147 hS atn (fun q hq => hq.elim (fun z => Or.inr (by omega)) (fun z => Or.inr (by omega))) (fun H2 locs2 z2 hp2 o2 hS2 => ?_)
  rw [hz] at hp2 z2 o2
  replace hO := vz_at_k hO (o2 _ (Nat.lt_add_right 53 hlt) (Nat.ne_of_lt (Nat.lt_add_right 52 hlt)))
  replace hq48 := vz_at_k hq48 (o2 _ (by show s.heap.size + 48 < _; omega) (by show s.heap.size + 48 ≠ _; omega))
  replace hR := zh_k hR zaX_a (fun q _ h => o2 q (by omega) (by omega))
  replace hR := zh_s (cof := zcX) hR zaX_c 54 (k0 := (7, 0)) rfl rfl (hp2 0 _ rfl)
  replace hR := zh_s (cof := zcX) hR zaX_c 55 (k0 := (20, 6)) rfl rfl (hp2 1 _ rfl)
  replace hR := zh_s (cof := zcX) hR zaX_c 56 (k0 := (20, 5)) rfl rfl (hp2 2 _ rfl)
  have hv0 := hp2 0 _ rfl
  replace hz : H2.size = s.heap.size + 55 := z2
  replace hS := hS2
  clear o2 hp2 z2 hS2 atn
  refine vz_ast hC (t0 := 4) (ci := 7) (j := 1) hq48 rfl hv0 rfl (by decide) (by decide) (by decide) (zfq_s rfl) dX11_init_150 hS (Or.inr (by omega)) (fun H1 locs1 z1 at1 o1 hS1 => ?_)
  replace hO := vz_at_k hO (o1 _ (by show h0 ≠ _; omega))
  replace hR := zh_kB hR zaX_a zB48 (fun q h => o1 q h)
  replace hq48 := at1
  replace hz : H1.size = s.heap.size + 55 := z1.trans hz
  replace hS := hS1
  clear o1 z1 hS1 at1 hv0
  refine lv_iinc (v := 2) (lv' := [(1, .int 2), (0, .ref h0)]) hx hb dX11_init_151 hl (k := 0) rfl (by decide) (by decide) rfl (fun ls hl => ?_)
  refine lv_goto (tgt := 129) hx hb dX11_init_154 (by decide) ?_
  refine lv_iload_n hx hb dX11_init_129 rfl (lv_at hl 0 rfl) ?_
  refine lv_aload_n hx hb dX11_init_130 rfl (lv_at hl 1 rfl) ?_
  refine vz_get hC inT_X11 hO rfl 10 (by decide) zF_X11_69 rfl dX11_init_131 ?_
  refine vz_alen hC hq48 4 rfl (v := 16) rfl dX11_init_134 ?_
  refine lv_icmp_ge (tgt := 157) hx hb dX11_init_135 (by decide) (fun h => absurd h (by decide)) (fun _ => ?_)
  refine lv_aload_n hx hb dX11_init_138 rfl (lv_at hl 1 rfl) ?_
  refine vz_get hC inT_X11 hO rfl 10 (by decide) zF_X11_69 rfl dX11_init_139 ?_
  refine lv_iload_n hx hb dX11_init_142 rfl (lv_at hl 0 rfl) ?_
  refine vz_new (ci := 7) (fs := [.null, .null, .int 0, .int 0, .int 0]) hC inT_X7 tyX7 tyX7_ok zK_X11_45 zI_X7 kN_X7 rfl (by decide +kernel) (Nat.le_of_ble_eq_true rfl) (Nat.le_of_ble_eq_true rfl) dX11_init_143 hS hz (fun H1 z1 at1 o1 hS1 => ?_)
  replace hO := vz_at_k hO (o1 _ (Nat.lt_add_right 55 hlt))
  replace hq48 := vz_at_k hq48 (o1 _ (by show s.heap.size + 48 < s.heap.size + 55; omega))
  replace hR := zh_k hR zaX_a (fun q _ h => o1 q h)
  have atn := at1
  replace hz : H1.size = s.heap.size + 56 := z1
  replace hS := hS1
  clear o1 at1 z1 hS1
  refine lv_dup hx hb dX11_init_146 rfl ?_
  refine vz_callN (n := 0) (As := []) (rest := [.ref (s.heap.size + 55), .int 2, .ref (s.heap.size + 48)]) hC (zc_X7 l (s.heap.size + 55)) hC.2.2.2.2.2.2.2.2.2.2.2.2.1 zIM_X7_init kN_X7 zC_X7_init rfl (by decide +kernel) rfl ⟨Nat.le_of_ble_eq_true rfl, Nat.le_of_ble_eq_true rfl⟩ ⟨Nat.le_of_ble_eq_true rfl, Nat.le_of_ble_eq_true rfl⟩ hl.1 (Nat.le_of_ble_eq_true rfl) rfl dX11_init_147 hS atn (fun q hq => hq.elim (fun z => Or.inr (by omega)) (fun z => Or.inr (by omega))) (fun H2 locs2 z2 hp2 o2 hS2 => ?_)
  rw [hz] at hp2 z2 o2
  replace hO := vz_at_k hO (o2 _ (Nat.lt_add_right 56 hlt) (Nat.ne_of_lt (Nat.lt_add_right 55 hlt)))
  replace hq48 := vz_at_k hq48 (o2 _ (by show s.heap.size + 48 < _; omega) (by show s.heap.size + 48 ≠ _; omega))
  replace hR := zh_k hR zaX_a (fun q _ h => o2 q (by omega) (by omega))
  replace hR := zh_s (cof := zcX) hR zaX_c 57 (k0 := (7, 0)) rfl rfl (hp2 0 _ rfl)
  replace hR := zh_s (cof := zcX) hR zaX_c 58 (k0 := (20, 6)) rfl rfl (hp2 1 _ rfl)
  replace hR := zh_s (cof := zcX) hR zaX_c 59 (k0 := (20, 5)) rfl rfl (hp2 2 _ rfl)
  have hv0 := hp2 0 _ rfl
  replace hz : H2.size = s.heap.size + 58 := z2
  replace hS := hS2
  clear o2 hp2 z2 hS2 atn
  refine vz_ast hC (t0 := 4) (ci := 7) (j := 2) hq48 rfl hv0 rfl (by decide) (by decide) (by decide) (zfq_s rfl) dX11_init_150 hS (Or.inr (by omega)) (fun H1 locs1 z1 at1 o1 hS1 => ?_)
  replace hO := vz_at_k hO (o1 _ (by show h0 ≠ _; omega))
  replace hR := zh_kB hR zaX_a zB48 (fun q h => o1 q h)
  replace hq48 := at1
  replace hz : H1.size = s.heap.size + 58 := z1.trans hz
  replace hS := hS1
  clear o1 z1 hS1 at1 hv0
  refine lv_iinc (v := 3) (lv' := [(1, .int 3), (0, .ref h0)]) hx hb dX11_init_151 hl (k := 0) rfl (by decide) (by decide) rfl (fun ls hl => ?_)
  refine lv_goto (tgt := 129) hx hb dX11_init_154 (by decide) ?_
  refine lv_iload_n hx hb dX11_init_129 rfl (lv_at hl 0 rfl) ?_
  refine lv_aload_n hx hb dX11_init_130 rfl (lv_at hl 1 rfl) ?_
  refine vz_get hC inT_X11 hO rfl 10 (by decide) zF_X11_69 rfl dX11_init_131 ?_
  refine vz_alen hC hq48 4 rfl (v := 16) rfl dX11_init_134 ?_
  refine lv_icmp_ge (tgt := 157) hx hb dX11_init_135 (by decide) (fun h => absurd h (by decide)) (fun _ => ?_)
  refine lv_aload_n hx hb dX11_init_138 rfl (lv_at hl 1 rfl) ?_
  refine vz_get hC inT_X11 hO rfl 10 (by decide) zF_X11_69 rfl dX11_init_139 ?_
  refine lv_iload_n hx hb dX11_init_142 rfl (lv_at hl 0 rfl) ?_
  refine vz_new (ci := 7) (fs := [.null, .null, .int 0, .int 0, .int 0]) hC inT_X7 tyX7 tyX7_ok zK_X11_45 zI_X7 kN_X7 rfl (by decide +kernel) (Nat.le_of_ble_eq_true rfl) (Nat.le_of_ble_eq_true rfl) dX11_init_143 hS hz (fun H1 z1 at1 o1 hS1 => ?_)
  replace hO := vz_at_k hO (o1 _ (Nat.lt_add_right 58 hlt))
  replace hq48 := vz_at_k hq48 (o1 _ (by show s.heap.size + 48 < s.heap.size + 58; omega))
  replace hR := zh_k hR zaX_a (fun q _ h => o1 q h)
  have atn := at1
  replace hz : H1.size = s.heap.size + 59 := z1
  replace hS := hS1
  clear o1 at1 z1 hS1
  refine lv_dup hx hb dX11_init_146 rfl ?_
  refine vz_callN (n := 0) (As := []) (rest := [.ref (s.heap.size + 58), .int 3, .ref (s.heap.size + 48)]) hC (zc_X7 l (s.heap.size + 58)) hC.2.2.2.2.2.2.2.2.2.2.2.2.1 zIM_X7_init kN_X7 zC_X7_init rfl (by decide +kernel) rfl ⟨Nat.le_of_ble_eq_true rfl, Nat.le_of_ble_eq_true rfl⟩ ⟨Nat.le_of_ble_eq_true rfl, Nat.le_of_ble_eq_true rfl⟩ hl.1 (Nat.le_of_ble_eq_true rfl) rfl dX11_init_147 hS atn (fun q hq => hq.elim (fun z => Or.inr (by omega)) (fun z => Or.inr (by omega))) (fun H2 locs2 z2 hp2 o2 hS2 => ?_)
  rw [hz] at hp2 z2 o2
  replace hO := vz_at_k hO (o2 _ (Nat.lt_add_right 59 hlt) (Nat.ne_of_lt (Nat.lt_add_right 58 hlt)))
  replace hq48 := vz_at_k hq48 (o2 _ (by show s.heap.size + 48 < _; omega) (by show s.heap.size + 48 ≠ _; omega))
  replace hR := zh_k hR zaX_a (fun q _ h => o2 q (by omega) (by omega))
  replace hR := zh_s (cof := zcX) hR zaX_c 60 (k0 := (7, 0)) rfl rfl (hp2 0 _ rfl)
  replace hR := zh_s (cof := zcX) hR zaX_c 61 (k0 := (20, 6)) rfl rfl (hp2 1 _ rfl)
  replace hR := zh_s (cof := zcX) hR zaX_c 62 (k0 := (20, 5)) rfl rfl (hp2 2 _ rfl)
  have hv0 := hp2 0 _ rfl
  replace hz : H2.size = s.heap.size + 61 := z2
  replace hS := hS2
  clear o2 hp2 z2 hS2 atn
  refine vz_ast hC (t0 := 4) (ci := 7) (j := 3) hq48 rfl hv0 rfl (by decide) (by decide) (by decide) (zfq_s rfl) dX11_init_150 hS (Or.inr (by omega)) (fun H1 locs1 z1 at1 o1 hS1 => ?_)
  replace hO := vz_at_k hO (o1 _ (by show h0 ≠ _; omega))
  replace hR := zh_kB hR zaX_a zB48 (fun q h => o1 q h)
  replace hq48 := at1
  replace hz : H1.size = s.heap.size + 61 := z1.trans hz
  replace hS := hS1
  clear o1 z1 hS1 at1 hv0
  refine lv_iinc (v := 4) (lv' := [(1, .int 4), (0, .ref h0)]) hx hb dX11_init_151 hl (k := 0) rfl (by decide) (by decide) rfl (fun ls hl => ?_)
  refine lv_goto (tgt := 129) hx hb dX11_init_154 (by decide) ?_
  refine lv_iload_n hx hb dX11_init_129 rfl (lv_at hl 0 rfl) ?_
  refine lv_aload_n hx hb dX11_init_130 rfl (lv_at hl 1 rfl) ?_
  refine vz_get hC inT_X11 hO rfl 10 (by decide) zF_X11_69 rfl dX11_init_131 ?_
  refine vz_alen hC hq48 4 rfl (v := 16) rfl dX11_init_134 ?_
  refine lv_icmp_ge (tgt := 157) hx hb dX11_init_135 (by decide) (fun h => absurd h (by decide)) (fun _ => ?_)
  refine lv_aload_n hx hb dX11_init_138 rfl (lv_at hl 1 rfl) ?_
  refine vz_get hC inT_X11 hO rfl 10 (by decide) zF_X11_69 rfl dX11_init_139 ?_
  refine lv_iload_n hx hb dX11_init_142 rfl (lv_at hl 0 rfl) ?_
  refine vz_new (ci := 7) (fs := [.null, .null, .int 0, .int 0, .int 0]) hC inT_X7 tyX7 tyX7_ok zK_X11_45 zI_X7 kN_X7 rfl (by decide +kernel) (Nat.le_of_ble_eq_true rfl) (Nat.le_of_ble_eq_true rfl) dX11_init_143 hS hz (fun H1 z1 at1 o1 hS1 => ?_)
  replace hO := vz_at_k hO (o1 _ (Nat.lt_add_right 61 hlt))
  replace hq48 := vz_at_k hq48 (o1 _ (by show s.heap.size + 48 < s.heap.size + 61; omega))
  replace hR := zh_k hR zaX_a (fun q _ h => o1 q h)
  have atn := at1
  replace hz : H1.size = s.heap.size + 62 := z1
  replace hS := hS1
  clear o1 at1 z1 hS1
  refine lv_dup hx hb dX11_init_146 rfl ?_
  refine vz_callN (n := 0) (As := []) (rest := [.ref (s.heap.size + 61), .int 4, .ref (s.heap.size + 48)]) hC (zc_X7 l (s.heap.size + 61)) hC.2.2.2.2.2.2.2.2.2.2.2.2.1 zIM_X7_init kN_X7 zC_X7_init rfl (by decide +kernel) rfl ⟨Nat.le_of_ble_eq_true rfl, Nat.le_of_ble_eq_true rfl⟩ ⟨Nat.le_of_ble_eq_true rfl, Nat.le_of_ble_eq_true rfl⟩ hl.1 (Nat.le_of_ble_eq_true rfl) rfl dX11_init_147 hS atn (fun q hq => hq.elim (fun z => Or.inr (by omega)) (fun z => Or.inr (by omega))) (fun H2 locs2 z2 hp2 o2 hS2 => ?_)
  rw [hz] at hp2 z2 o2
  replace hO := vz_at_k hO (o2 _ (Nat.lt_add_right 62 hlt) (Nat.ne_of_lt (Nat.lt_add_right 61 hlt)))
  replace hq48 := vz_at_k hq48 (o2 _ (by show s.heap.size + 48 < _; omega) (by show s.heap.size + 48 ≠ _; omega))
  replace hR := zh_k hR zaX_a (fun q _ h => o2 q (by omega) (by omega))
  replace hR := zh_s (cof := zcX) hR zaX_c 63 (k0 := (7, 0)) rfl rfl (hp2 0 _ rfl)
  replace hR := zh_s (cof := zcX) hR zaX_c 64 (k0 := (20, 6)) rfl rfl (hp2 1 _ rfl)
  replace hR := zh_s (cof := zcX) hR zaX_c 65 (k0 := (20, 5)) rfl rfl (hp2 2 _ rfl)
  have hv0 := hp2 0 _ rfl
  replace hz : H2.size = s.heap.size + 64 := z2
  replace hS := hS2
  clear o2 hp2 z2 hS2 atn
  refine vz_ast hC (t0 := 4) (ci := 7) (j := 4) hq48 rfl hv0 rfl (by decide) (by decide) (by decide) (zfq_s rfl) dX11_init_150 hS (Or.inr (by omega)) (fun H1 locs1 z1 at1 o1 hS1 => ?_)
  replace hO := vz_at_k hO (o1 _ (by show h0 ≠ _; omega))
  replace hR := zh_kB hR zaX_a zB48 (fun q h => o1 q h)
  replace hq48 := at1
  replace hz : H1.size = s.heap.size + 64 := z1.trans hz
  replace hS := hS1
  clear o1 z1 hS1 at1 hv0
  refine lv_iinc (v := 5) (lv' := [(1, .int 5), (0, .ref h0)]) hx hb dX11_init_151 hl (k := 0) rfl (by decide) (by decide) rfl (fun ls hl => ?_)
  refine lv_goto (tgt := 129) hx hb dX11_init_154 (by decide) ?_
  refine lv_iload_n hx hb dX11_init_129 rfl (lv_at hl 0 rfl) ?_
  refine lv_aload_n hx hb dX11_init_130 rfl (lv_at hl 1 rfl) ?_
  refine vz_get hC inT_X11 hO rfl 10 (by decide) zF_X11_69 rfl dX11_init_131 ?_
  refine vz_alen hC hq48 4 rfl (v := 16) rfl dX11_init_134 ?_
  refine lv_icmp_ge (tgt := 157) hx hb dX11_init_135 (by decide) (fun h => absurd h (by decide)) (fun _ => ?_)
  refine lv_aload_n hx hb dX11_init_138 rfl (lv_at hl 1 rfl) ?_
  refine vz_get hC inT_X11 hO rfl 10 (by decide) zF_X11_69 rfl dX11_init_139 ?_
  refine lv_iload_n hx hb dX11_init_142 rfl (lv_at hl 0 rfl) ?_
  refine vz_new (ci := 7) (fs := [.null, .null, .int 0, .int 0, .int 0]) hC inT_X7 tyX7 tyX7_ok zK_X11_45 zI_X7 kN_X7 rfl (by decide +kernel) (Nat.le_of_ble_eq_true rfl) (Nat.le_of_ble_eq_true rfl) dX11_init_143 hS hz (fun H1 z1 at1 o1 hS1 => ?_)
  replace hO := vz_at_k hO (o1 _ (Nat.lt_add_right 64 hlt))
  replace hq48 := vz_at_k hq48 (o1 _ (by show s.heap.size + 48 < s.heap.size + 64; omega))
  replace hR := zh_k hR zaX_a (fun q _ h => o1 q h)
  have atn := at1
  replace hz : H1.size = s.heap.size + 65 := z1
  replace hS := hS1
  clear o1 at1 z1 hS1
  refine lv_dup hx hb dX11_init_146 rfl ?_
  refine vz_callN (n := 0) (As := []) (rest := [.ref (s.heap.size + 64), .int 5, .ref (s.heap.size + 48)]) hC (zc_X7 l (s.heap.size + 64)) hC.2.2.2.2.2.2.2.2.2.2.2.2.1 zIM_X7_init kN_X7 zC_X7_init rfl (by decide +kernel) rfl ⟨Nat.le_of_ble_eq_true rfl, Nat.le_of_ble_eq_true rfl⟩ ⟨Nat.le_of_ble_eq_true rfl, Nat.le_of_ble_eq_true rfl⟩ hl.1 (Nat.le_of_ble_eq_true rfl) rfl dX11_init_147 hS atn (fun q hq => hq.elim (fun z => Or.inr (by omega)) (fun z => Or.inr (by omega))) (fun H2 locs2 z2 hp2 o2 hS2 => ?_)
  rw [hz] at hp2 z2 o2
  replace hO := vz_at_k hO (o2 _ (Nat.lt_add_right 65 hlt) (Nat.ne_of_lt (Nat.lt_add_right 64 hlt)))
  replace hq48 := vz_at_k hq48 (o2 _ (by show s.heap.size + 48 < _; omega) (by show s.heap.size + 48 ≠ _; omega))
  replace hR := zh_k hR zaX_a (fun q _ h => o2 q (by omega) (by omega))
  replace hR := zh_s (cof := zcX) hR zaX_c 66 (k0 := (7, 0)) rfl rfl (hp2 0 _ rfl)
  replace hR := zh_s (cof := zcX) hR zaX_c 67 (k0 := (20, 6)) rfl rfl (hp2 1 _ rfl)
  replace hR := zh_s (cof := zcX) hR zaX_c 68 (k0 := (20, 5)) rfl rfl (hp2 2 _ rfl)
  have hv0 := hp2 0 _ rfl
  replace hz : H2.size = s.heap.size + 67 := z2
  replace hS := hS2
  clear o2 hp2 z2 hS2 atn
  refine vz_ast hC (t0 := 4) (ci := 7) (j := 5) hq48 rfl hv0 rfl (by decide) (by decide) (by decide) (zfq_s rfl) dX11_init_150 hS (Or.inr (by omega)) (fun H1 locs1 z1 at1 o1 hS1 => ?_)
  replace hO := vz_at_k hO (o1 _ (by show h0 ≠ _; omega))
  replace hR := zh_kB hR zaX_a zB48 (fun q h => o1 q h)
  replace hq48 := at1
  replace hz : H1.size = s.heap.size + 67 := z1.trans hz
  replace hS := hS1
  clear o1 z1 hS1 at1 hv0
  refine lv_iinc (v := 6) (lv' := [(1, .int 6), (0, .ref h0)]) hx hb dX11_init_151 hl (k := 0) rfl (by decide) (by decide) rfl (fun ls hl => ?_)
  refine lv_goto (tgt := 129) hx hb dX11_init_154 (by decide) ?_
  refine lv_iload_n hx hb dX11_init_129 rfl (lv_at hl 0 rfl) ?_
  refine lv_aload_n hx hb dX11_init_130 rfl (lv_at hl 1 rfl) ?_
  refine vz_get hC inT_X11 hO rfl 10 (by decide) zF_X11_69 rfl dX11_init_131 ?_
  refine vz_alen hC hq48 4 rfl (v := 16) rfl dX11_init_134 ?_
  refine lv_icmp_ge (tgt := 157) hx hb dX11_init_135 (by decide) (fun h => absurd h (by decide)) (fun _ => ?_)
  refine lv_aload_n hx hb dX11_init_138 rfl (lv_at hl 1 rfl) ?_
  refine vz_get hC inT_X11 hO rfl 10 (by decide) zF_X11_69 rfl dX11_init_139 ?_
  refine lv_iload_n hx hb dX11_init_142 rfl (lv_at hl 0 rfl) ?_
  refine vz_new (ci := 7) (fs := [.null, .null, .int 0, .int 0, .int 0]) hC inT_X7 tyX7 tyX7_ok zK_X11_45 zI_X7 kN_X7 rfl (by decide +kernel) (Nat.le_of_ble_eq_true rfl) (Nat.le_of_ble_eq_true rfl) dX11_init_143 hS hz (fun H1 z1 at1 o1 hS1 => ?_)
  replace hO := vz_at_k hO (o1 _ (Nat.lt_add_right 67 hlt))
  replace hq48 := vz_at_k hq48 (o1 _ (by show s.heap.size + 48 < s.heap.size + 67; omega))
  replace hR := zh_k hR zaX_a (fun q _ h => o1 q h)
  have atn := at1
  replace hz : H1.size = s.heap.size + 68 := z1
  replace hS := hS1
  clear o1 at1 z1 hS1
  refine lv_dup hx hb dX11_init_146 rfl ?_
  refine vz_callN (n := 0) (As := []) (rest := [.ref (s.heap.size + 67), .int 6, .ref (s.heap.size + 48)]) hC (zc_X7 l (s.heap.size + 67)) hC.2.2.2.2.2.2.2.2.2.2.2.2.1 zIM_X7_init kN_X7 zC_X7_init rfl (by decide +kernel) rfl ⟨Nat.le_of_ble_eq_true rfl, Nat.le_of_ble_eq_true rfl⟩ ⟨Nat.le_of_ble_eq_true rfl, Nat.le_of_ble_eq_true rfl⟩ hl.1 (Nat.le_of_ble_eq_true rfl) rfl dX11_init_147 hS atn (fun q hq => hq.elim (fun z => Or.inr (by omega)) (fun z => Or.inr (by omega))) (fun H2 locs2 z2 hp2 o2 hS2 => ?_)
  rw [hz] at hp2 z2 o2
  replace hO := vz_at_k hO (o2 _ (Nat.lt_add_right 68 hlt) (Nat.ne_of_lt (Nat.lt_add_right 67 hlt)))
  replace hq48 := vz_at_k hq48 (o2 _ (by show s.heap.size + 48 < _; omega) (by show s.heap.size + 48 ≠ _; omega))
  replace hR := zh_k hR zaX_a (fun q _ h => o2 q (by omega) (by omega))
  replace hR := zh_s (cof := zcX) hR zaX_c 69 (k0 := (7, 0)) rfl rfl (hp2 0 _ rfl)
  replace hR := zh_s (cof := zcX) hR zaX_c 70 (k0 := (20, 6)) rfl rfl (hp2 1 _ rfl)
  replace hR := zh_s (cof := zcX) hR zaX_c 71 (k0 := (20, 5)) rfl rfl (hp2 2 _ rfl)
  have hv0 := hp2 0 _ rfl
  replace hz : H2.size = s.heap.size + 70 := z2
  replace hS := hS2
  clear o2 hp2 z2 hS2 atn
  refine vz_ast hC (t0 := 4) (ci := 7) (j := 6) hq48 rfl hv0 rfl (by decide) (by decide) (by decide) (zfq_s rfl) dX11_init_150 hS (Or.inr (by omega)) (fun H1 locs1 z1 at1 o1 hS1 => ?_)
  replace hO := vz_at_k hO (o1 _ (by show h0 ≠ _; omega))
  replace hR := zh_kB hR zaX_a zB48 (fun q h => o1 q h)
  replace hq48 := at1
  replace hz : H1.size = s.heap.size + 70 := z1.trans hz
  replace hS := hS1
  clear o1 z1 hS1 at1 hv0
  refine lv_iinc (v := 7) (lv' := [(1, .int 7), (0, .ref h0)]) hx hb dX11_init_151 hl (k := 0) rfl (by decide) (by decide) rfl (fun ls hl => ?_)
  refine lv_goto (tgt := 129) hx hb dX11_init_154 (by decide) ?_
  refine lv_iload_n hx hb dX11_init_129 rfl (lv_at hl 0 rfl) ?_
  refine lv_aload_n hx hb dX11_init_130 rfl (lv_at hl 1 rfl) ?_
  refine vz_get hC inT_X11 hO rfl 10 (by decide) zF_X11_69 rfl dX11_init_131 ?_
  refine vz_alen hC hq48 4 rfl (v := 16) rfl dX11_init_134 ?_
  refine lv_icmp_ge (tgt := 157) hx hb dX11_init_135 (by decide) (fun h => absurd h (by decide)) (fun _ => ?_)
  refine lv_aload_n hx hb dX11_init_138 rfl (lv_at hl 1 rfl) ?_
  refine vz_get hC inT_X11 hO rfl 10 (by decide) zF_X11_69 rfl dX11_init_139 ?_
  refine lv_iload_n hx hb dX11_init_142 rfl (lv_at hl 0 rfl) ?_
  refine vz_new (ci := 7) (fs := [.null, .null, .int 0, .int 0, .int 0]) hC inT_X7 tyX7 tyX7_ok zK_X11_45 zI_X7 kN_X7 rfl (by decide +kernel) (Nat.le_of_ble_eq_true rfl) (Nat.le_of_ble_eq_true rfl) dX11_init_143 hS hz (fun H1 z1 at1 o1 hS1 => ?_)
  replace hO := vz_at_k hO (o1 _ (Nat.lt_add_right 70 hlt))
  replace hq48 := vz_at_k hq48 (o1 _ (by show s.heap.size + 48 < s.heap.size + 70; omega))
  replace hR := zh_k hR zaX_a (fun q _ h => o1 q h)
  have atn := at1
  replace hz : H1.size = s.heap.size + 71 := z1
  replace hS := hS1
  clear o1 at1 z1 hS1
  refine lv_dup hx hb dX11_init_146 rfl ?_
  refine vz_callN (n := 0) (As := []) (rest := [.ref (s.heap.size + 70), .int 7, .ref (s.heap.size + 48)]) hC (zc_X7 l (s.heap.size + 70)) hC.2.2.2.2.2.2.2.2.2.2.2.2.1 zIM_X7_init kN_X7 zC_X7_init rfl (by decide +kernel) rfl ⟨Nat.le_of_ble_eq_true rfl, Nat.le_of_ble_eq_true rfl⟩ ⟨Nat.le_of_ble_eq_true rfl, Nat.le_of_ble_eq_true rfl⟩ hl.1 (Nat.le_of_ble_eq_true rfl) rfl dX11_init_147 hS atn (fun q hq => hq.elim (fun z => Or.inr (by omega)) (fun z => Or.inr (by omega))) (fun H2 locs2 z2 hp2 o2 hS2 => ?_)
  rw [hz] at hp2 z2 o2
  replace hO := vz_at_k hO (o2 _ (Nat.lt_add_right 71 hlt) (Nat.ne_of_lt (Nat.lt_add_right 70 hlt)))
  replace hq48 := vz_at_k hq48 (o2 _ (by show s.heap.size + 48 < _; omega) (by show s.heap.size + 48 ≠ _; omega))
  replace hR := zh_k hR zaX_a (fun q _ h => o2 q (by omega) (by omega))
  replace hR := zh_s (cof := zcX) hR zaX_c 72 (k0 := (7, 0)) rfl rfl (hp2 0 _ rfl)
  replace hR := zh_s (cof := zcX) hR zaX_c 73 (k0 := (20, 6)) rfl rfl (hp2 1 _ rfl)
  replace hR := zh_s (cof := zcX) hR zaX_c 74 (k0 := (20, 5)) rfl rfl (hp2 2 _ rfl)
  have hv0 := hp2 0 _ rfl
  replace hz : H2.size = s.heap.size + 73 := z2
  replace hS := hS2
  clear o2 hp2 z2 hS2 atn
  refine vz_ast hC (t0 := 4) (ci := 7) (j := 7) hq48 rfl hv0 rfl (by decide) (by decide) (by decide) (zfq_s rfl) dX11_init_150 hS (Or.inr (by omega)) (fun H1 locs1 z1 at1 o1 hS1 => ?_)
  replace hO := vz_at_k hO (o1 _ (by show h0 ≠ _; omega))
  replace hR := zh_kB hR zaX_a zB48 (fun q h => o1 q h)
  replace hq48 := at1
  replace hz : H1.size = s.heap.size + 73 := z1.trans hz
  replace hS := hS1
  clear o1 z1 hS1 at1 hv0
  refine lv_iinc (v := 8) (lv' := [(1, .int 8), (0, .ref h0)]) hx hb dX11_init_151 hl (k := 0) rfl (by decide) (by decide) rfl (fun ls hl => ?_)
  refine lv_goto (tgt := 129) hx hb dX11_init_154 (by decide) ?_
  refine lv_iload_n hx hb dX11_init_129 rfl (lv_at hl 0 rfl) ?_
  refine lv_aload_n hx hb dX11_init_130 rfl (lv_at hl 1 rfl) ?_
  refine vz_get hC inT_X11 hO rfl 10 (by decide) zF_X11_69 rfl dX11_init_131 ?_
  refine vz_alen hC hq48 4 rfl (v := 16) rfl dX11_init_134 ?_
  refine lv_icmp_ge (tgt := 157) hx hb dX11_init_135 (by decide) (fun h => absurd h (by decide)) (fun _ => ?_)
  refine lv_aload_n hx hb dX11_init_138 rfl (lv_at hl 1 rfl) ?_
  refine vz_get hC inT_X11 hO rfl 10 (by decide) zF_X11_69 rfl dX11_init_139 ?_
  refine lv_iload_n hx hb dX11_init_142 rfl (lv_at hl 0 rfl) ?_
  refine vz_new (ci := 7) (fs := [.null, .null, .int 0, .int 0, .int 0]) hC inT_X7 tyX7 tyX7_ok zK_X11_45 zI_X7 kN_X7 rfl (by decide +kernel) (Nat.le_of_ble_eq_true rfl) (Nat.le_of_ble_eq_true rfl) dX11_init_143 hS hz (fun H1 z1 at1 o1 hS1 => ?_)
  replace hO := vz_at_k hO (o1 _ (Nat.lt_add_right 73 hlt))
  replace hq48 := vz_at_k hq48 (o1 _ (by show s.heap.size + 48 < s.heap.size + 73; omega))
  replace hR := zh_k hR zaX_a (fun q _ h => o1 q h)
  have atn := at1
  replace hz : H1.size = s.heap.size + 74 := z1
  replace hS := hS1
  clear o1 at1 z1 hS1
  refine lv_dup hx hb dX11_init_146 rfl ?_
  refine vz_callN (n := 0) (As := []) (rest := [.ref (s.heap.size + 73), .int 8, .ref (s.heap.size + 48)]) hC (zc_X7 l (s.heap.size + 73)) hC.2.2.2.2.2.2.2.2.2.2.2.2.1 zIM_X7_init kN_X7 zC_X7_init rfl (by decide +kernel) rfl ⟨Nat.le_of_ble_eq_true rfl, Nat.le_of_ble_eq_true rfl⟩ ⟨Nat.le_of_ble_eq_true rfl, Nat.le_of_ble_eq_true rfl⟩ hl.1 (Nat.le_of_ble_eq_true rfl) rfl dX11_init_147 hS atn (fun q hq => hq.elim (fun z => Or.inr (by omega)) (fun z => Or.inr (by omega))) (fun H2 locs2 z2 hp2 o2 hS2 => ?_)
  rw [hz] at hp2 z2 o2
  replace hO := vz_at_k hO (o2 _ (Nat.lt_add_right 74 hlt) (Nat.ne_of_lt (Nat.lt_add_right 73 hlt)))
  replace hq48 := vz_at_k hq48 (o2 _ (by show s.heap.size + 48 < _; omega) (by show s.heap.size + 48 ≠ _; omega))
  replace hR := zh_k hR zaX_a (fun q _ h => o2 q (by omega) (by omega))
  replace hR := zh_s (cof := zcX) hR zaX_c 75 (k0 := (7, 0)) rfl rfl (hp2 0 _ rfl)
  replace hR := zh_s (cof := zcX) hR zaX_c 76 (k0 := (20, 6)) rfl rfl (hp2 1 _ rfl)
  replace hR := zh_s (cof := zcX) hR zaX_c 77 (k0 := (20, 5)) rfl rfl (hp2 2 _ rfl)
  have hv0 := hp2 0 _ rfl
  replace hz : H2.size = s.heap.size + 76 := z2
  replace hS := hS2
  clear o2 hp2 z2 hS2 atn
  refine vz_ast hC (t0 := 4) (ci := 7) (j := 8) hq48 rfl hv0 rfl (by decide) (by decide) (by decide) (zfq_s rfl) dX11_init_150 hS (Or.inr (by omega)) (fun H1 locs1 z1 at1 o1 hS1 => ?_)
  replace hO := vz_at_k hO (o1 _ (by show h0 ≠ _; omega))
  replace hR := zh_kB hR zaX_a zB48 (fun q h => o1 q h)
  replace hq48 := at1
  replace hz : H1.size = s.heap.size + 76 := z1.trans hz
  replace hS := hS1
  clear o1 z1 hS1 at1 hv0
  refine lv_iinc (v := 9) (lv' := [(1, .int 9), (0, .ref h0)]) hx hb dX11_init_151 hl (k := 0) rfl (by decide) (by decide) rfl (fun ls hl => ?_)
  refine lv_goto (tgt := 129) hx hb dX11_init_154 (by decide) ?_
  refine lv_iload_n hx hb dX11_init_129 rfl (lv_at hl 0 rfl) ?_
  refine lv_aload_n hx hb dX11_init_130 rfl (lv_at hl 1 rfl) ?_
  refine vz_get hC inT_X11 hO rfl 10 (by decide) zF_X11_69 rfl dX11_init_131 ?_
  refine vz_alen hC hq48 4 rfl (v := 16) rfl dX11_init_134 ?_
  refine lv_icmp_ge (tgt := 157) hx hb dX11_init_135 (by decide) (fun h => absurd h (by decide)) (fun _ => ?_)
  refine lv_aload_n hx hb dX11_init_138 rfl (lv_at hl 1 rfl) ?_
  refine vz_get hC inT_X11 hO rfl 10 (by decide) zF_X11_69 rfl dX11_init_139 ?_
  refine lv_iload_n hx hb dX11_init_142 rfl (lv_at hl 0 rfl) ?_
  refine vz_new (ci := 7) (fs := [.null, .null, .int 0, .int 0, .int 0]) hC inT_X7 tyX7 tyX7_ok zK_X11_45 zI_X7 kN_X7 rfl (by decide +kernel) (Nat.le_of_ble_eq_true rfl) (Nat.le_of_ble_eq_true rfl) dX11_init_143 hS hz (fun H1 z1 at1 o1 hS1 => ?_)
  replace hO := vz_at_k hO (o1 _ (Nat.lt_add_right 76 hlt))
  replace hq48 := vz_at_k hq48 (o1 _ (by show s.heap.size + 48 < s.heap.size + 76; omega))
  replace hR := zh_k hR zaX_a (fun q _ h => o1 q h)
  have atn := at1
  replace hz : H1.size = s.heap.size + 77 := z1
  replace hS := hS1
  clear o1 at1 z1 hS1
  refine lv_dup hx hb dX11_init_146 rfl ?_
  refine vz_callN (n := 0) (As := []) (rest := [.ref (s.heap.size + 76), .int 9, .ref (s.heap.size + 48)]) hC (zc_X7 l (s.heap.size + 76)) hC.2.2.2.2.2.2.2.2.2.2.2.2.1 zIM_X7_init kN_X7 zC_X7_init rfl (by decide +kernel) rfl ⟨Nat.le_of_ble_eq_true rfl, Nat.le_of_ble_eq_true rfl⟩ ⟨Nat.le_of_ble_eq_true rfl, Nat.le_of_ble_eq_true rfl⟩ hl.1 (Nat.le_of_ble_eq_true rfl) rfl dX11_init_147 hS atn (fun q hq => hq.elim (fun z => Or.inr (by omega)) (fun z => Or.inr (by omega))) (fun H2 locs2 z2 hp2 o2 hS2 => ?_)
  rw [hz] at hp2 z2 o2
  replace hO := vz_at_k hO (o2 _ (Nat.lt_add_right 77 hlt) (Nat.ne_of_lt (Nat.lt_add_right 76 hlt)))
  replace hq48 := vz_at_k hq48 (o2 _ (by show s.heap.size + 48 < _; omega) (by show s.heap.size + 48 ≠ _; omega))
  replace hR := zh_k hR zaX_a (fun q _ h => o2 q (by omega) (by omega))
  replace hR := zh_s (cof := zcX) hR zaX_c 78 (k0 := (7, 0)) rfl rfl (hp2 0 _ rfl)
  replace hR := zh_s (cof := zcX) hR zaX_c 79 (k0 := (20, 6)) rfl rfl (hp2 1 _ rfl)
  replace hR := zh_s (cof := zcX) hR zaX_c 80 (k0 := (20, 5)) rfl rfl (hp2 2 _ rfl)
  have hv0 := hp2 0 _ rfl
  replace hz : H2.size = s.heap.size + 79 := z2
  replace hS := hS2
  clear o2 hp2 z2 hS2 atn
  refine vz_ast hC (t0 := 4) (ci := 7) (j := 9) hq48 rfl hv0 rfl (by decide) (by decide) (by decide) (zfq_s rfl) dX11_init_150 hS (Or.inr (by omega)) (fun H1 locs1 z1 at1 o1 hS1 => ?_)
  replace hO := vz_at_k hO (o1 _ (by show h0 ≠ _; omega))
  replace hR := zh_kB hR zaX_a zB48 (fun q h => o1 q h)
  replace hq48 := at1
  replace hz : H1.size = s.heap.size + 79 := z1.trans hz
  replace hS := hS1
  clear o1 z1 hS1 at1 hv0
  refine lv_iinc (v := 10) (lv' := [(1, .int 10), (0, .ref h0)]) hx hb dX11_init_151 hl (k := 0) rfl (by decide) (by decide) rfl (fun ls hl => ?_)
  refine lv_goto (tgt := 129) hx hb dX11_init_154 (by decide) ?_
  refine lv_iload_n hx hb dX11_init_129 rfl (lv_at hl 0 rfl) ?_
  refine lv_aload_n hx hb dX11_init_130 rfl (lv_at hl 1 rfl) ?_
  refine vz_get hC inT_X11 hO rfl 10 (by decide) zF_X11_69 rfl dX11_init_131 ?_
  refine vz_alen hC hq48 4 rfl (v := 16) rfl dX11_init_134 ?_
  refine lv_icmp_ge (tgt := 157) hx hb dX11_init_135 (by decide) (fun h => absurd h (by decide)) (fun _ => ?_)
  refine lv_aload_n hx hb dX11_init_138 rfl (lv_at hl 1 rfl) ?_
  refine vz_get hC inT_X11 hO rfl 10 (by decide) zF_X11_69 rfl dX11_init_139 ?_
  refine lv_iload_n hx hb dX11_init_142 rfl (lv_at hl 0 rfl) ?_
  refine vz_new (ci := 7) (fs := [.null, .null, .int 0, .int 0, .int 0]) hC inT_X7 tyX7 tyX7_ok zK_X11_45 zI_X7 kN_X7 rfl (by decide +kernel) (Nat.le_of_ble_eq_true rfl) (Nat.le_of_ble_eq_true rfl) dX11_init_143 hS hz (fun H1 z1 at1 o1 hS1 => ?_)
  replace hO := vz_at_k hO (o1 _ (Nat.lt_add_right 79 hlt))
  replace hq48 := vz_at_k hq48 (o1 _ (by show s.heap.size + 48 < s.heap.size + 79; omega))
  replace hR := zh_k hR zaX_a (fun q _ h => o1 q h)
  have atn := at1
  replace hz : H1.size = s.heap.size + 80 := z1
  replace hS := hS1
  clear o1 at1 z1 hS1
  refine lv_dup hx hb dX11_init_146 rfl ?_
  refine vz_callN (n := 0) (As := []) (rest := [.ref (s.heap.size + 79), .int 10, .ref (s.heap.size + 48)]) hC (zc_X7 l (s.heap.size + 79)) hC.2.2.2.2.2.2.2.2.2.2.2.2.1 zIM_X7_init kN_X7 zC_X7_init rfl (by decide +kernel) rfl ⟨Nat.le_of_ble_eq_true rfl, Nat.le_of_ble_eq_true rfl⟩ ⟨Nat.le_of_ble_eq_true rfl, Nat.le_of_ble_eq_true rfl⟩ hl.1 (Nat.le_of_ble_eq_true rfl) rfl dX11_init_147 hS atn (fun q hq => hq.elim (fun z => Or.inr (by omega)) (fun z => Or.inr (by omega))) (fun H2 locs2 z2 hp2 o2 hS2 => ?_)
  rw [hz] at hp2 z2 o2
  replace hO := vz_at_k hO (o2 _ (Nat.lt_add_right 80 hlt) (Nat.ne_of_lt (Nat.lt_add_right 79 hlt)))
  replace hq48 := vz_at_k hq48 (o2 _ (by show s.heap.size + 48 < _; omega) (by show s.heap.size + 48 ≠ _; omega))
  replace hR := zh_k hR zaX_a (fun q _ h => o2 q (by omega) (by omega))
  replace hR := zh_s (cof := zcX) hR zaX_c 81 (k0 := (7, 0)) rfl rfl (hp2 0 _ rfl)
  replace hR := zh_s (cof := zcX) hR zaX_c 82 (k0 := (20, 6)) rfl rfl (hp2 1 _ rfl)
  replace hR := zh_s (cof := zcX) hR zaX_c 83 (k0 := (20, 5)) rfl rfl (hp2 2 _ rfl)
  have hv0 := hp2 0 _ rfl
  replace hz : H2.size = s.heap.size + 82 := z2
  replace hS := hS2
  clear o2 hp2 z2 hS2 atn
  refine vz_ast hC (t0 := 4) (ci := 7) (j := 10) hq48 rfl hv0 rfl (by decide) (by decide) (by decide) (zfq_s rfl) dX11_init_150 hS (Or.inr (by omega)) (fun H1 locs1 z1 at1 o1 hS1 => ?_)
  replace hO := vz_at_k hO (o1 _ (by show h0 ≠ _; omega))
  replace hR := zh_kB hR zaX_a zB48 (fun q h => o1 q h)
  replace hq48 := at1
  replace hz : H1.size = s.heap.size + 82 := z1.trans hz
  replace hS := hS1
  clear o1 z1 hS1 at1 hv0
  refine lv_iinc (v := 11) (lv' := [(1, .int 11), (0, .ref h0)]) hx hb dX11_init_151 hl (k := 0) rfl (by decide) (by decide) rfl (fun ls hl => ?_)
  refine lv_goto (tgt := 129) hx hb dX11_init_154 (by decide) ?_
  refine lv_iload_n hx hb dX11_init_129 rfl (lv_at hl 0 rfl) ?_
  refine lv_aload_n hx hb dX11_init_130 rfl (lv_at hl 1 rfl) ?_
  refine vz_get hC inT_X11 hO rfl 10 (by decide) zF_X11_69 rfl dX11_init_131 ?_
  refine vz_alen hC hq48 4 rfl (v := 16) rfl dX11_init_134 ?_
  refine lv_icmp_ge (tgt := 157) hx hb dX11_init_135 (by decide) (fun h => absurd h (by decide)) (fun _ => ?_)
  refine lv_aload_n hx hb dX11_init_138 rfl (lv_at hl 1 rfl) ?_
  refine vz_get hC inT_X11 hO rfl 10 (by decide) zF_X11_69 rfl dX11_init_139 ?_
  refine lv_iload_n hx hb dX11_init_142 rfl (lv_at hl 0 rfl) ?_
  refine vz_new (ci := 7) (fs := [.null, .null, .int 0, .int 0, .int 0]) hC inT_X7 tyX7 tyX7_ok zK_X11_45 zI_X7 kN_X7 rfl (by decide +kernel) (Nat.le_of_ble_eq_true rfl) (Nat.le_of_ble_eq_true rfl) dX11_init_143 hS hz (fun H1 z1 at1 o1 hS1 => ?_)
  replace hO := vz_at_k hO (o1 _ (Nat.lt_add_right 82 hlt))
  replace hq48 := vz_at_k hq48 (o1 _ (by show s.heap.size + 48 < s.heap.size + 82; omega))
  replace hR := zh_k hR zaX_a (fun q _ h => o1 q h)
  have atn := at1
  replace hz : H1.size = s.heap.size + 83 := z1
  replace hS := hS1
  clear o1 at1 z1 hS1
  refine lv_dup hx hb dX11_init_146 rfl ?_
  refine vz_callN (n := 0) (As := []) (rest := [.ref (s.heap.size + 82), .int 11, .ref (s.heap.size + 48)]) hC (zc_X7 l (s.heap.size + 82)) hC.2.2.2.2.2.2.2.2.2.2.2.2.1 zIM_X7_init kN_X7 zC_X7_init rfl (by decide +kernel) rfl ⟨Nat.le_of_ble_eq_true rfl, Nat.le_of_ble_eq_true rfl⟩ ⟨Nat.le_of_ble_eq_true rfl, Nat.le_of_ble_eq_true rfl⟩ hl.1 (Nat.le_of_ble_eq_true rfl) rfl dX11_init_147 hS atn (fun q hq => hq.elim (fun z => Or.inr (by omega)) (fun z => Or.inr (by omega))) (fun H2 locs2 z2 hp2 o2 hS2 => ?_)
  rw [hz] at hp2 z2 o2
  replace hO := vz_at_k hO (o2 _ (Nat.lt_add_right 83 hlt) (Nat.ne_of_lt (Nat.lt_add_right 82 hlt)))
  replace hq48 := vz_at_k hq48 (o2 _ (by show s.heap.size + 48 < _; omega) (by show s.heap.size + 48 ≠ _; omega))
  replace hR := zh_k hR zaX_a (fun q _ h => o2 q (by omega) (by omega))
  replace hR := zh_s (cof := zcX) hR zaX_c 84 (k0 := (7, 0)) rfl rfl (hp2 0 _ rfl)
  replace hR := zh_s (cof := zcX) hR zaX_c 85 (k0 := (20, 6)) rfl rfl (hp2 1 _ rfl)
  replace hR := zh_s (cof := zcX) hR zaX_c 86 (k0 := (20, 5)) rfl rfl (hp2 2 _ rfl)
  have hv0 := hp2 0 _ rfl
  replace hz : H2.size = s.heap.size + 85 := z2
  replace hS := hS2
  clear o2 hp2 z2 hS2 atn
  refine vz_ast hC (t0 := 4) (ci := 7) (j := 11) hq48 rfl hv0 rfl (by decide) (by decide) (by decide) (zfq_s rfl) dX11_init_150 hS (Or.inr (by omega)) (fun H1 locs1 z1 at1 o1 hS1 => ?_)
  replace hO := vz_at_k hO (o1 _ (by show h0 ≠ _; omega))
  replace hR := zh_kB hR zaX_a zB48 (fun q h => o1 q h)
  replace hq48 := at1
  replace hz : H1.size = s.heap.size + 85 := z1.trans hz
  replace hS := hS1
  clear o1 z1 hS1 at1 hv0
  refine lv_iinc (v := 12) (lv' := [(1, .int 12), (0, .ref h0)]) hx hb dX11_init_151 hl (k := 0) rfl (by decide) (by decide) rfl (fun ls hl => ?_)
  refine lv_goto (tgt := 129) hx hb dX11_init_154 (by decide) ?_
  refine lv_iload_n hx hb dX11_init_129 rfl (lv_at hl 0 rfl) ?_
  refine lv_aload_n hx hb dX11_init_130 rfl (lv_at hl 1 rfl) ?_
  refine vz_get hC inT_X11 hO rfl 10 (by decide) zF_X11_69 rfl dX11_init_131 ?_
  refine vz_alen hC hq48 4 rfl (v := 16) rfl dX11_init_134 ?_
  refine lv_icmp_ge (tgt := 157) hx hb dX11_init_135 (by decide) (fun h => absurd h (by decide)) (fun _ => ?_)
  refine lv_aload_n hx hb dX11_init_138 rfl (lv_at hl 1 rfl) ?_
  refine vz_get hC inT_X11 hO rfl 10 (by decide) zF_X11_69 rfl dX11_init_139 ?_
  refine lv_iload_n hx hb dX11_init_142 rfl (lv_at hl 0 rfl) ?_
  refine vz_new (ci := 7) (fs := [.null, .null, .int 0, .int 0, .int 0]) hC inT_X7 tyX7 tyX7_ok zK_X11_45 zI_X7 kN_X7 rfl (by decide +kernel) (Nat.le_of_ble_eq_true rfl) (Nat.le_of_ble_eq_true rfl) dX11_init_143 hS hz (fun H1 z1 at1 o1 hS1 => ?_)
  replace hO := vz_at_k hO (o1 _ (Nat.lt_add_right 85 hlt))
  replace hq48 := vz_at_k hq48 (o1 _ (by show s.heap.size + 48 < s.heap.size + 85; omega))
  replace hR := zh_k hR zaX_a (fun q _ h => o1 q h)
  have atn := at1
  replace hz : H1.size = s.heap.size + 86 := z1
  replace hS := hS1
  clear o1 at1 z1 hS1
  refine lv_dup hx hb dX11_init_146 rfl ?_
  refine vz_callN (n := 0) (As := []) (rest := [.ref (s.heap.size + 85), .int 12, .ref (s.heap.size + 48)]) hC (zc_X7 l (s.heap.size + 85)) hC.2.2.2.2.2.2.2.2.2.2.2.2.1 zIM_X7_init kN_X7 zC_X7_init rfl (by decide +kernel) rfl ⟨Nat.le_of_ble_eq_true rfl, Nat.le_of_ble_eq_true rfl⟩ ⟨Nat.le_of_ble_eq_true rfl, Nat.le_of_ble_eq_true rfl⟩ hl.1 (Nat.le_of_ble_eq_true rfl) rfl dX11_init_147 hS atn (fun q hq => hq.elim (fun z => Or.inr (by omega)) (fun z => Or.inr (by omega))) (fun H2 locs2 z2 hp2 o2 hS2 => ?_)
  rw [hz] at hp2 z2 o2
  replace hO := vz_at_k hO (o2 _ (Nat.lt_add_right 86 hlt) (Nat.ne_of_lt (Nat.lt_add_right 85 hlt)))
  replace hq48 := vz_at_k hq48 (o2 _ (by show s.heap.size + 48 < _; omega) (by show s.heap.size + 48 ≠ _; omega))
  replace hR := zh_k hR zaX_a (fun q _ h => o2 q (by omega) (by omega))
  replace hR := zh_s (cof := zcX) hR zaX_c 87 (k0 := (7, 0)) rfl rfl (hp2 0 _ rfl)
  replace hR := zh_s (cof := zcX) hR zaX_c 88 (k0 := (20, 6)) rfl rfl (hp2 1 _ rfl)
  replace hR := zh_s (cof := zcX) hR zaX_c 89 (k0 := (20, 5)) rfl rfl (hp2 2 _ rfl)
  have hv0 := hp2 0 _ rfl
  replace hz : H2.size = s.heap.size + 88 := z2
  replace hS := hS2
  clear o2 hp2 z2 hS2 atn
  refine vz_ast hC (t0 := 4) (ci := 7) (j := 12) hq48 rfl hv0 rfl (by decide) (by decide) (by decide) (zfq_s rfl) dX11_init_150 hS (Or.inr (by omega)) (fun H1 locs1 z1 at1 o1 hS1 => ?_)
  replace hO := vz_at_k hO (o1 _ (by show h0 ≠ _; omega))
  replace hR := zh_kB hR zaX_a zB48 (fun q h => o1 q h)
  replace hq48 := at1
  replace hz : H1.size = s.heap.size + 88 := z1.trans hz
  replace hS := hS1
  clear o1 z1 hS1 at1 hv0
  refine lv_iinc (v := 13) (lv' := [(1, .int 13), (0, .ref h0)]) hx hb dX11_init_151 hl (k := 0) rfl (by decide) (by decide) rfl (fun ls hl => ?_)
  refine lv_goto (tgt := 129) hx hb dX11_init_154 (by decide) ?_
  refine lv_iload_n hx hb dX11_init_129 rfl (lv_at hl 0 rfl) ?_
  refine lv_aload_n hx hb dX11_init_130 rfl (lv_at hl 1 rfl) ?_
  refine vz_get hC inT_X11 hO rfl 10 (by decide) zF_X11_69 rfl dX11_init_131 ?_
  refine vz_alen hC hq48 4 rfl (v := 16) rfl dX11_init_134 ?_
  refine lv_icmp_ge (tgt := 157) hx hb dX11_init_135 (by decide) (fun h => absurd h (by decide)) (fun _ => ?_)
  refine lv_aload_n hx hb dX11_init_138 rfl (lv_at hl 1 rfl) ?_
  refine vz_get hC inT_X11 hO rfl 10 (by decide) zF_X11_69 rfl dX11_init_139 ?_
  refine lv_iload_n hx hb dX11_init_142 rfl (lv_at hl 0 rfl) ?_
  refine vz_new (ci := 7) (fs := [.null, .null, .int 0, .int 0, .int 0]) hC inT_X7 tyX7 tyX7_ok zK_X11_45 zI_X7 kN_X7 rfl (by decide +kernel) (Nat.le_of_ble_eq_true rfl) (Nat.le_of_ble_eq_true rfl) dX11_init_143 hS hz (fun H1 z1 at1 o1 hS1 => ?_)
  replace hO := vz_at_k hO (o1 _ (Nat.lt_add_right 88 hlt))
  replace hq48 := vz_at_k hq48 (o1 _ (by show s.heap.size + 48 < s.heap.size + 88; omega))
  replace hR := zh_k hR zaX_a (fun q _ h => o1 q h)
  have atn := at1
  replace hz : H1.size = s.heap.size + 89 := z1
  replace hS := hS1
  clear o1 at1 z1 hS1
  refine lv_dup hx hb dX11_init_146 rfl ?_
  refine vz_callN (n := 0) (As := []) (rest := [.ref (s.heap.size + 88), .int 13, .ref (s.heap.size + 48)]) hC (zc_X7 l (s.heap.size + 88)) hC.2.2.2.2.2.2.2.2.2.2.2.2.1 zIM_X7_init kN_X7 zC_X7_init rfl (by decide +kernel) rfl ⟨Nat.le_of_ble_eq_true rfl, Nat.le_of_ble_eq_true rfl⟩ ⟨Nat.le_of_ble_eq_true rfl, Nat.le_of_ble_eq_true rfl⟩ hl.1 (Nat.le_of_ble_eq_true rfl) rfl dX11_init_147 hS atn (fun q hq => hq.elim (fun z => Or.inr (by omega)) (fun z => Or.inr (by omega))) (fun H2 locs2 z2 hp2 o2 hS2 => ?_)
  rw [hz] at hp2 z2 o2
  replace hO := vz_at_k hO (o2 _ (Nat.lt_add_right 89 hlt) (Nat.ne_of_lt (Nat.lt_add_right 88 hlt)))
  replace hq48 := vz_at_k hq48 (o2 _ (by show s.heap.size + 48 < _; omega) (by show s.heap.size + 48 ≠ _; omega))
  replace hR := zh_k hR zaX_a (fun q _ h => o2 q (by omega) (by omega))
  replace hR := zh_s (cof := zcX) hR zaX_c 90 (k0 := (7, 0)) rfl rfl (hp2 0 _ rfl)
  replace hR := zh_s (cof := zcX) hR zaX_c 91 (k0 := (20, 6)) rfl rfl (hp2 1 _ rfl)
  replace hR := zh_s (cof := zcX) hR zaX_c 92 (k0 := (20, 5)) rfl rfl (hp2 2 _ rfl)
  have hv0 := hp2 0 _ rfl
  replace hz : H2.size = s.heap.size + 91 := z2
  replace hS := hS2
  clear o2 hp2 z2 hS2 atn
  refine vz_ast hC (t0 := 4) (ci := 7) (j := 13) hq48 rfl hv0 rfl (by decide) (by decide) (by decide) (zfq_s rfl) dX11_init_150 hS (Or.inr (by omega)) (fun H1 locs1 z1 at1 o1 hS1 => ?_)
  replace hO := vz_at_k hO (o1 _ (by show h0 ≠ _; omega))
  replace hR := zh_kB hR zaX_a zB48 (fun q h => o1 q h)
  replace hq48 := at1
  replace hz : H1.size = s.heap.size + 91 := z1.trans hz
  replace hS := hS1
  clear o1 z1 hS1 at1 hv0
  refine lv_iinc (v := 14) (lv' := [(1, .int 14), (0, .ref h0)]) hx hb dX11_init_151 hl (k := 0) rfl (by decide) (by decide) rfl (fun ls hl => ?_)
  refine lv_goto (tgt := 129) hx hb dX11_init_154 (by decide) ?_
  refine lv_iload_n hx hb dX11_init_129 rfl (lv_at hl 0 rfl) ?_
  refine lv_aload_n hx hb dX11_init_130 rfl (lv_at hl 1 rfl) ?_
  refine vz_get hC inT_X11 hO rfl 10 (by decide) zF_X11_69 rfl dX11_init_131 ?_
  refine vz_alen hC hq48 4 rfl (v := 16) rfl dX11_init_134 ?_
  refine lv_icmp_ge (tgt := 157) hx hb dX11_init_135 (by decide) (fun h => absurd h (by decide)) (fun _ => ?_)
  refine lv_aload_n hx hb dX11_init_138 rfl (lv_at hl 1 rfl) ?_
  refine vz_get hC inT_X11 hO rfl 10 (by decide) zF_X11_69 rfl dX11_init_139 ?_
  refine lv_iload_n hx hb dX11_init_142 rfl (lv_at hl 0 rfl) ?_
  refine vz_new (ci := 7) (fs := [.null, .null, .int 0, .int 0, .int 0]) hC inT_X7 tyX7 tyX7_ok zK_X11_45 zI_X7 kN_X7 rfl (by decide +kernel) (Nat.le_of_ble_eq_true rfl) (Nat.le_of_ble_eq_true rfl) dX11_init_143 hS hz (fun H1 z1 at1 o1 hS1 => ?_)
  replace hO := vz_at_k hO (o1 _ (Nat.lt_add_right 91 hlt))
  replace hq48 := vz_at_k hq48 (o1 _ (by show s.heap.size + 48 < s.heap.size + 91; omega))
  replace hR := zh_k hR zaX_a (fun q _ h => o1 q h)
  have atn := at1
  replace hz : H1.size = s.heap.size + 92 := z1
  replace hS := hS1
  clear o1 at1 z1 hS1
  refine lv_dup hx hb dX11_init_146 rfl ?_
  refine vz_callN (n := 0) (As := []) (rest := [.ref (s.heap.size + 91), .int 14, .ref (s.heap.size + 48)]) hC (zc_X7 l (s.heap.size + 91)) hC.2.2.2.2.2.2.2.2.2.2.2.2.1 zIM_X7_init kN_X7 zC_X7_init rfl (by decide +kernel) rfl ⟨Nat.le_of_ble_eq_true rfl, Nat.le_of_ble_eq_true rfl⟩ ⟨Nat.le_of_ble_eq_true rfl, Nat.le_of_ble_eq_true rfl⟩ hl.1 (Nat.le_of_ble_eq_true rfl) rfl dX11_init_147 hS atn (fun q hq => hq.elim (fun z => Or.inr (by omega)) (fun z => Or.inr (by omega))) (fun H2 locs2 z2 hp2 o2 hS2 => ?_)
  rw [hz] at hp2 z2 o2
  replace hO := vz_at_k hO (o2 _ (Nat.lt_add_right 92 hlt) (Nat.ne_of_lt (Nat.lt_add_right 91 hlt)))
  replace hq48 := vz_at_k hq48 (o2 _ (by show s.heap.size + 48 < _; omega) (by show s.heap.size + 48 ≠ _; omega))
  replace hR := zh_k hR zaX_a (fun q _ h => o2 q (by omega) (by omega))
  replace hR := zh_s (cof := zcX) hR zaX_c 93 (k0 := (7, 0)) rfl rfl (hp2 0 _ rfl)
  replace hR := zh_s (cof := zcX) hR zaX_c 94 (k0 := (20, 6)) rfl rfl (hp2 1 _ rfl)
  replace hR := zh_s (cof := zcX) hR zaX_c 95 (k0 := (20, 5)) rfl rfl (hp2 2 _ rfl)
  have hv0 := hp2 0 _ rfl
  replace hz : H2.size = s.heap.size + 94 := z2
  replace hS := hS2
  clear o2 hp2 z2 hS2 atn
  refine vz_ast hC (t0 := 4) (ci := 7) (j := 14) hq48 rfl hv0 rfl (by decide) (by decide) (by decide) (zfq_s rfl) dX11_init_150 hS (Or.inr (by omega)) (fun H1 locs1 z1 at1 o1 hS1 => ?_)
  replace hO := vz_at_k hO (o1 _ (by show h0 ≠ _; omega))
  replace hR := zh_kB hR zaX_a zB48 (fun q h => o1 q h)
  replace hq48 := at1
  replace hz : H1.size = s.heap.size + 94 := z1.trans hz
  replace hS := hS1
  clear o1 z1 hS1 at1 hv0
  refine lv_iinc (v := 15) (lv' := [(1, .int 15), (0, .ref h0)]) hx hb dX11_init_151 hl (k := 0) rfl (by decide) (by decide) rfl (fun ls hl => ?_)
  refine lv_goto (tgt := 129) hx hb dX11_init_154 (by decide) ?_
  refine lv_iload_n hx hb dX11_init_129 rfl (lv_at hl 0 rfl) ?_
  refine lv_aload_n hx hb dX11_init_130 rfl (lv_at hl 1 rfl) ?_
  refine vz_get hC inT_X11 hO rfl 10 (by decide) zF_X11_69 rfl dX11_init_131 ?_
  refine vz_alen hC hq48 4 rfl (v := 16) rfl dX11_init_134 ?_
  refine lv_icmp_ge (tgt := 157) hx hb dX11_init_135 (by decide) (fun h => absurd h (by decide)) (fun _ => ?_)
  refine lv_aload_n hx hb dX11_init_138 rfl (lv_at hl 1 rfl) ?_
  refine vz_get hC inT_X11 hO rfl 10 (by decide) zF_X11_69 rfl dX11_init_139 ?_
  refine lv_iload_n hx hb dX11_init_142 rfl (lv_at hl 0 rfl) ?_
  refine vz_new (ci := 7) (fs := [.null, .null, .int 0, .int 0, .int 0]) hC inT_X7 tyX7 tyX7_ok zK_X11_45 zI_X7 kN_X7 rfl (by decide +kernel) (Nat.le_of_ble_eq_true rfl) (Nat.le_of_ble_eq_true rfl) dX11_init_143 hS hz (fun H1 z1 at1 o1 hS1 => ?_)
  replace hO := vz_at_k hO (o1 _ (Nat.lt_add_right 94 hlt))
  replace hq48 := vz_at_k hq48 (o1 _ (by show s.heap.size + 48 < s.heap.size + 94; omega))
  replace hR := zh_k hR zaX_a (fun q _ h => o1 q h)
  have atn := at1
  replace hz : H1.size = s.heap.size + 95 := z1
  replace hS := hS1
  clear o1 at1 z1 hS1
  refine lv_dup hx hb dX11_init_146 rfl ?_
  refine vz_callN (n := 0) (As := []) (rest := [.ref (s.heap.size + 94), .int 15, .ref (s.heap.size + 48)]) hC (zc_X7 l (s.heap.size + 94)) hC.2.2.2.2.2.2.2.2.2.2.2.2.1 zIM_X7_init kN_X7 zC_X7_init rfl (by decide +kernel) rfl ⟨Nat.le_of_ble_eq_true rfl, Nat.le_of_ble_eq_true rfl⟩ ⟨Nat.le_of_ble_eq_true rfl, Nat.le_of_ble_eq_true rfl⟩ hl.1 (Nat.le_of_ble_eq_true rfl) rfl dX11_init_147 hS atn (fun q hq => hq.elim (fun z => Or.inr (by omega)) (fun z => Or.inr (by omega))) (fun H2 locs2 z2 hp2 o2 hS2 => ?_)
  rw [hz] at hp2 z2 o2
  replace hO := vz_at_k hO (o2 _ (Nat.lt_add_right 95 hlt) (Nat.ne_of_lt (Nat.lt_add_right 94 hlt)))
  replace hq48 := vz_at_k hq48 (o2 _ (by show s.heap.size + 48 < _; omega) (by show s.heap.size + 48 ≠ _; omega))
  replace hR := zh_k hR zaX_a (fun q _ h => o2 q (by omega) (by omega))
  replace hR := zh_s (cof := zcX) hR zaX_c 96 (k0 := (7, 0)) rfl rfl (hp2 0 _ rfl)
  replace hR := zh_s (cof := zcX) hR zaX_c 97 (k0 := (20, 6)) rfl rfl (hp2 1 _ rfl)
  replace hR := zh_s (cof := zcX) hR zaX_c 98 (k0 := (20, 5)) rfl rfl (hp2 2 _ rfl)
  have hv0 := hp2 0 _ rfl
  replace hz : H2.size = s.heap.size + 97 := z2
  replace hS := hS2
  clear o2 hp2 z2 hS2 atn
  refine vz_ast hC (t0 := 4) (ci := 7) (j := 15) hq48 rfl hv0 rfl (by decide) (by decide) (by decide) (zfq_s rfl) dX11_init_150 hS (Or.inr (by omega)) (fun H1 locs1 z1 at1 o1 hS1 => ?_)
  replace hO := vz_at_k hO (o1 _ (by show h0 ≠ _; omega))
  replace hR := zh_kB hR zaX_a zB48 (fun q h => o1 q h)
  replace hq48 := at1
  replace hz : H1.size = s.heap.size + 97 := z1.trans hz
  replace hS := hS1
  clear o1 z1 hS1 at1 hv0
  refine lv_iinc (v := 16) (lv' := [(1, .int 16), (0, .ref h0)]) hx hb dX11_init_151 hl (k := 0) rfl (by decide) (by decide) rfl (fun ls hl => ?_)
  refine lv_goto (tgt := 129) hx hb dX11_init_154 (by decide) ?_
  refine lv_iload_n hx hb dX11_init_129 rfl (lv_at hl 0 rfl) ?_
  refine lv_aload_n hx hb dX11_init_130 rfl (lv_at hl 1 rfl) ?_
  refine vz_get hC inT_X11 hO rfl 10 (by decide) zF_X11_69 rfl dX11_init_131 ?_
  refine vz_alen hC hq48 4 rfl (v := 16) rfl dX11_init_134 ?_
  refine lv_icmp_ge (tgt := 157) hx hb dX11_init_135 (by decide) (fun _ => ?_) (fun h => absurd (by decide) h)
  refine lv_aload_n hx hb dX11_init_157 rfl (lv_at hl 1 rfl) ?_
  refine lv_iconst (v := 4) hx hb dX11_init_158 (by decide) ?_
  refine vz_newq hC (N := 4) zK_X11_73 hC.2.2.2.2.2.2.2.2.2.2.2.2.2.2.2.2.2.2.2.2 5 rfl (by decide) (by decide) (by decide) (Nat.le_of_ble_eq_true rfl) (Nat.le_of_ble_eq_true rfl) dX11_init_159 hS hz (fun H1 z1 at1 o1 hS1 => ?_)
  replace hO := vz_at_k hO (o1 _ (Nat.lt_add_right 97 hlt))
  replace hq48 := vz_at_k hq48 (o1 _ (by show s.heap.size + 48 < s.heap.size + 97; omega))
  replace hR := zh_x (cof := zcX) (zh_k hR zaX_a (fun q _ h => o1 q h)) zaX_c rfl
  have hq97 := at1
  rw [zfq_0 (sz := s.heap.size) (b := 98) (t := 13)] at hq97
  replace hz : H1.size = s.heap.size + 98 := z1
  replace hS := hS1
  clear o1 at1 z1 hS1
  refine vz_putF hC inT_X11 tyX11 tyX11_ok nmX11 hO rfl 13 (by decide) zF_X11_75 rfl rfl rfl rfl (Nat.le_of_ble_eq_true rfl) dX11_init_162 hS (Or.inl rfl) (fun H1 locs1 z1 hO1 o1 hS1 => ?_)
  replace hO : va_at D vwCl (h0, .inr (10, [.ref (s.heap.size), .ref (s.heap.size + 2), .ref (s.heap.size + 4), .ref (s.heap.size + 15), .ref (s.heap.size + 26), .ref (s.heap.size + 31), .ref (s.heap.size + 36), .ref (s.heap.size + 39), .ref (s.heap.size + 42), .ref (s.heap.size + 46), .ref (s.heap.size + 48), .int 0, .int 0, .ref (s.heap.size + 97)])) H1 := hO1
  replace hR := zh_k hR zaX_a (fun q h _ => o1 q (Nat.ne_of_gt (Nat.lt_of_lt_of_le hlt h)))
  replace hq48 := vz_at_k hq48 (o1 _ (Nat.ne_of_gt (Nat.lt_add_right 48 hlt)))
  replace hq97 := vz_at_k hq97 (o1 _ (Nat.ne_of_gt (Nat.lt_add_right 97 hlt)))
  replace hz : H1.size = s.heap.size + 98 := z1.trans hz
  replace hS := hS1
  clear o1 z1 hS1 hO1
  refine lv_iconst (v := 0) hx hb dX11_init_165 (by decide) ?_
  refine lv_istore_n (lv' := [(1, .int 0), (0, .ref h0)]) hx hb dX11_init_166 rfl hl (by decide) rfl (fun ls hl => ?_)
  refine lv_iload_n hx hb dX11_init_167 rfl (lv_at hl 0 rfl) ?_
  refine lv_aload_n hx hb dX11_init_168 rfl (lv_at hl 1 rfl) ?_
  refine vz_get hC inT_X11 hO rfl 13 (by decide) zF_X11_75 rfl dX11_init_169 ?_
  refine vz_alen hC hq97 5 rfl (v := 4) rfl dX11_init_172 ?_
  refine lv_icmp_ge (tgt := 195) hx hb dX11_init_173 (by decide) (fun h => absurd h (by decide)) (fun _ => ?_)
  refine lv_aload_n hx hb dX11_init_176 rfl (lv_at hl 1 rfl) ?_
  refine vz_get hC inT_X11 hO rfl 13 (by decide) zF_X11_75 rfl dX11_init_177 ?_
  refine lv_iload_n hx hb dX11_init_180 rfl (lv_at hl 0 rfl) ?_
  refine vz_new (ci := 3) (fs := [.int 0, .null, .null, .null]) hC inT_X3 tyX3 tyX3_ok zK_X11_73 zI_X3 kN_X3 rfl (by decide +kernel) (Nat.le_of_ble_eq_true rfl) (Nat.le_of_ble_eq_true rfl) dX11_init_181 hS hz (fun H1 z1 at1 o1 hS1 => ?_)
  replace hO := vz_at_k hO (o1 _ (Nat.lt_add_right 98 hlt))
  replace hq48 := vz_at_k hq48 (o1 _ (by show s.heap.size + 48 < s.heap.size + 98; omega))
  replace hq97 := vz_at_k hq97 (o1 _ (by show s.heap.size + 97 < s.heap.size + 98; omega))
  replace hR := zh_k hR zaX_a (fun q _ h => o1 q h)
  have atn := at1
  replace hz : H1.size = s.heap.size + 99 := z1
  replace hS := hS1
  clear o1 at1 z1 hS1
  refine lv_dup hx hb dX11_init_184 rfl ?_
  refine vz_callN (n := 0) (As := []) (rest := [.ref (s.heap.size + 98), .int 0, .ref (s.heap.size + 97)]) hC (zc_X3 l (s.heap.size + 98)) hC.2.2.2.2.2.2.2.2.2.2.2.2.2.2.2.1 zIM_X3_init kN_X3 zC_X3_init rfl (by decide +kernel) rfl ⟨Nat.le_of_ble_eq_true rfl, Nat.le_of_ble_eq_true rfl⟩ ⟨Nat.le_of_ble_eq_true rfl, Nat.le_of_ble_eq_true rfl⟩ hl.1 (Nat.le_of_ble_eq_true rfl) rfl dX11_init_185 hS atn (fun q hq => hq.elim (fun z => Or.inr (by omega)) (fun z => Or.inr (by omega))) (fun H2 locs2 z2 hp2 o2 hS2 => ?_)
  rw [hz] at hp2 z2 o2
  replace hO := vz_at_k hO (o2 _ (Nat.lt_add_right 99 hlt) (Nat.ne_of_lt (Nat.lt_add_right 98 hlt)))
  replace hq48 := vz_at_k hq48 (o2 _ (by show s.heap.size + 48 < _; omega) (by show s.heap.size + 48 ≠ _; omega))
  replace hq97 := vz_at_k hq97 (o2 _ (by show s.heap.size + 97 < _; omega) (by show s.heap.size + 97 ≠ _; omega))
  replace hR := zh_k hR zaX_a (fun q _ h => o2 q (by omega) (by omega))
  replace hR := zh_s (cof := zcX) hR zaX_c 99 (k0 := (3, 0)) rfl rfl (hp2 0 _ rfl)
  replace hR := zh_s (cof := zcX) hR zaX_c 100 (k0 := (7, 0)) rfl rfl (hp2 1 _ rfl)
  replace hR := zh_s (cof := zcX) hR zaX_c 101 (k0 := (20, 6)) rfl rfl (hp2 2 _ rfl)
  replace hR := zh_s (cof := zcX) hR zaX_c 102 (k0 := (20, 5)) rfl rfl (hp2 3 _ rfl)
  replace hR := zh_s (cof := zcX) hR zaX_c 103 (k0 := (8, 0)) rfl rfl (hp2 4 _ rfl)
  replace hR := zh_s (cof := zcX) hR zaX_c 104 (k0 := (20, 40)) rfl rfl (hp2 5 _ rfl)
  replace hR := zh_s (cof := zcX) hR zaX_c 105 (k0 := (20, 40)) rfl rfl (hp2 6 _ rfl)
  replace hR := zh_s (cof := zcX) hR zaX_c 106 (k0 := (20, 40)) rfl rfl (hp2 7 _ rfl)
  replace hR := zh_s (cof := zcX) hR zaX_c 107 (k0 := (20, 40)) rfl rfl (hp2 8 _ rfl)
  replace hR := zh_s (cof := zcX) hR zaX_c 108 (k0 := (6, 0)) rfl rfl (hp2 9 _ rfl)
  replace hR := zh_s (cof := zcX) hR zaX_c 109 (k0 := (20, 8)) rfl rfl (hp2 10 _ rfl)
  replace hR := zh_s (cof := zcX) hR zaX_c 110 (k0 := (23, 8)) rfl rfl (hp2 11 _ rfl)
  replace hR := zh_s (cof := zcX) hR zaX_c 111 (k0 := (20, 31)) rfl rfl (hp2 12 _ rfl)
  have hv0 := hp2 0 _ rfl
  replace hz : H2.size = s.heap.size + 111 := z2
  replace hS := hS2
  clear o2 hp2 z2 hS2 atn
  refine vz_ast hC (t0 := 5) (ci := 3) (j := 0) hq97 rfl hv0 rfl (by decide) (by decide) (by decide) (zfq_s rfl) dX11_init_188 hS (Or.inr (by omega)) (fun H1 locs1 z1 at1 o1 hS1 => ?_)
  replace hO := vz_at_k hO (o1 _ (by show h0 ≠ _; omega))
  replace hq48 := vz_at_k hq48 (o1 _ (by show s.heap.size + 48 ≠ s.heap.size + 97; omega))
  replace hR := zh_kB hR zaX_a zB97 (fun q h => o1 q h)
  replace hq97 := at1
  replace hz : H1.size = s.heap.size + 111 := z1.trans hz
  replace hS := hS1
  clear o1 z1 hS1 at1 hv0
  refine lv_iinc (v := 1) (lv' := [(1, .int 1), (0, .ref h0)]) hx hb dX11_init_189 hl (k := 0) rfl (by decide) (by decide) rfl (fun ls hl => ?_)
  refine lv_goto (tgt := 167) hx hb dX11_init_192 (by decide) ?_
  refine lv_iload_n hx hb dX11_init_167 rfl (lv_at hl 0 rfl) ?_
  refine lv_aload_n hx hb dX11_init_168 rfl (lv_at hl 1 rfl) ?_
  refine vz_get hC inT_X11 hO rfl 13 (by decide) zF_X11_75 rfl dX11_init_169 ?_
  refine vz_alen hC hq97 5 rfl (v := 4) rfl dX11_init_172 ?_
  refine lv_icmp_ge (tgt := 195) hx hb dX11_init_173 (by decide) (fun h => absurd h (by decide)) (fun _ => ?_)
  refine lv_aload_n hx hb dX11_init_176 rfl (lv_at hl 1 rfl) ?_
  refine vz_get hC inT_X11 hO rfl 13 (by decide) zF_X11_75 rfl dX11_init_177 ?_
  refine lv_iload_n hx hb dX11_init_180 rfl (lv_at hl 0 rfl) ?_
  refine vz_new (ci := 3) (fs := [.int 0, .null, .null, .null]) hC inT_X3 tyX3 tyX3_ok zK_X11_73 zI_X3 kN_X3 rfl (by decide +kernel) (Nat.le_of_ble_eq_true rfl) (Nat.le_of_ble_eq_true rfl) dX11_init_181 hS hz (fun H1 z1 at1 o1 hS1 => ?_)
  replace hO := vz_at_k hO (o1 _ (Nat.lt_add_right 111 hlt))
  replace hq48 := vz_at_k hq48 (o1 _ (by show s.heap.size + 48 < s.heap.size + 111; omega))
  replace hq97 := vz_at_k hq97 (o1 _ (by show s.heap.size + 97 < s.heap.size + 111; omega))
  replace hR := zh_k hR zaX_a (fun q _ h => o1 q h)
  have atn := at1
  replace hz : H1.size = s.heap.size + 112 := z1
  replace hS := hS1
  clear o1 at1 z1 hS1
  refine lv_dup hx hb dX11_init_184 rfl ?_
  refine vz_callN (n := 0) (As := []) (rest := [.ref (s.heap.size + 111), .int 1, .ref (s.heap.size + 97)]) hC (zc_X3 l (s.heap.size + 111)) hC.2.2.2.2.2.2.2.2.2.2.2.2.2.2.2.1 zIM_X3_init kN_X3 zC_X3_init rfl (by decide +kernel) rfl ⟨Nat.le_of_ble_eq_true rfl, Nat.le_of_ble_eq_true rfl⟩ ⟨Nat.le_of_ble_eq_true rfl, Nat.le_of_ble_eq_true rfl⟩ hl.1 (Nat.le_of_ble_eq_true rfl) rfl dX11_init_185 hS atn (fun q hq => hq.elim (fun z => Or.inr (by omega)) (fun z => Or.inr (by omega))) (fun H2 locs2 z2 hp2 o2 hS2 => ?_)
  rw [hz] at hp2 z2 o2
  replace hO := vz_at_k hO (o2 _ (Nat.lt_add_right 112 hlt) (Nat.ne_of_lt (Nat.lt_add_right 111 hlt)))
  replace hq48 := vz_at_k hq48 (o2 _ (by show s.heap.size + 48 < _; omega) (by show s.heap.size + 48 ≠ _; omega))
  replace hq97 := vz_at_k hq97 (o2 _ (by show s.heap.size + 97 < _; omega) (by show s.heap.size + 97 ≠ _; omega))
  replace hR := zh_k hR zaX_a (fun q _ h => o2 q (by omega) (by omega))
  replace hR := zh_s (cof := zcX) hR zaX_c 112 (k0 := (3, 0)) rfl rfl (hp2 0 _ rfl)
  replace hR := zh_s (cof := zcX) hR zaX_c 113 (k0 := (7, 0)) rfl rfl (hp2 1 _ rfl)
  replace hR := zh_s (cof := zcX) hR zaX_c 114 (k0 := (20, 6)) rfl rfl (hp2 2 _ rfl)
  replace hR := zh_s (cof := zcX) hR zaX_c 115 (k0 := (20, 5)) rfl rfl (hp2 3 _ rfl)
  replace hR := zh_s (cof := zcX) hR zaX_c 116 (k0 := (8, 0)) rfl rfl (hp2 4 _ rfl)
  replace hR := zh_s (cof := zcX) hR zaX_c 117 (k0 := (20, 40)) rfl rfl (hp2 5 _ rfl)
  replace hR := zh_s (cof := zcX) hR zaX_c 118 (k0 := (20, 40)) rfl rfl (hp2 6 _ rfl)
  replace hR := zh_s (cof := zcX) hR zaX_c 119 (k0 := (20, 40)) rfl rfl (hp2 7 _ rfl)
  replace hR := zh_s (cof := zcX) hR zaX_c 120 (k0 := (20, 40)) rfl rfl (hp2 8 _ rfl)
  replace hR := zh_s (cof := zcX) hR zaX_c 121 (k0 := (6, 0)) rfl rfl (hp2 9 _ rfl)
  replace hR := zh_s (cof := zcX) hR zaX_c 122 (k0 := (20, 8)) rfl rfl (hp2 10 _ rfl)
  replace hR := zh_s (cof := zcX) hR zaX_c 123 (k0 := (23, 8)) rfl rfl (hp2 11 _ rfl)
  replace hR := zh_s (cof := zcX) hR zaX_c 124 (k0 := (20, 31)) rfl rfl (hp2 12 _ rfl)
  have hv0 := hp2 0 _ rfl
  replace hz : H2.size = s.heap.size + 124 := z2
  replace hS := hS2
  clear o2 hp2 z2 hS2 atn
  refine vz_ast hC (t0 := 5) (ci := 3) (j := 1) hq97 rfl hv0 rfl (by decide) (by decide) (by decide) (zfq_s rfl) dX11_init_188 hS (Or.inr (by omega)) (fun H1 locs1 z1 at1 o1 hS1 => ?_)
  replace hO := vz_at_k hO (o1 _ (by show h0 ≠ _; omega))
  replace hq48 := vz_at_k hq48 (o1 _ (by show s.heap.size + 48 ≠ s.heap.size + 97; omega))
  replace hR := zh_kB hR zaX_a zB97 (fun q h => o1 q h)
  replace hq97 := at1
  replace hz : H1.size = s.heap.size + 124 := z1.trans hz
  replace hS := hS1
  clear o1 z1 hS1 at1 hv0
  refine lv_iinc (v := 2) (lv' := [(1, .int 2), (0, .ref h0)]) hx hb dX11_init_189 hl (k := 0) rfl (by decide) (by decide) rfl (fun ls hl => ?_)
  refine lv_goto (tgt := 167) hx hb dX11_init_192 (by decide) ?_
  refine lv_iload_n hx hb dX11_init_167 rfl (lv_at hl 0 rfl) ?_
  refine lv_aload_n hx hb dX11_init_168 rfl (lv_at hl 1 rfl) ?_
  refine vz_get hC inT_X11 hO rfl 13 (by decide) zF_X11_75 rfl dX11_init_169 ?_
  refine vz_alen hC hq97 5 rfl (v := 4) rfl dX11_init_172 ?_
  refine lv_icmp_ge (tgt := 195) hx hb dX11_init_173 (by decide) (fun h => absurd h (by decide)) (fun _ => ?_)
  refine lv_aload_n hx hb dX11_init_176 rfl (lv_at hl 1 rfl) ?_
  refine vz_get hC inT_X11 hO rfl 13 (by decide) zF_X11_75 rfl dX11_init_177 ?_
  refine lv_iload_n hx hb dX11_init_180 rfl (lv_at hl 0 rfl) ?_
  refine vz_new (ci := 3) (fs := [.int 0, .null, .null, .null]) hC inT_X3 tyX3 tyX3_ok zK_X11_73 zI_X3 kN_X3 rfl (by decide +kernel) (Nat.le_of_ble_eq_true rfl) (Nat.le_of_ble_eq_true rfl) dX11_init_181 hS hz (fun H1 z1 at1 o1 hS1 => ?_)
  replace hO := vz_at_k hO (o1 _ (Nat.lt_add_right 124 hlt))
  replace hq48 := vz_at_k hq48 (o1 _ (by show s.heap.size + 48 < s.heap.size + 124; omega))
  replace hq97 := vz_at_k hq97 (o1 _ (by show s.heap.size + 97 < s.heap.size + 124; omega))
  replace hR := zh_k hR zaX_a (fun q _ h => o1 q h)
  have atn := at1
  replace hz : H1.size = s.heap.size + 125 := z1
  replace hS := hS1
  clear o1 at1 z1 hS1
  refine lv_dup hx hb dX11_init_184 rfl ?_
  refine vz_callN (n := 0) (As := []) (rest := [.ref (s.heap.size + 124), .int 2, .ref (s.heap.size + 97)]) hC (zc_X3 l (s.heap.size + 124)) hC.2.2.2.2.2.2.2.2.2.2.2.2.2.2.2.1 zIM_X3_init kN_X3 zC_X3_init rfl (by decide +kernel) rfl ⟨Nat.le_of_ble_eq_true rfl, Nat.le_of_ble_eq_true rfl⟩ ⟨Nat.le_of_ble_eq_true rfl, Nat.le_of_ble_eq_true rfl⟩ hl.1 (Nat.le_of_ble_eq_true rfl) rfl dX11_init_185 hS atn (fun q hq => hq.elim (fun z => Or.inr (by omega)) (fun z => Or.inr (by omega))) (fun H2 locs2 z2 hp2 o2 hS2 => ?_)
  rw [hz] at hp2 z2 o2
  replace hO := vz_at_k hO (o2 _ (Nat.lt_add_right 125 hlt) (Nat.ne_of_lt (Nat.lt_add_right 124 hlt)))
  replace hq48 := vz_at_k hq48 (o2 _ (by show s.heap.size + 48 < _; omega) (by show s.heap.size + 48 ≠ _; omega))
  replace hq97 := vz_at_k hq97 (o2 _ (by show s.heap.size + 97 < _; omega) (by show s.heap.size + 97 ≠ _; omega))
  replace hR := zh_k hR zaX_a (fun q _ h => o2 q (by omega) (by omega))
  replace hR := zh_s (cof := zcX) hR zaX_c 125 (k0 := (3, 0)) rfl rfl (hp2 0 _ rfl)
  replace hR := zh_s (cof := zcX) hR zaX_c 126 (k0 := (7, 0)) rfl rfl (hp2 1 _ rfl)
  replace hR := zh_s (cof := zcX) hR zaX_c 127 (k0 := (20, 6)) rfl rfl (hp2 2 _ rfl)
  replace hR := zh_s (cof := zcX) hR zaX_c 128 (k0 := (20, 5)) rfl rfl (hp2 3 _ rfl)
  replace hR := zh_s (cof := zcX) hR zaX_c 129 (k0 := (8, 0)) rfl rfl (hp2 4 _ rfl)
  replace hR := zh_s (cof := zcX) hR zaX_c 130 (k0 := (20, 40)) rfl rfl (hp2 5 _ rfl)
  replace hR := zh_s (cof := zcX) hR zaX_c 131 (k0 := (20, 40)) rfl rfl (hp2 6 _ rfl)
  replace hR := zh_s (cof := zcX) hR zaX_c 132 (k0 := (20, 40)) rfl rfl (hp2 7 _ rfl)
  replace hR := zh_s (cof := zcX) hR zaX_c 133 (k0 := (20, 40)) rfl rfl (hp2 8 _ rfl)
  replace hR := zh_s (cof := zcX) hR zaX_c 134 (k0 := (6, 0)) rfl rfl (hp2 9 _ rfl)
  replace hR := zh_s (cof := zcX) hR zaX_c 135 (k0 := (20, 8)) rfl rfl (hp2 10 _ rfl)
  replace hR := zh_s (cof := zcX) hR zaX_c 136 (k0 := (23, 8)) rfl rfl (hp2 11 _ rfl)
  replace hR := zh_s (cof := zcX) hR zaX_c 137 (k0 := (20, 31)) rfl rfl (hp2 12 _ rfl)
  have hv0 := hp2 0 _ rfl
  replace hz : H2.size = s.heap.size + 137 := z2
  replace hS := hS2
  clear o2 hp2 z2 hS2 atn
  refine vz_ast hC (t0 := 5) (ci := 3) (j := 2) hq97 rfl hv0 rfl (by decide) (by decide) (by decide) (zfq_s rfl) dX11_init_188 hS (Or.inr (by omega)) (fun H1 locs1 z1 at1 o1 hS1 => ?_)
  replace hO := vz_at_k hO (o1 _ (by show h0 ≠ _; omega))
  replace hq48 := vz_at_k hq48 (o1 _ (by show s.heap.size + 48 ≠ s.heap.size + 97; omega))
  replace hR := zh_kB hR zaX_a zB97 (fun q h => o1 q h)
  replace hq97 := at1
  replace hz : H1.size = s.heap.size + 137 := z1.trans hz
  replace hS := hS1
  clear o1 z1 hS1 at1 hv0
  refine lv_iinc (v := 3) (lv' := [(1, .int 3), (0, .ref h0)]) hx hb dX11_init_189 hl (k := 0) rfl (by decide) (by decide) rfl (fun ls hl => ?_)
  refine lv_goto (tgt := 167) hx hb dX11_init_192 (by decide) ?_
  refine lv_iload_n hx hb dX11_init_167 rfl (lv_at hl 0 rfl) ?_
  refine lv_aload_n hx hb dX11_init_168 rfl (lv_at hl 1 rfl) ?_
  refine vz_get hC inT_X11 hO rfl 13 (by decide) zF_X11_75 rfl dX11_init_169 ?_
  refine vz_alen hC hq97 5 rfl (v := 4) rfl dX11_init_172 ?_
  refine lv_icmp_ge (tgt := 195) hx hb dX11_init_173 (by decide) (fun h => absurd h (by decide)) (fun _ => ?_)
  refine lv_aload_n hx hb dX11_init_176 rfl (lv_at hl 1 rfl) ?_
  refine vz_get hC inT_X11 hO rfl 13 (by decide) zF_X11_75 rfl dX11_init_177 ?_
  refine lv_iload_n hx hb dX11_init_180 rfl (lv_at hl 0 rfl) ?_
  refine vz_new (ci := 3) (fs := [.int 0, .null, .null, .null]) hC inT_X3 tyX3 tyX3_ok zK_X11_73 zI_X3 kN_X3 rfl (by decide +kernel) (Nat.le_of_ble_eq_true rfl) (Nat.le_of_ble_eq_true rfl) dX11_init_181 hS hz (fun H1 z1 at1 o1 hS1 => ?_)
  replace hO := vz_at_k hO (o1 _ (Nat.lt_add_right 137 hlt))
  replace hq48 := vz_at_k hq48 (o1 _ (by show s.heap.size + 48 < s.heap.size + 137; omega))
  replace hq97 := vz_at_k hq97 (o1 _ (by show s.heap.size + 97 < s.heap.size + 137; omega))
  replace hR := zh_k hR zaX_a (fun q _ h => o1 q h)
  have atn := at1
  replace hz : H1.size = s.heap.size + 138 := z1
  replace hS := hS1
  clear o1 at1 z1 hS1
  refine lv_dup hx hb dX11_init_184 rfl ?_
  refine vz_callN (n := 0) (As := []) (rest := [.ref (s.heap.size + 137), .int 3, .ref (s.heap.size + 97)]) hC (zc_X3 l (s.heap.size + 137)) hC.2.2.2.2.2.2.2.2.2.2.2.2.2.2.2.1 zIM_X3_init kN_X3 zC_X3_init rfl (by decide +kernel) rfl ⟨Nat.le_of_ble_eq_true rfl, Nat.le_of_ble_eq_true rfl⟩ ⟨Nat.le_of_ble_eq_true rfl, Nat.le_of_ble_eq_true rfl⟩ hl.1 (Nat.le_of_ble_eq_true rfl) rfl dX11_init_185 hS atn (fun q hq => hq.elim (fun z => Or.inr (by omega)) (fun z => Or.inr (by omega))) (fun H2 locs2 z2 hp2 o2 hS2 => ?_)
  rw [hz] at hp2 z2 o2
  replace hO := vz_at_k hO (o2 _ (Nat.lt_add_right 138 hlt) (Nat.ne_of_lt (Nat.lt_add_right 137 hlt)))
  replace hq48 := vz_at_k hq48 (o2 _ (by show s.heap.size + 48 < _; omega) (by show s.heap.size + 48 ≠ _; omega))
  replace hq97 := vz_at_k hq97 (o2 _ (by show s.heap.size + 97 < _; omega) (by show s.heap.size + 97 ≠ _; omega))
  replace hR := zh_k hR zaX_a (fun q _ h => o2 q (by omega) (by omega))
  replace hR := zh_s (cof := zcX) hR zaX_c 138 (k0 := (3, 0)) rfl rfl (hp2 0 _ rfl)
  replace hR := zh_s (cof := zcX) hR zaX_c 139 (k0 := (7, 0)) rfl rfl (hp2 1 _ rfl)
  replace hR := zh_s (cof := zcX) hR zaX_c 140 (k0 := (20, 6)) rfl rfl (hp2 2 _ rfl)
  replace hR := zh_s (cof := zcX) hR zaX_c 141 (k0 := (20, 5)) rfl rfl (hp2 3 _ rfl)
  replace hR := zh_s (cof := zcX) hR zaX_c 142 (k0 := (8, 0)) rfl rfl (hp2 4 _ rfl)
  replace hR := zh_s (cof := zcX) hR zaX_c 143 (k0 := (20, 40)) rfl rfl (hp2 5 _ rfl)
  replace hR := zh_s (cof := zcX) hR zaX_c 144 (k0 := (20, 40)) rfl rfl (hp2 6 _ rfl)
  replace hR := zh_s (cof := zcX) hR zaX_c 145 (k0 := (20, 40)) rfl rfl (hp2 7 _ rfl)
  replace hR := zh_s (cof := zcX) hR zaX_c 146 (k0 := (20, 40)) rfl rfl (hp2 8 _ rfl)
  replace hR := zh_s (cof := zcX) hR zaX_c 147 (k0 := (6, 0)) rfl rfl (hp2 9 _ rfl)
  replace hR := zh_s (cof := zcX) hR zaX_c 148 (k0 := (20, 8)) rfl rfl (hp2 10 _ rfl)
  replace hR := zh_s (cof := zcX) hR zaX_c 149 (k0 := (23, 8)) rfl rfl (hp2 11 _ rfl)
  replace hR := zh_s (cof := zcX) hR zaX_c 150 (k0 := (20, 31)) rfl rfl (hp2 12 _ rfl)
  have hv0 := hp2 0 _ rfl
  replace hz : H2.size = s.heap.size + 150 := z2
  replace hS := hS2
  clear o2 hp2 z2 hS2 atn
  refine vz_ast hC (t0 := 5) (ci := 3) (j := 3) hq97 rfl hv0 rfl (by decide) (by decide) (by decide) (zfq_s rfl) dX11_init_188 hS (Or.inr (by omega)) (fun H1 locs1 z1 at1 o1 hS1 => ?_)
  replace hO := vz_at_k hO (o1 _ (by show h0 ≠ _; omega))
  replace hq48 := vz_at_k hq48 (o1 _ (by show s.heap.size + 48 ≠ s.heap.size + 97; omega))
  replace hR := zh_kB hR zaX_a zB97 (fun q h => o1 q h)
  replace hq97 := at1
  replace hz : H1.size = s.heap.size + 150 := z1.trans hz
  replace hS := hS1
  clear o1 z1 hS1 at1 hv0
  refine lv_iinc (v := 4) (lv' := [(1, .int 4), (0, .ref h0)]) hx hb dX11_init_189 hl (k := 0) rfl (by decide) (by decide) rfl (fun ls hl => ?_)
  refine lv_goto (tgt := 167) hx hb dX11_init_192 (by decide) ?_
  refine lv_iload_n hx hb dX11_init_167 rfl (lv_at hl 0 rfl) ?_
  refine lv_aload_n hx hb dX11_init_168 rfl (lv_at hl 1 rfl) ?_
  refine vz_get hC inT_X11 hO rfl 13 (by decide) zF_X11_75 rfl dX11_init_169 ?_
  refine vz_alen hC hq97 5 rfl (v := 4) rfl dX11_init_172 ?_
  refine lv_icmp_ge (tgt := 195) hx hb dX11_init_173 (by decide) (fun _ => ?_) (fun h => absurd (by decide) h)
  have hP : fx_P D cy LX (zaX h0 s.heap.size) zσX _ := zh_P hR zoX_lt (fun k hk => by cases hk; exact hO) (fun i k hk hb => ?_)
  · exact W.vret hx hb hr (fun t ht hW => ⟨⟨(), rfl, trivial, by show fx_P _ _ _ _ _ t.heap; rw [ht]; exact hP⟩, hS.F ht⟩) hS.2.2 dX11_init_195 hk
  · unfold zBX at hb
    rcases (by simpa using hb : i = 49 ∨ i = 50) with rfl | rfl
    · cases (show some ((24, 16) : Nat × Nat) = some k from hk)
      exact zfq_at hq48 (fun j hj => by unfold zfq; rw [if_pos hj]; exact congrArg some (zpast j hj))
    · cases (show some ((25, 4) : Nat × Nat) = some k from hk)
      exact zfq_at hq97 (fun j hj => by unfold zfq; rw [if_pos hj]; exact congrArg some (zmark j hj))
