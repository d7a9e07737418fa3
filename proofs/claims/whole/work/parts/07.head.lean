/-! ===== 07: words by their places, layout rows, getfield and putfield rows; the pieces of which a method's function is made ===== -/
theorem fx_l2 {a b : Cond} {L : List Cond} (h1 : a ∈ L) (h2 : b ∈ L) : ∀ w ∈ ([a, b] : List Cond), w ∈ L := List.forall_mem_cons.mpr ⟨h1, List.forall_mem_cons.mpr ⟨h2, fun _ h => absurd h List.not_mem_nil⟩⟩
theorem fx_l3 {a b c : Cond} {L : List Cond} (h1 : a ∈ L) (h2 : b ∈ L) (h3 : c ∈ L) : ∀ w ∈ ([a, b, c] : List Cond), w ∈ L := List.forall_mem_cons.mpr ⟨h1, fx_l2 h2 h3⟩
theorem fx_l4 {a b c d : Cond} {L : List Cond} (h1 : a ∈ L) (h2 : b ∈ L) (h3 : c ∈ L) (h4 : d ∈ L) : ∀ w ∈ ([a, b, c, d] : List Cond), w ∈ L := List.forall_mem_cons.mpr ⟨h1, fx_l3 h2 h3 h4⟩
theorem fx_inws {C : String} {T : u_T} {N : Nat} (is : List Nat) (h : ∀ k, k < N → lw_tbl[is.getD k 0]? = some (u_lay C T k) ∧ goodWord (u_lay C T k) = true) : ∀ w ∈ u_ws C T N, w ∈ fx_tb := by
  intro w hw
  obtain ⟨k, hk, rfl⟩ := List.mem_map.mp hw
  obtain ⟨h1, h2⟩ := h k (List.mem_range.mp hk)
  exact fx_tb_in (List.mem_of_getElem? h1) h2
theorem fx_ly {c off kd n i : Nat} (h : ∀ i, i < 151 → LX[i]? = some (c, 0) → LX[i + off]? = some (kd, n)) (hi : LX[i]? = some (c, 0)) : LX[i + off]? = some (kd, n) := h i (fx_len hi) hi
theorem fx_ce_sr {cy : Nat → ClassId} {ad : Nat → Nat} {σ : FH} {k x j : Nat} {k' : Nat × Nat} (hj : j ≠ 0) (hk : LX[j]? = some k') : fx_ce cy ad (fx_sr σ k x) j k' = fx_ce cy ad σ j k' := by
  have h10 : k'.1 ≠ 10 := by
    have key : ∀ j, j < 151 → j ≠ 0 → (LX.getD j (0, 0)).1 ≠ 10 := by decide +kernel
    have h := key j (fx_len hk) hj
    rwa [List.getD_eq_getElem?_getD, hk] at h
  unfold fx_ce
  split
  · have e : fx_fl ad (fx_sr σ k x) j k'.1 = fx_fl ad σ j k'.1 := by
      unfold fx_fl
      split <;> first | rfl | (exfalso; omega)
    rw [e]
  · rfl
/-- a condition that must hold; a value with a name; a call's answer and world -/
def fxG {β : Type} (P : Prop) [Decidable P] (o : Option β) : Option β := if P then o else none
def fxL {α β : Type} (e : α) (k : α → β) : β := k e
def fxBI {β : Type} (o : Option (Int32 × FH)) (k : Int32 → FH → Option β) : Option β := match o with | some (r, σ) => k r σ | none => none
def fxBJ {β : Type} (o : Option (Int64 × FH)) (k : Int64 → FH → Option β) : Option β := match o with | some (r, σ) => k r σ | none => none
def fxBV {β : Type} (o : Option FH) (k : FH → Option β) : Option β := match o with | some σ => k σ | none => none
def fxBP {α β : Type} (o : Option α) (k : α → Option β) : Option β := match o with | some r => k r | none => none
theorem fxG_e {β : Type} {P : Prop} [Decidable P] {o : Option β} {x : β} (h : fxG P o = some x) : P ∧ o = some x := by
  unfold fxG at h
  split at h
  · exact ⟨by assumption, h⟩
  · cases h
theorem fxL_e {α β : Type} {e : α} {k : α → β} {x : β} (h : fxL e k = x) : ∃ v, v = e ∧ k v = x := ⟨e, rfl, h⟩
theorem fxBI_e {β : Type} {o : Option (Int32 × FH)} {k : Int32 → FH → Option β} {x : β} (h : fxBI o k = some x) : ∃ r σ, o = some (r, σ) ∧ k r σ = some x := by
  cases o with
  | none => cases h
  | some q => exact ⟨q.1, q.2, rfl, h⟩
theorem fxBJ_e {β : Type} {o : Option (Int64 × FH)} {k : Int64 → FH → Option β} {x : β} (h : fxBJ o k = some x) : ∃ r σ, o = some (r, σ) ∧ k r σ = some x := by
  cases o with
  | none => cases h
  | some q => exact ⟨q.1, q.2, rfl, h⟩
theorem fxBV_e {β : Type} {o : Option FH} {k : FH → Option β} {x : β} (h : fxBV o k = some x) : ∃ σ, o = some σ ∧ k σ = some x := by
  cases o with
  | none => cases h
  | some q => exact ⟨q, rfl, h⟩
theorem fxBP_e {α β : Type} {o : Option α} {k : α → Option β} {x : β} (h : fxBP o k = some x) : ∃ r, o = some r ∧ k r = some x := by
  cases o with
  | none => cases h
  | some q => exact ⟨q, rfl, h⟩
theorem fxk1 {A B : Type} {K F : A → B} (h : K = F) {a : A} {x : B} (hf : K a = x) : F a = x := h ▸ hf
theorem fxk2 {A1 A2 B : Type} {K F : A1 → A2 → B} (h : K = F) {a1 : A1} {a2 : A2} {x : B} (hf : K a1 a2 = x) : F a1 a2 = x := h ▸ hf
theorem fxk3 {A1 A2 A3 B : Type} {K F : A1 → A2 → A3 → B} (h : K = F) {a1 : A1} {a2 : A2} {a3 : A3} {x : B} (hf : K a1 a2 a3 = x) : F a1 a2 a3 = x := h ▸ hf
theorem fxk4 {A1 A2 A3 A4 B : Type} {K F : A1 → A2 → A3 → A4 → B} (h : K = F) {a1 : A1} {a2 : A2} {a3 : A3} {a4 : A4} {x : B} (hf : K a1 a2 a3 a4 = x) : F a1 a2 a3 a4 = x := h ▸ hf
theorem fxk5 {A1 A2 A3 A4 A5 B : Type} {K F : A1 → A2 → A3 → A4 → A5 → B} (h : K = F) {a1 : A1} {a2 : A2} {a3 : A3} {a4 : A4} {a5 : A5} {x : B} (hf : K a1 a2 a3 a4 a5 = x) : F a1 a2 a3 a4 a5 = x := h ▸ hf
theorem fxk6 {A1 A2 A3 A4 A5 A6 B : Type} {K F : A1 → A2 → A3 → A4 → A5 → A6 → B} (h : K = F) {a1 : A1} {a2 : A2} {a3 : A3} {a4 : A4} {a5 : A5} {a6 : A6} {x : B} (hf : K a1 a2 a3 a4 a5 a6 = x) : F a1 a2 a3 a4 a5 a6 = x := h ▸ hf
theorem fx_Pe {D : va_G} {cy : Nat → ClassId} {Y : LY} {ad : Nat → Nat} {σ σ' : FH} {H : Heap} (h : σ' = σ) (hP : fx_P D cy Y ad σ H) : fx_P D cy Y ad σ' H := h ▸ hP
/-- an answer of a boolean method is 0 or 1 -/
def fx_bo (x : Int32) : Bool := x == 0 || x == 1
theorem fx_bon {x : Int32} (h : fx_bo x = true) : narrow .boolean (.int x) = .int x := by
  simp only [fx_bo, Bool.or_eq_true, beq_iff_eq] at h
  rcases h with rfl | rfl <;> rfl
/-- a number that is a char -/
def fx_ch (x : Int32) : Prop := narrow .char (.int x) = .int x ∧ fits .char (.int x) = true
def FU : Nat := 5000
theorem fx_ne32 {x k : Int32} {z : Int} (hk : k.toInt = z) (h : ¬ x = k) : x.toInt ≠ z := fun e => h (Int32.toInt_inj.mp (e.trans hk.symm))
/-- how the methods end -/
def fx_Qi (D : va_G) (cy : Nat → ClassId) (Y : LY) (ad : Nat → Nat) (A : Nat → Prop) (below : List Frame) (args : Array Value) (s : State) (v : Int32) (σ : FH) : State → Prop := MQ below (va_Qi (fun (r2 : Int32) (_ : Unit) => r2 = v) (fun _ t => fx_P D cy Y ad σ t.heap) A) args s 0 0 A
def fx_Ql (D : va_G) (cy : Nat → ClassId) (Y : LY) (ad : Nat → Nat) (A : Nat → Prop) (below : List Frame) (args : Array Value) (s : State) (v : Int64) (σ : FH) : State → Prop := MQ below (va_Ql (fun (r2 : Int64) (_ : Unit) => r2 = v) (fun _ t => fx_P D cy Y ad σ t.heap) A) args s 0 0 A
def fx_Qv (D : va_G) (cy : Nat → ClassId) (Y : LY) (ad : Nat → Nat) (A : Nat → Prop) (below : List Frame) (args : Array Value) (s : State) (σ : FH) : State → Prop := MQ below (va_Qv (fun (_ : Unit) => True) (fun _ t => fx_P D cy Y ad σ t.heap) A) args s 0 0 A
theorem fx_mi' {l : Launch} {y : MethodName} {cc : ByteArray} {nL : Nat} {ret : Option FieldType} {d : Nat} {Y : LY} {av : (Nat → Nat) → (Nat → Nat) → List Value} {σ σ' : FH} {r : Int32} {own : String} (hown : y.cls = own) (hy : plainName y.cls = true)
    (body : ∀ (p : Program) (e : Env) (s : State) (m : MethodId) (args : Array Value) (below : List Frame) (meth : Method) (c : Code) (D : va_G) (cy : Nat → ClassId) (ad ec : Nat → Nat) (A : Nat → Prop), fx_C p s m args c cc nL own D cy Y ad ec A → meth.sig.returnType = ret → meth.locks = false → fx_P D cy Y ad σ s.heap → va_S A s.heap s.heap [] →
      W p l e (fx_R d) s m args below meth c s.heap [] 0 0 (fx_Qi D cy Y ad A below args s r σ') (entryFrame m (av ad ec).toArray nL)) : fx_Mi l y cc nL ret d Y av σ r σ' := fx_mi hown hy (fun p e s m below meth c D cy ad ec A => body p e s m _ below meth c D cy ad ec A)
theorem fx_ml' {l : Launch} {y : MethodName} {cc : ByteArray} {nL : Nat} {ret : Option FieldType} {d : Nat} {Y : LY} {av : (Nat → Nat) → (Nat → Nat) → List Value} {σ σ' : FH} {r : Int64} {own : String} (hown : y.cls = own) (hy : plainName y.cls = true)
    (body : ∀ (p : Program) (e : Env) (s : State) (m : MethodId) (args : Array Value) (below : List Frame) (meth : Method) (c : Code) (D : va_G) (cy : Nat → ClassId) (ad ec : Nat → Nat) (A : Nat → Prop), fx_C p s m args c cc nL own D cy Y ad ec A → meth.sig.returnType = ret → meth.locks = false → fx_P D cy Y ad σ s.heap → va_S A s.heap s.heap [] →
      W p l e (fx_R d) s m args below meth c s.heap [] 0 0 (fx_Ql D cy Y ad A below args s r σ') (entryFrame m (av ad ec).toArray nL)) : fx_Ml l y cc nL ret d Y av σ r σ' := fx_ml hown hy (fun p e s m below meth c D cy ad ec A => body p e s m _ below meth c D cy ad ec A)
theorem fx_mv' {l : Launch} {y : MethodName} {cc : ByteArray} {nL : Nat} {ret : Option FieldType} {d : Nat} {Y : LY} {av : (Nat → Nat) → (Nat → Nat) → List Value} {σ σ' : FH} {own : String} (hown : y.cls = own) (hy : plainName y.cls = true)
    (body : ∀ (p : Program) (e : Env) (s : State) (m : MethodId) (args : Array Value) (below : List Frame) (meth : Method) (c : Code) (D : va_G) (cy : Nat → ClassId) (ad ec : Nat → Nat) (A : Nat → Prop), fx_C p s m args c cc nL own D cy Y ad ec A → meth.sig.returnType = ret → meth.locks = false → fx_P D cy Y ad σ s.heap → va_S A s.heap s.heap [] →
      W p l e (fx_R d) s m args below meth c s.heap [] 0 0 (fx_Qv D cy Y ad A below args s σ') (entryFrame m (av ad ec).toArray nL)) : fx_Mv l y cc nL ret d Y av σ σ' := fx_mv hown hy (fun p e s m below meth c D cy ad ec A => body p e s m _ below meth c D cy ad ec A)
section FXZ
variable {p : Program} {l : Launch} {e : Env} {R : Room} {s : State} {m : MethodId} {args : Array Value} {below : List Frame} {meth : Method} {c : Code} {H : Heap} {locs : List Loc} {cells slots : Nat} {Q : State → Prop}
variable {cc : ByteArray} {pc nL : Nat} {ls : Array Slot} {rest : List Value} {own : String} {D : va_G} {cy : Nat → ClassId} {Y : LY} {ad ec : Nat → Nat} {A : Nat → Prop} {σ σ' : FH}
theorem fx_ti {x y : Int32} (h : x = y) (k : W p l e R s m args below meth c H locs cells slots Q (F0 m pc ls (.int x :: rest))) : W p l e R s m args below meth c H locs cells slots Q (F0 m pc ls (.int y :: rest)) := h ▸ k
theorem fx_tl {x y : Int64} (h : x = y) (k : W p l e R s m args below meth c H locs cells slots Q (F0 m pc ls (.long x :: rest))) : W p l e R s m args below meth c H locs cells slots Q (F0 m pc ls (.long y :: rest)) := h ▸ k
theorem fx_iretf {v0 v : Int32} (hf : (some (v0, σ) : Option (Int32 × FH)) = some (v, σ')) (hC : fx_C p s m args c cc nL own D cy Y ad ec A) (hr : meth.sig.returnType = some .int) (hk : meth.locks = false) (hP : fx_P D cy Y ad σ H) (hS : va_S A s.heap H locs) (hdg : decode cc pc = .ok (.ireturn, 1)) :
    W p l e R s m args below meth c H locs 0 0 (fx_Qi D cy Y ad A below args s v σ') (F0 m pc ls [.int v0]) := by
  cases hf
  exact fx_iret hC hr hk hP hS hdg
theorem fx_zretf {v0 v : Int32} {ty : FieldType} (hn : narrow ty (.int v0) = .int v0) (hf : (some (v0, σ) : Option (Int32 × FH)) = some (v, σ')) (hC : fx_C p s m args c cc nL own D cy Y ad ec A) (hr : meth.sig.returnType = some ty) (hk : meth.locks = false) (hP : fx_P D cy Y ad σ H) (hS : va_S A s.heap H locs) (hdg : decode cc pc = .ok (.ireturn, 1)) :
    W p l e R s m args below meth c H locs 0 0 (fx_Qi D cy Y ad A below args s v σ') (F0 m pc ls [.int v0]) := by
  cases hf
  exact fx_zret hC hr hk hn hP hS hdg
theorem fx_lretf {v0 v : Int64} (hf : (some (v0, σ) : Option (Int64 × FH)) = some (v, σ')) (hC : fx_C p s m args c cc nL own D cy Y ad ec A) (hr : meth.sig.returnType = some .long) (hk : meth.locks = false) (hP : fx_P D cy Y ad σ H) (hS : va_S A s.heap H locs) (hdg : decode cc pc = .ok (.lreturn, 1)) :
    W p l e R s m args below meth c H locs 0 0 (fx_Ql D cy Y ad A below args s v σ') (F0 m pc ls [.long v0]) := by
  cases hf
  exact fx_lret hC hr hk hP hS hdg
theorem fx_vretf (hf : (some σ : Option FH) = some σ') (hC : fx_C p s m args c cc nL own D cy Y ad ec A) (hr : meth.sig.returnType = none) (hk : meth.locks = false) (hP : fx_P D cy Y ad σ H) (hS : va_S A s.heap H locs) (hdg : decode cc pc = .ok (.return_, 1)) :
    W p l e R s m args below meth c H locs 0 0 (fx_Qv D cy Y ad A below args s σ') (F0 m pc ls []) := by
  cases hf
  exact fx_vret hC hr hk hP hS hdg
theorem fx_iretp {v0 v : Int32} (hf : (some v0 : Option Int32) = some v) (hC : fx_C p s m args c cc nL own D cy Y ad ec A) (hr : meth.sig.returnType = some .int) (hk : meth.locks = false) (hP : fx_P D cy Y ad σ H) (hS : va_S A s.heap H locs) (hdg : decode cc pc = .ok (.ireturn, 1)) :
    W p l e R s m args below meth c H locs 0 0 (fx_Qi D cy Y ad A below args s v σ) (F0 m pc ls [.int v0]) := by
  cases hf
  exact fx_iret hC hr hk hP hS hdg
theorem fx_zretp {v0 v : Int32} {ty : FieldType} (hn : narrow ty (.int v0) = .int v0) (hf : (some v0 : Option Int32) = some v) (hC : fx_C p s m args c cc nL own D cy Y ad ec A) (hr : meth.sig.returnType = some ty) (hk : meth.locks = false) (hP : fx_P D cy Y ad σ H) (hS : va_S A s.heap H locs) (hdg : decode cc pc = .ok (.ireturn, 1)) :
    W p l e R s m args below meth c H locs 0 0 (fx_Qi D cy Y ad A below args s v σ) (F0 m pc ls [.int v0]) := by
  cases hf
  exact fx_zret hC hr hk hn hP hS hdg
theorem fx_lretp {v0 v : Int64} (hf : (some v0 : Option Int64) = some v) (hC : fx_C p s m args c cc nL own D cy Y ad ec A) (hr : meth.sig.returnType = some .long) (hk : meth.locks = false) (hP : fx_P D cy Y ad σ H) (hS : va_S A s.heap H locs) (hdg : decode cc pc = .ok (.lreturn, 1)) :
    W p l e R s m args below meth c H locs 0 0 (fx_Ql D cy Y ad A below args s v σ) (F0 m pc ls [.long v0]) := by
  cases hf
  exact fx_lret hC hr hk hP hS hdg
theorem fx_max (hC : fx_C p s m args c cc nL own D cy Y ad ec A) (hsz : ls.size = nL) {index : Nat} (hlink : Cond.methodLink own index Lib.Math.max.name ∈ fx_tb) (hstat : Cond.static Lib.Math.max.name ∈ fx_tb) (hini : Cond.initialized "java/lang/Math" ∈ fx_tb) (hcode : Cond.code Lib.Math.max.name Lib.Math.max.code 2 (some .int) ∈ fx_tb)
    (hframes : 1 ≤ R.frames) (hlocals : (rest.map fun v => v.category).sum + 13 ≤ R.locals) (hcs : cells ≤ R.cells ∧ slots ≤ R.slots) {x y : Int32} (hdg : decode cc pc = .ok (.invokestatic index, 3))
    (kk : W p l e R s m args below meth c H locs cells slots Q (F0 m (pc + 3) ls (.int (if x < y then y else x) :: rest))) : W p l e R s m args below meth c H locs cells slots Q (F0 m pc ls (.int y :: .int x :: rest)) := by
  obtain ⟨hx, hb, hml, hown, hts, -⟩ := hC
  exact va_mmax hx hb (by rw [hml, hsz]) hown (hts _ hlink) (hts _ hstat) (hts _ hini) (hts _ hcode) hframes hlocals hcs.1 hcs.2 hdg kk
theorem fx_min (hC : fx_C p s m args c cc nL own D cy Y ad ec A) (hsz : ls.size = nL) {index : Nat} (hlink : Cond.methodLink own index Lib.Math.min.name ∈ fx_tb) (hstat : Cond.static Lib.Math.min.name ∈ fx_tb) (hini : Cond.initialized "java/lang/Math" ∈ fx_tb) (hcode : Cond.code Lib.Math.min.name Lib.Math.min.code 2 (some .int) ∈ fx_tb)
    (hframes : 1 ≤ R.frames) (hlocals : (rest.map fun v => v.category).sum + 13 ≤ R.locals) (hcs : cells ≤ R.cells ∧ slots ≤ R.slots) {x y : Int32} (hdg : decode cc pc = .ok (.invokestatic index, 3))
    (kk : W p l e R s m args below meth c H locs cells slots Q (F0 m (pc + 3) ls (.int (if y < x then y else x) :: rest))) : W p l e R s m args below meth c H locs cells slots Q (F0 m pc ls (.int y :: .int x :: rest)) := by
  obtain ⟨hx, hb, hml, hown, hts, -⟩ := hC
  exact va_mmin hx hb (by rw [hml, hsz]) hown (hts _ hlink) (hts _ hstat) (hts _ hini) (hts _ hcode) hframes hlocals hcs.1 hcs.2 hdg kk
/-- an enum constant, its fields, the array of all -/
theorem fx_gete (hC : fx_C p s m args c cc nL own D cy Y ad ec A) (hS : va_S A s.heap H locs) {index : Nat} (k : Nat) {nm : String} (hk : k < fx_nm.length) (hnm : fx_nm.getD k "" = nm) (hlink : Cond.fieldLink own index "HalfShop$Word" nm "LHalfShop$Word;" ∈ fx_tb) (hdg : decode cc pc = .ok (.getstatic index, 3))
    (kk : W p l e R s m args below meth c H locs cells slots Q (F0 m (pc + 3) ls (.ref (ec k) :: rest))) : W p l e R s m args below meth c H locs cells slots Q (F0 m pc ls rest) := by
  obtain ⟨hx, hb, hml, hown, hts, -, -, -, hE⟩ := hC
  have h1 := (hE.1.1 k hk).1
  rw [hnm] at h1
  exact va_gets hx hb h1 hS hown (hts _ hlink) (fun _ h => h) hdg kk
theorem fx_getk (hC : fx_C p s m args c cc nL own D cy Y ad ec A) (hS : va_S A s.heap H locs) {index k : Nat} (hk : k < 24) (hlink : Cond.fieldLink own index "HalfShop$Word" "key" "J" ∈ fx_tb) (hdg : decode cc pc = .ok (.getfield index, 3))
    (kk : W p l e R s m args below meth c H locs cells slots Q (F0 m (pc + 3) ls (.long (fx_keys.getD k 0) :: rest))) : W p l e R s m args below meth c H locs cells slots Q (F0 m pc ls (.ref (ec k) :: rest)) := by
  obtain ⟨hx, hb, hml, hown, hts, -, -, -, hE⟩ := hC
  exact va_getX hx hb hE.2.1 hk hS hown (hts _ hlink) (fun _ h => h) hdg kk
def fx_resv (k : Nat) : Int32 := ([1, 1, 1, 1, 1, 1, 1, 1, 1, 1, 1, 1, 1, 1, 1, 1, 1, 1, 1, 1, 0, 0, 0, 0] : List Int32).getD k 0
theorem fx_getv (hC : fx_C p s m args c cc nL own D cy Y ad ec A) (hS : va_S A s.heap H locs) {index k : Nat} (hk : k < 24) (hlink : Cond.fieldLink own index "HalfShop$Word" "reserved" "Z" ∈ fx_tb) (hdg : decode cc pc = .ok (.getfield index, 3))
    (kk : W p l e R s m args below meth c H locs cells slots Q (F0 m (pc + 3) ls (.int (fx_resv k) :: rest))) : W p l e R s m args below meth c H locs cells slots Q (F0 m pc ls (.ref (ec k) :: rest)) := by
  obtain ⟨hx, hb, hml, hown, hts, -, -, -, hE⟩ := hC
  exact va_getE hx hb hE.1 (i := k) hk hS hown (q := ("HalfShop$Word", "reserved", "Z", [1, 1, 1, 1, 1, 1, 1, 1, 1, 1, 1, 1, 1, 1, 1, 1, 1, 1, 1, 1, 0, 0, 0, 0])) List.mem_cons_self (hts _ hlink) (fun _ h => h) hdg kk
theorem fx_gall (hC : fx_C p s m args c cc nL own D cy Y ad ec A) (hS : va_S A s.heap H locs) {index : Nat} (hlink : Cond.fieldLink own index "HalfShop$Word" "ALL" "[LHalfShop$Word;" ∈ fx_tb) (hdg : decode cc pc = .ok (.getstatic index, 3))
    (kk : W p l e R s m args below meth c H locs cells slots Q (F0 m (pc + 3) ls (.ref (ec 24) :: rest))) : W p l e R s m args below meth c H locs cells slots Q (F0 m pc ls rest) := by
  obtain ⟨hx, hb, hml, hown, hts, -, -, -, hE⟩ := hC
  exact va_gets hx hb hE.2.2.1 hS hown (hts _ hlink) (fun _ h => h) hdg kk
theorem fx_alenA (hC : fx_C p s m args c cc nL own D cy Y ad ec A) (hS : va_S A s.heap H locs) (hdg : decode cc pc = .ok (.arraylength, 1))
    (kk : W p l e R s m args below meth c H locs cells slots Q (F0 m (pc + 1) ls (.int 24 :: rest))) : W p l e R s m args below meth c H locs cells slots Q (F0 m pc ls (.ref (ec 24) :: rest)) := by
  obtain ⟨hx, hb, hml, hown, hts, -, -, -, hE⟩ := hC
  exact va_tlen hx hb hE.2.2.2.1 hS rfl hdg kk
theorem fx_aaldA (hC : fx_C p s m args c cc nL own D cy Y ad ec A) (hS : va_S A s.heap H locs) {i : Int32} (hin : vp_in i 24) (hdg : decode cc pc = .ok (.aaload, 1))
    (kk : W p l e R s m args below meth c H locs cells slots Q (F0 m (pc + 1) ls (.ref (ec i.toNatClampNeg) :: rest))) : W p l e R s m args below meth c H locs cells slots Q (F0 m pc ls (.int i :: .ref (ec 24) :: rest)) := by
  obtain ⟨hx, hb, hml, hown, hts, -, -, -, hE⟩ := hC
  exact vb_tq hx hb hE.2.2.2.1 hS hin rfl hdg kk
theorem fx_lds (hC : fx_C p s m args c cc nL "HalfShop$Tokens" D cy Y ad ec A) (hdg : decode cc pc = .ok (.ldc 76, 2))
    (kk : W p l e R s m args below meth c H locs cells slots Q (F0 m (pc + 2) ls (.ref (ec 25) :: rest))) : W p l e R s m args below meth c H locs cells slots Q (F0 m pc ls rest) := by
  obtain ⟨hx, hb, hml, hown, hts, -, -, -, hE⟩ := hC
  exact va_ldcS hx hb hown hE.2.2.2.2.2.2.1 hdg kk
theorem fx_gcs (hC : fx_C p s m args c cc nL own D cy Y ad ec A) (hS : va_S A s.heap H locs) {index : Nat} (hlink : Cond.fieldLink own index "java/lang/String" "COMPACT_STRINGS" "Z" ∈ fx_tb) (hdg : decode cc pc = .ok (.getstatic index, 3))
    (kk : W p l e R s m args below meth c H locs cells slots Q (F0 m (pc + 3) ls (.int 1 :: rest))) : W p l e R s m args below meth c H locs cells slots Q (F0 m pc ls rest) := by
  obtain ⟨hx, hb, hml, hown, hts, -, -, -, hE⟩ := hC
  exact va_gets hx hb hE.2.2.2.2.2.1 hS hown (hts _ hlink) (fun _ h => h) hdg kk
theorem fx_gsc (hC : fx_C p s m args c cc nL own D cy Y ad ec A) (hS : va_S A s.heap H locs) {index : Nat} (hlink : Cond.fieldLink own index "java/lang/String" "coder" "B" ∈ fx_tb) (hdg : decode cc pc = .ok (.getfield index, 3))
    (kk : W p l e R s m args below meth c H locs cells slots Q (F0 m (pc + 3) ls (.int 0 :: rest))) : W p l e R s m args below meth c H locs cells slots Q (F0 m pc ls (.ref (ec 25) :: rest)) := by
  obtain ⟨hx, hb, hml, hown, hts, -, -, -, hE⟩ := hC
  exact vk_getf hx hb (hE.2.2.2.2.1.1 0 (by decide)).2.1 hS hown (hts _ hlink) (fun _ h => h) hdg kk
theorem fx_gsv (hC : fx_C p s m args c cc nL own D cy Y ad ec A) (hS : va_S A s.heap H locs) {index : Nat} (hlink : Cond.fieldLink own index "java/lang/String" "value" "[B" ∈ fx_tb) (hdg : decode cc pc = .ok (.getfield index, 3))
    (kk : W p l e R s m args below meth c H locs cells slots Q (F0 m (pc + 3) ls (.ref (ec 26) :: rest))) : W p l e R s m args below meth c H locs cells slots Q (F0 m pc ls (.ref (ec 25) :: rest)) := by
  obtain ⟨hx, hb, hml, hown, hts, -, -, -, hE⟩ := hC
  exact vk_getf hx hb (hE.2.2.2.2.1.1 0 (by decide)).2.2.1 hS hown (hts _ hlink) (fun _ h => h) hdg kk
def fx_sgn : List Int32 := [40, 41, 60, 61, 43, 45, 42, 59]
theorem fx_bald (hC : fx_C p s m args c cc nL own D cy Y ad ec A) (hS : va_S A s.heap H locs) {i : Int32} (hin : vp_in i 8) (hdg : decode cc pc = .ok (.baload, 1))
    (kk : W p l e R s m args below meth c H locs cells slots Q (F0 m (pc + 1) ls (.int (fx_sgn.getD i.toNatClampNeg 0) :: rest))) : W p l e R s m args below meth c H locs cells slots Q (F0 m pc ls (.int i :: .ref (ec 26) :: rest)) := by
  obtain ⟨hx, hb, hml, hown, hts, -, -, -, hE⟩ := hC
  exact va_tb hx hb (hE.2.2.2.2.1.1 0 (by decide)).2.2.2 hS hin rfl hdg kk
theorem fx_alenB (hC : fx_C p s m args c cc nL own D cy Y ad ec A) (hS : va_S A s.heap H locs) (hdg : decode cc pc = .ok (.arraylength, 1))
    (kk : W p l e R s m args below meth c H locs cells slots Q (F0 m (pc + 1) ls (.int 8 :: rest))) : W p l e R s m args below meth c H locs cells slots Q (F0 m pc ls (.ref (ec 26) :: rest)) := by
  obtain ⟨hx, hb, hml, hown, hts, -, -, -, hE⟩ := hC
  exact va_tlen hx hb (hE.2.2.2.2.1.1 0 (by decide)).2.2.2 hS rfl hdg kk
theorem fx_nest1 (hC : fx_C p s m args c cc nL own D cy Y ad ec A) : va_Nw (.methodLinkNest RX7 133 yX11_standing "HalfShop") s := by
  obtain ⟨-, -, -, -, -, -, -, -, hE⟩ := hC
  exact hE.2.2.2.2.2.2.2.1
theorem fx_nest2 (hC : fx_C p s m args c cc nL own D cy Y ad ec A) : va_Nw (.methodLinkNest RX4 205 yX2_readLevel "HalfShop") s := by
  obtain ⟨-, -, -, -, -, -, -, -, hE⟩ := hC
  exact hE.2.2.2.2.2.2.2.2
/-- a call of a method of the text -/
theorem fx_runVS {y : MethodName} {bytes : ByteArray} {maxL d n index : Nat} {ret : Option FieldType} {As : List Value} {Qc : Array Value → State → Outcome → State → Prop} (hC : fx_C p s m args c cc nL own D cy Y ad ec A) (hP : fx_P D cy Y ad σ H) (hS : va_S A s.heap H locs)
    (hM : Met l y (.code y bytes maxL ret :: fx_tb) (fx_R d) (va_Pc (.ref (ec 25) :: As) (fx_B D cy Y ad ec H.size σ)) Qc 0 0 (fx_A Y ad H.size))
    (hw : ∀ w ∈ ([.methodLink own index y, .instanceMethod y, .selects "java/lang/String" y y, .initialized "java/lang/String"] : List Cond), w ∈ fx_tb) (hcd : Cond.code y bytes maxL ret ∈ fx_tb)
    (hd : y.cls = "java/lang/String" ∧ y.cls ≠ "java/lang/invoke/MethodHandle" ∧ y.cls ≠ "java/lang/invoke/VarHandle" ∧ (parseMethodDescriptor y.desc).map (fun d => d.parameters.length) = some n) (hn : As.length = n) (hR : d + 1 ≤ R.frames ∧ 8 + (maxL + 11) + 64 * d ≤ R.locals)
    (hcs : cells ≤ R.cells ∧ slots ≤ R.slots) (hsz : ls.size = nL) (hst : (rest.map fun v => v.category).sum ≤ 8) {st : List Value} (hs : st = As.reverse ++ .ref (ec 25) :: rest) (hdg : decode cc pc = .ok (.invokevirtual index, 3)) :
    va_Run p l e R s m args below meth c H locs cells slots 0 0 (F0 m pc ls st) rest (Qc (Value.ref (ec 25) :: As).toArray) (fx_A Y ad H.size) := by
  have hcl := fx_call hC hP hS
  obtain ⟨hx, hb, hml, hown, hts, -, -, -, hE⟩ := hC
  have hrv := vk_recv hE.2.2.2.2.1 (i := 0) (by decide) hS
  exact va_runV (As := As) (rest := rest) ⟨hx, hb, hml, hown, hts⟩ hM (cwV n hts (fx_gl hw (fx_gc hcd)) rfl rfl rfl hd hR) ⟨fx_blind, hrv, fun U hU hW => ⟨rfl, hcl U hU hW⟩⟩ rfl hn hsz hs (lv_room hst) hdg hcs
end FXZ
theorem fx_bof {x : Int32} (h : fx_bo x = true) : fits .boolean (.int x) = true := by
  simp only [fx_bo, Bool.or_eq_true, beq_iff_eq] at h
  rcases h with rfl | rfl <;> rfl
theorem fx_boB {x : Int32} (h : fx_bo x = true) : narrow .byte (.int x) = .int x := by
  simp only [fx_bo, Bool.or_eq_true, beq_iff_eq] at h
  rcases h with rfl | rfl <;> rfl
def fx_chb (x : Int32) : Bool := decide (¬ x < 0) && decide (x < 65536)
theorem fx_chn {x : Int32} (h : fx_chb x = true) : narrow .char (.int x) = .int x ∧ fits .char (.int x) = true := by
  simp only [fx_chb, Bool.and_eq_true, decide_eq_true_eq] at h
  obtain ⟨j, hj, rfl⟩ := nI_of h.1
  exact pk_charN ((nI_ltI hj (b := 65536) (by decide)).mp h.2)
def fx_in (i : Int32) (n : Nat) : Bool := decide (¬ (i < 0 ∨ n ≤ i.toNatClampNeg))
theorem fx_inp {i : Int32} {n : Nat} (h : fx_in i n = true) : vp_in i n := by
  have h2 : ¬ (i < 0 ∨ n ≤ i.toNatClampNeg) := of_decide_eq_true h
  exact h2
theorem fx_inl {i : Int32} {n : Nat} (h : fx_in i n = true) : i.toNatClampNeg < n := Nat.not_le.mp fun q => fx_inp h (Or.inr q)
theorem fx_pastK {i : Int32} (h : fx_in i 16 = true) : LX[51 + 3 * i.toNatClampNeg]? = some (7, 0) := by
  have key : ∀ j, j < 16 → LX[51 + 3 * j]? = some (7, 0) := by decide +kernel
  exact key _ (fx_inl h)
theorem fx_markK {i : Int32} (h : fx_in i 4 = true) : LX[99 + 13 * i.toNatClampNeg]? = some (3, 0) := by
  have key : ∀ j, j < 4 → LX[99 + 13 * j]? = some (3, 0) := by decide +kernel
  exact key _ (fx_inl h)
