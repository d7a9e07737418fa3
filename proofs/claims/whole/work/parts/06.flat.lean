/-! ===== the words of all methods: those of the tables that stay; the constants: the enum Word, its array, the one text ===== -/
def fx_tb : List Cond := lw_tbl.filter goodWord
theorem fx_tb_in {w : Cond} (h : w ∈ lw_tbl) (hg : goodWord w = true) : w ∈ fx_tb := List.mem_filter.mpr ⟨h, hg⟩
theorem fx_tb_good : GoodIn fx_tb fx_tb := fun _ hw => ⟨hw, good_of_word (List.mem_filter.mp hw).2⟩
theorem fx_tb_ok {args : Array Value} {s : State} (h : ∀ w ∈ lw_tbl, w.before args s = true) : ∀ w ∈ fx_tb, w.before args s = true := fun w hw => h w (List.mem_filter.mp hw).1
theorem fx_gc {y : MethodName} {cc : ByteArray} {nL : Nat} {ret : Option FieldType} (h : Cond.code y cc nL ret ∈ fx_tb) : GoodIn fx_tb (.code y cc nL ret :: fx_tb) := fun w hw => (List.mem_cons.mp hw).elim (fun e => e ▸ fx_tb_good _ h) (fun h => fx_tb_good w h)
theorem fx_gl {ws a : List Cond} (h : ∀ w ∈ a, w ∈ fx_tb) (hg : GoodIn fx_tb ws) : GoodIn fx_tb (a ++ ws) := fun w hw => (List.mem_append.mp hw).elim (fun q => fx_tb_good w (h w q)) (hg w)
def fx_nm : List String := ["WARE", "WHOLE", "DONE", "PARTY", "SEATS", "FOR", "FINE", "WORKS", "WORK", "STOP", "JOIN", "LEND", "WEEK", "PLAIN", "BRIDGE", "LETTER", "CLOCK", "NOT", "AND", "OR", "SO", "HALF", "VOTES", "DATE"]
def fx_F : List (String × String × String × List Int32) := [("HalfShop$Word", "reserved", "Z", [1, 1, 1, 1, 1, 1, 1, 1, 1, 1, 1, 1, 1, 1, 1, 1, 1, 1, 1, 1, 0, 0, 0, 0])]
def fx_keys : List Int64 := [755269, 24395141, 146885, 16829081, 20088467, 6642, 206277, 24627571, 769611, 643568, 343342, 398788, 758955, 17171758, 86282469, 408572082, 3554411, 14836, 1476, 498, 623, 263558, 23580851, 132741]
/-- the constants at their addresses ec 0 .. 23 (Word), 24 (ALL), 25 and 26 (the text of the signs and its bytes) -/
def fx_E (ec : Nat → Nat) (A : Nat → Prop) (U : State) (H : Heap) : Prop :=
  va_En "HalfShop$Word" "LHalfShop$Word;" fx_nm fx_F ec A U H ∧ va_Ef 24 "HalfShop$Word" "key" "J" (fun k => .long (fx_keys.getD k 0)) ec A U H ∧ va_Z "HalfShop$Word" "ALL" "[LHalfShop$Word;" (.ref (ec 24)) A U H ∧ va_T (.object "HalfShop$Word") (ec 24) 24 (fun j => .ref (ec j)) A U H ∧
  vk_S 1 [8] [[40, 41, 60, 61, 43, 45, 42, 59]] (fun _ => ec 25) (fun _ => ec 26) A U H ∧ va_Z "java/lang/String" "COMPACT_STRINGS" "Z" (.int 1) A U H ∧ vk_R "HalfShop$Tokens" 76 "()<=+-*;" (ec 25) U ∧ va_Nw (.methodLinkNest "HalfShop$State" 133 yX11_standing "HalfShop") U ∧ va_Nw (.methodLinkNest "HalfShop$Reader" 205 yX2_readLevel "HalfShop") U
theorem fx_E.go {ec : Nat → Nat} {A B : Nat → Prop} {s U : State} {H : Heap} {locs : List Loc} (h : fx_E ec A s s.heap) (hS : va_S A s.heap H locs) (hAB : ∀ q, B q → A q) (hU : U.heap = H) (hW : s.WarmedH U.vm) : fx_E ec B U U.heap := by
  obtain ⟨h1, h2, h3, h4, h5, h6, h7, h8, h9⟩ := h
  have hk := hS.2.1
  rw [hU]
  exact ⟨((h1.kept hk).moved hW.alike).narrow hAB, ((h2.kept hk).moved hW.alike).narrow hAB, ((h3.kept hk).moved hW.alike).narrow hAB, ((h4.kept hk).moved hW.alike).narrow hAB, ((h5.kept hk).moved hW.alike).narrow hAB, ((h6.kept hk).moved hW.alike).narrow hAB, h7.warm hW, h8.warmM hW, h9.warmM hW⟩
theorem fx_E.same {ec : Nat → Nat} {A : Nat → Prop} {u U : State} {H : Heap} (hv : U.vm = u.vm) (h : fx_E ec A u H) : fx_E ec A U H := by
  obtain ⟨h1, h2, h3, h4, h5, h6, h7, h8, h9⟩ := h
  have ha : u.vm.Alike U.vm := by rw [hv]; exact Vm.Alike.refl _
  exact ⟨h1.moved ha, h2.moved ha, h3.moved ha, h4.moved ha, h5.moved ha, h6.moved ha, h7.same hv, h8.same rfl hv.symm, h9.same rfl hv.symm⟩
/-! ===== the flat world: cells by number, ints and longs by cell and place, the four movable references of the class ===== -/
/-- ints of a cell by place; longs; the references of the class's own object that move -/
abbrev FH : Type := (Nat → Nat → Int32) × (Nat → Nat → Int64) × (Nat → Nat)
def fx_si (σ : FH) (a k : Nat) (v : Int32) : FH := (fun b => if b = a then upd (σ.1 a) k v else σ.1 b, σ.2)
def fx_sl (σ : FH) (a k : Nat) (v : Int64) : FH := (σ.1, fun b => if b = a then vp_updL (σ.2.1 a) k v else σ.2.1 b, σ.2.2)
def fx_sr (σ : FH) (k : Nat) (v : Nat) : FH := (σ.1, σ.2.1, fun j => if j = k then v else σ.2.2 j)
/-- a layout: kind and length of each cell. kinds 0 .. 11: objects of vwCl; 20 int, 21 long, 22 char, 23 boolean, 24 State, 25 Mark -/
abbrev LY : Type := List (Nat × Nat)
def LX : LY := [(10,0),(4,0),(2,0),(9,0),(22,1000),(0,0),(20,32),(7,0),(20,6),(20,5),(7,0),(20,6),(20,5),(6,0),(20,8),(23,8),(20,31)] ++
  ([(5,0),(21,6),(20,6),(20,6),(20,6),(21,5),(20,5),(20,5),(1,0),(20,1000),(20,32)] ++ ([(5,0),(21,6),(20,6),(20,6),(20,6),(21,5),(20,5),(20,5),(1,0),(20,1000),(20,32)] ++
  ([(8,0),(20,40),(20,40),(20,40),(20,40)] ++ ([(8,0),(20,40),(20,40),(20,40),(20,40)] ++ ([(24,16),(25,4)] ++
  ((List.replicate 16 [(7,0),(20,6),(20,5)]).flatten ++ (List.replicate 4 [(3,0),(7,0),(20,6),(20,5),(8,0),(20,40),(20,40),(20,40),(20,40),(6,0),(20,8),(23,8),(20,31)]).flatten))))))
def LM : LY := [(11,0),(20,1000),(20,6),(21,12),(21,10),(20,12),(20,12),(20,12),(20,10),(20,10),(20,2),(20,2),(20,2000),(20,7),(23,7),(20,7),(20,7),(20,7),(20,7),(20,7),(20,7),(20,7),(20,7),(20,7),(20,20),(20,6),(20,240),(20,240),(20,240),(20,240),(20,5),(20,40),(23,40),(20,14),(20,14),(20,14),(20,56),(20,224),(23,4),(23,1891)]
/-- what an object's fields hold, by its kind -/
def fx_fl (ad : Nat → Nat) (σ : FH) (i : Nat) : Nat → List Value
  | 0 => [.ref (ad (i + 1)), .int (σ.1 i 1), .int (σ.1 i 2)]
  | 1 => [.ref (ad (i + 1)), .int (σ.1 i 1), .ref (ad (i + 2))]
  | 2 => [.ref (ad (i + 1))]
  | 3 => [.int (σ.1 i 0), .ref (ad (i + 1)), .ref (ad (i + 4)), .ref (ad (i + 9))]
  | 4 => [.ref (ad (i + 2)), .ref (ad (i + 1))]
  | 5 => [.int (σ.1 i 0), .ref (ad (i + 1)), .ref (ad (i + 2)), .ref (ad (i + 3)), .ref (ad (i + 4)), .int (σ.1 i 5), .ref (ad (i + 5)), .ref (ad (i + 6)), .ref (ad (i + 7)), .int (σ.1 i 9), .int (σ.1 i 10), .int (σ.1 i 11), .ref (ad (i + 8))]
  | 6 => [.int (σ.1 i 0), .ref (ad (i + 1)), .ref (ad (i + 2)), .ref (ad (i + 3))]
  | 7 => [.ref (ad (i + 1)), .ref (ad (i + 2)), .int (σ.1 i 2), .int (σ.1 i 3), .int (σ.1 i 4)]
  | 8 => [.int (σ.1 i 0), .ref (ad (i + 1)), .ref (ad (i + 2)), .ref (ad (i + 3)), .ref (ad (i + 4))]
  | 9 => [.ref (ad (i + 1)), .int (σ.1 i 1), .int (σ.1 i 2), .int (σ.1 i 3), .int (σ.1 i 4), .int (σ.1 i 5), .int (σ.1 i 6), .long (σ.2.1 i 7), .int (σ.1 i 8)]
  | 10 => [.ref (ad (i + 3)), .ref (ad (i + 1)), .ref (ad (σ.2.2 2)), .ref (ad (σ.2.2 3)), .ref (ad (σ.2.2 4)), .ref (ad (σ.2.2 5)), .ref (ad (i + 7)), .ref (ad (i + 10)), .ref (ad (i + 13)), .ref (ad (i + 5)), .ref (ad (i + 49)), .int (σ.1 i 11), .int (σ.1 i 12), .ref (ad (i + 50))]
  | 11 => [.int (σ.1 i 0), .int (σ.1 i 1), .ref (ad (i + 1)), .int (σ.1 i 3), .int (σ.1 i 4), .int (σ.1 i 5), .int (σ.1 i 6), .long (σ.2.1 i 7), .int (σ.1 i 8), .int (σ.1 i 9), .ref (ad (i + 2)), .ref (ad (i + 3)), .ref (ad (i + 4)), .ref (ad (i + 5)), .ref (ad (i + 6)), .ref (ad (i + 7)), .ref (ad (i + 8)), .ref (ad (i + 9)), .ref (ad (i + 10)), .ref (ad (i + 11)), .ref (ad (i + 12)), .int (σ.1 i 21), .int (σ.1 i 22), .ref (ad (i + 13)), .ref (ad (i + 14)), .ref (ad (i + 15)), .ref (ad (i + 16)), .ref (ad (i + 17)), .ref (ad (i + 18)), .ref (ad (i + 19)), .ref (ad (i + 20)), .ref (ad (i + 21)), .ref (ad (i + 22)), .ref (ad (i + 23)), .ref (ad (i + 24)), .int (σ.1 i 35), .long (σ.2.1 i 36), .ref (ad (i + 25)), .ref (ad (i + 26)), .ref (ad (i + 27)), .ref (ad (i + 28)), .ref (ad (i + 29)), .ref (ad (i + 30)), .ref (ad (i + 31)), .ref (ad (i + 32)), .ref (ad (i + 33)), .ref (ad (i + 34)), .ref (ad (i + 35)), .ref (ad (i + 36)), .ref (ad (i + 37)), .ref (ad (i + 38)), .int (σ.1 i 51), .int (σ.1 i 52), .ref (ad (i + 39)), .long (σ.2.1 i 54)]
  | _ => []
/-- what an array holds, by its kind -/
def fx_ar (ad : Nat → Nat) (σ : FH) (i k n : Nat) : vp_A :=
  if k = 21 then (n, .inr (.inl (σ.2.1 i))) else if k = 24 then (n, .inr (.inr (.inr (.inr (fun j => some (ad (51 + 3 * j))))))) else if k = 25 then (n, .inr (.inr (.inr (.inr (fun j => some (ad (99 + 13 * j))))))) else (n, .inl (σ.1 i))
def fx_ce (cy : Nat → ClassId) (ad : Nat → Nat) (σ : FH) (i : Nat) (k : Nat × Nat) : va_E :=
  if k.1 < 12 then .inr (k.1, fx_fl ad σ i k.1) else .inl (cy k.1, fx_ar ad σ i k.1 k.2)
def fx_w (cy : Nat → ClassId) (Y : LY) (ad : Nat → Nat) (σ : FH) : va_W := Y.mapIdx (fun i k => (ad i, fx_ce cy ad σ i k))
theorem fx_w_at {cy : Nat → ClassId} {Y : LY} {ad : Nat → Nat} {σ : FH} {i : Nat} {k : Nat × Nat} (h : Y[i]? = some k) : (fx_w cy Y ad σ)[i]? = some (ad i, fx_ce cy ad σ i k) := by
  unfold fx_w
  rw [List.getElem?_mapIdx, h]
  rfl
theorem fx_w_in {cy : Nat → ClassId} {Y : LY} {ad : Nat → Nat} {σ : FH} {i : Nat} {q : Nat × va_E} (h : (fx_w cy Y ad σ)[i]? = some q) : ∃ k, Y[i]? = some k ∧ q = (ad i, fx_ce cy ad σ i k) := by
  unfold fx_w at h
  rw [List.getElem?_mapIdx] at h
  cases hk : Y[i]? with
  | none => rw [hk] at h; cases h
  | some k => rw [hk] at h; exact ⟨k, rfl, (Option.some.inj h).symm⟩
/-- a world in which one cell became another's, as a list -/
theorem fx_w_set {cy : Nat → ClassId} {Y : LY} {ad : Nat → Nat} {σ σ' : FH} {i : Nat} {k : Nat × Nat} {e : va_E} (h : Y[i]? = some k) (he : fx_ce cy ad σ' i k = e) (ho : ∀ j k', j ≠ i → Y[j]? = some k' → fx_ce cy ad σ' j k' = fx_ce cy ad σ j k') : (fx_w cy Y ad σ).set i (ad i, e) = fx_w cy Y ad σ' := by
  apply List.ext_getElem?
  intro j
  by_cases hj : j = i
  · subst hj
    have hl : j < (fx_w cy Y ad σ).length := (List.getElem?_eq_some_iff.mp (fx_w_at (cy := cy) (ad := ad) (σ := σ) h)).1
    rw [List.getElem?_set_self hl, fx_w_at h, he]
  · rw [List.getElem?_set_ne (Ne.symm hj)]
    unfold fx_w
    rw [List.getElem?_mapIdx, List.getElem?_mapIdx]
    cases hk : Y[j]? with
    | none => rfl
    | some k' => simp only [Option.map_some]; rw [ho j k' hj hk]
theorem fx_si_o {σ : FH} {a k : Nat} {v : Int32} {b : Nat} (h : b ≠ a) : (fx_si σ a k v).1 b = σ.1 b := if_neg h
theorem fx_si_s {σ : FH} {a k : Nat} {v : Int32} : (fx_si σ a k v).1 a = upd (σ.1 a) k v := if_pos rfl
theorem fx_sl_o {σ : FH} {a k : Nat} {v : Int64} {b : Nat} (h : b ≠ a) : (fx_sl σ a k v).2.1 b = σ.2.1 b := if_neg h
theorem fx_sl_s {σ : FH} {a k : Nat} {v : Int64} : (fx_sl σ a k v).2.1 a = vp_updL (σ.2.1 a) k v := if_pos rfl
/-- an object's and an array's contents look at their own row alone -/
theorem fx_ce_eq {cy : Nat → ClassId} {ad : Nat → Nat} {σ σ' : FH} {i : Nat} {k : Nat × Nat} (h1 : σ'.1 i = σ.1 i) (h2 : σ'.2.1 i = σ.2.1 i) (h3 : σ'.2.2 = σ.2.2) : fx_ce cy ad σ' i k = fx_ce cy ad σ i k := by
  have e1 : fx_fl ad σ' i k.1 = fx_fl ad σ i k.1 := by unfold fx_fl; rw [h1, h2, h3]
  have e2 : fx_ar ad σ' i k.1 k.2 = fx_ar ad σ i k.1 k.2 := by unfold fx_ar; rw [h1, h2]
  unfold fx_ce
  rw [e1, e2]
/-- the classes of arrays -/
def fx_ty (cy : Nat → ClassId) : List (ClassId × FieldType) := [(cy 20, .int), (cy 21, .long), (cy 22, .char), (cy 23, .boolean), (cy 24, .object "HalfShop$State"), (cy 25, .object "HalfShop$Mark")]
def fx_P (D : va_G) (cy : Nat → ClassId) (Y : LY) (ad : Nat → Nat) (σ : FH) (H : Heap) : Prop := va_P D vwCl (fx_w cy Y ad σ) H
/-- which cells may be written: the world's, and those that are new -/
def fx_A (Y : LY) (ad : Nat → Nat) (sz : Nat) : Nat → Prop := fun q => (∃ i, i < Y.length ∧ q = ad i) ∨ sz ≤ q
def fx_I (Y : LY) (ad : Nat → Nat) : Prop := ∀ i j, i < Y.length → j < Y.length → ad i = ad j → i = j
theorem fx_len {Y : LY} {i : Nat} {k : Nat × Nat} (h : Y[i]? = some k) : i < Y.length := (List.getElem?_eq_some_iff.mp h).1
theorem fx_D {cy : Nat → ClassId} {Y : LY} {ad : Nat → Nat} {σ : FH} {A : Nat → Prop} (hI : fx_I Y ad) (hA : ∀ i, i < Y.length → A (ad i)) : va_D A (fx_w cy Y ad σ) := by
  refine ⟨fun i j p q hi hj he => ?_, fun k q hk => ?_⟩
  · obtain ⟨k, h1, rfl⟩ := fx_w_in hi
    obtain ⟨k', h2, rfl⟩ := fx_w_in hj
    exact hI i j (fx_len h1) (fx_len h2) he
  · obtain ⟨k', h1, rfl⟩ := fx_w_in hk
    exact hA k (fx_len h1)
/-- what is constant in a method's walk -/
def fx_C (p : Program) (s : State) (m : MethodId) (args : Array Value) (c : Code) (cc : ByteArray) (nL : Nat) (own : String) (D : va_G) (cy : Nat → ClassId) (Y : LY) (ad ec : Nat → Nat) (A : Nat → Prop) : Prop :=
  p.tables.exec = Jvm.exec ∧ c.code = cc ∧ c.maxLocals = nL ∧ s.vm.findClass own = some m.cls ∧ (∀ w ∈ fx_tb, w.before args s = true) ∧ va_K D vwCl (fx_ty cy) s ∧ fx_I Y ad ∧ A = fx_A Y ad s.heap.size ∧ fx_E ec A s s.heap
/-- what a method is given -/
def fx_B (D : va_G) (cy : Nat → ClassId) (Y : LY) (ad ec : Nat → Nat) (sz : Nat) (σ : FH) (U : State) : Prop := U.heap.size = sz ∧ fx_P D cy Y ad σ U.heap ∧ va_K D vwCl (fx_ty cy) U ∧ fx_I Y ad ∧ fx_E ec (fx_A Y ad sz) U U.heap
def fx_R (d : Nat) : Room := { frames := d, cells := 0, slots := 0, locals := 64 * d }
/-- the contracts: called with the values av and the world σ a method returns r, and the world is σ' -/
def fx_Mi (l : Launch) (y : MethodName) (cc : ByteArray) (nL : Nat) (ret : Option FieldType) (d : Nat) (Y : LY) (av : (Nat → Nat) → (Nat → Nat) → List Value) (σ : FH) (r : Int32) (σ' : FH) : Prop :=
  ∀ (D : va_G) (cy : Nat → ClassId) (ad ec : Nat → Nat) (sz : Nat), Met l y (.code y cc nL ret :: fx_tb) (fx_R d) (va_Pc (av ad ec) (fx_B D cy Y ad ec sz σ)) (va_Qi (fun (r2 : Int32) (_ : Unit) => r2 = r) (fun _ t => fx_P D cy Y ad σ' t.heap) (fx_A Y ad sz)) 0 0 (fx_A Y ad sz)
def fx_Ml (l : Launch) (y : MethodName) (cc : ByteArray) (nL : Nat) (ret : Option FieldType) (d : Nat) (Y : LY) (av : (Nat → Nat) → (Nat → Nat) → List Value) (σ : FH) (r : Int64) (σ' : FH) : Prop :=
  ∀ (D : va_G) (cy : Nat → ClassId) (ad ec : Nat → Nat) (sz : Nat), Met l y (.code y cc nL ret :: fx_tb) (fx_R d) (va_Pc (av ad ec) (fx_B D cy Y ad ec sz σ)) (va_Ql (fun (r2 : Int64) (_ : Unit) => r2 = r) (fun _ t => fx_P D cy Y ad σ' t.heap) (fx_A Y ad sz)) 0 0 (fx_A Y ad sz)
def fx_Mv (l : Launch) (y : MethodName) (cc : ByteArray) (nL : Nat) (ret : Option FieldType) (d : Nat) (Y : LY) (av : (Nat → Nat) → (Nat → Nat) → List Value) (σ : FH) (σ' : FH) : Prop :=
  ∀ (D : va_G) (cy : Nat → ClassId) (ad ec : Nat → Nat) (sz : Nat), Met l y (.code y cc nL ret :: fx_tb) (fx_R d) (va_Pc (av ad ec) (fx_B D cy Y ad ec sz σ)) (va_Qv (fun (_ : Unit) => True) (fun _ t => fx_P D cy Y ad σ' t.heap) (fx_A Y ad sz)) 0 0 (fx_A Y ad sz)
section FXR
variable {p : Program} {l : Launch} {e : Env} {R : Room} {s : State} {m : MethodId} {args : Array Value} {below : List Frame} {meth : Method} {c : Code} {H : Heap} {locs : List Loc} {cells slots : Nat} {Q : State → Prop}
variable {cc : ByteArray} {pc nL : Nat} {ls : Array Slot} {rest : List Value} {own : String} {D : va_G} {cy : Nat → ClassId} {Y : LY} {ad ec : Nat → Nat} {A : Nat → Prop} {σ : FH}
theorem fx_CD (hC : fx_C p s m args c cc nL own D cy Y ad ec A) : va_D A (fx_w cy Y ad σ) := by
  obtain ⟨-, -, -, -, -, -, hI, rfl, -⟩ := hC
  exact fx_D hI (fun i hi => Or.inl ⟨i, hi, rfl⟩)
/-- getfield -/
theorem fx_get (hC : fx_C p s m args c cc nL own D cy Y ad ec A) (hP : fx_P D cy Y ad σ H) {C : String} {T : u_T} {N ci index : Nat} (hin : ∀ w ∈ u_ws C T N, w ∈ fx_tb) {i n : Nat} (hi : Y[i]? = some (ci, n)) (hlt : ci < 12) (hc : vwCl[ci]? = some (C, T, N)) (k : Nat) (hk : k < N)
    (hlink : Cond.fieldLink own index (T k).1 (T k).2.1 (T k).2.2.1 ∈ fx_tb) {v : Value} (hv : (fx_fl ad σ i ci)[k]? = some v) (hdg : decode cc pc = .ok (.getfield index, 3))
    (kk : W p l e R s m args below meth c H locs cells slots Q (F0 m (pc + 3) ls (v :: rest))) : W p l e R s m args below meth c H locs cells slots Q (F0 m pc ls (.ref (ad i) :: rest)) := by
  obtain ⟨hx, hb, -, hown, hts, hK, -⟩ := hC
  have he : (fx_w cy Y ad σ)[i]? = some (ad i, .inr (ci, fx_fl ad σ i ci)) := by rw [fx_w_at hi]; unfold fx_ce; rw [if_pos hlt]
  exact va_get hx hb hts hin hown hK hP i he hc k hk (hts _ hlink) (fun _ h => h) hv hdg kk
/-- putfield of an int -/
theorem fx_put (hC : fx_C p s m args c cc nL own D cy Y ad ec A) (hP : fx_P D cy Y ad σ H) (hS : va_S A s.heap H locs) {C : String} {T : u_T} {N ci index : Nat} (hin : ∀ w ∈ u_ws C T N, w ∈ fx_tb) (ty0 : Nat → FieldType) (hty : ∀ k, k < N → parseFieldDescriptor (T k).2.2.1 = some (ty0 k)) (hnm : ∀ a, a < N → ∀ b, b < N → a ≠ b → (T a).2.1 ≠ (T b).2.1)
    {i n : Nat} (hi : Y[i]? = some (ci, n)) (hlt : ci < 12) (hc : vwCl[ci]? = some (C, T, N)) (k : Nat) (hk : k < N) (hlink : Cond.fieldLink own index (T k).1 (T k).2.1 (T k).2.2.1 ∈ fx_tb) (hfin : (T k).2.2.2 = false) {v : Value} (hn : narrow (ty0 k) v = v) (hfit : fits (ty0 k) v = true) (hl : k < (fx_fl ad σ i ci).length)
    {σ' : FH} (he' : fx_fl ad σ' i ci = (fx_fl ad σ i ci).set k v) (ho : ∀ j k', j ≠ i → Y[j]? = some k' → fx_ce cy ad σ' j k' = fx_ce cy ad σ j k') (hdg : decode cc pc = .ok (.putfield index, 3))
    (kk : ∀ (H : Heap) (locs : List Loc), fx_P D cy Y ad σ' H → va_S A s.heap H locs → W p l e R s m args below meth c H locs cells slots Q (F0 m (pc + 3) ls rest)) : W p l e R s m args below meth c H locs cells slots Q (F0 m pc ls (v :: .ref (ad i) :: rest)) := by
  have hD := fx_CD (σ := σ) hC
  obtain ⟨hx, hb, -, hown, hts, hK, -⟩ := hC
  have he : (fx_w cy Y ad σ)[i]? = some (ad i, .inr (ci, fx_fl ad σ i ci)) := by rw [fx_w_at hi]; unfold fx_ce; rw [if_pos hlt]
  refine va_put hx hb hts hin ty0 hty hnm hown hK hP hD hS i he hc k hk (hts _ hlink) (fun _ h => h) hfin (hty k hk) hn hfit hl hdg (fun H1 locs1 h1 _ h3 => ?_)
  refine kk H1 locs1 ?_ h3
  rw [fx_w_set (σ' := σ') hi (by unfold fx_ce; rw [if_pos hlt, he']) ho] at h1
  exact h1
theorem fx_puti (hC : fx_C p s m args c cc nL own D cy Y ad ec A) (hP : fx_P D cy Y ad σ H) (hS : va_S A s.heap H locs) {C : String} {T : u_T} {N ci index : Nat} (hin : ∀ w ∈ u_ws C T N, w ∈ fx_tb) (ty0 : Nat → FieldType) (hty : ∀ k, k < N → parseFieldDescriptor (T k).2.2.1 = some (ty0 k)) (hnm : ∀ a, a < N → ∀ b, b < N → a ≠ b → (T a).2.1 ≠ (T b).2.1)
    {i n : Nat} (hi : Y[i]? = some (ci, n)) (hlt : ci < 12) (hc : vwCl[ci]? = some (C, T, N)) (k : Nat) (hk : k < N) (hlink : Cond.fieldLink own index (T k).1 (T k).2.1 (T k).2.2.1 ∈ fx_tb) (hfin : (T k).2.2.2 = false) {v : Int32} (hn : narrow (ty0 k) (.int v) = .int v) (hfit : fits (ty0 k) (.int v) = true) (hl : k < (fx_fl ad σ i ci).length)
    (he' : fx_fl ad (fx_si σ i k v) i ci = (fx_fl ad σ i ci).set k (.int v)) (hdg : decode cc pc = .ok (.putfield index, 3))
    (kk : ∀ (H : Heap) (locs : List Loc), fx_P D cy Y ad (fx_si σ i k v) H → va_S A s.heap H locs → W p l e R s m args below meth c H locs cells slots Q (F0 m (pc + 3) ls rest)) : W p l e R s m args below meth c H locs cells slots Q (F0 m pc ls (.int v :: .ref (ad i) :: rest)) :=
  fx_put hC hP hS hin ty0 hty hnm hi hlt hc k hk hlink hfin hn hfit hl he' (fun j k' hj _ => fx_ce_eq (fx_si_o hj) rfl rfl) hdg kk
theorem fx_putl (hC : fx_C p s m args c cc nL own D cy Y ad ec A) (hP : fx_P D cy Y ad σ H) (hS : va_S A s.heap H locs) {C : String} {T : u_T} {N ci index : Nat} (hin : ∀ w ∈ u_ws C T N, w ∈ fx_tb) (ty0 : Nat → FieldType) (hty : ∀ k, k < N → parseFieldDescriptor (T k).2.2.1 = some (ty0 k)) (hnm : ∀ a, a < N → ∀ b, b < N → a ≠ b → (T a).2.1 ≠ (T b).2.1)
    {i n : Nat} (hi : Y[i]? = some (ci, n)) (hlt : ci < 12) (hc : vwCl[ci]? = some (C, T, N)) (k : Nat) (hk : k < N) (hlink : Cond.fieldLink own index (T k).1 (T k).2.1 (T k).2.2.1 ∈ fx_tb) (hfin : (T k).2.2.2 = false) {v : Int64} (hn : narrow (ty0 k) (.long v) = .long v) (hfit : fits (ty0 k) (.long v) = true) (hl : k < (fx_fl ad σ i ci).length)
    (he' : fx_fl ad (fx_sl σ i k v) i ci = (fx_fl ad σ i ci).set k (.long v)) (hdg : decode cc pc = .ok (.putfield index, 3))
    (kk : ∀ (H : Heap) (locs : List Loc), fx_P D cy Y ad (fx_sl σ i k v) H → va_S A s.heap H locs → W p l e R s m args below meth c H locs cells slots Q (F0 m (pc + 3) ls rest)) : W p l e R s m args below meth c H locs cells slots Q (F0 m pc ls (.long v :: .ref (ad i) :: rest)) :=
  fx_put hC hP hS hin ty0 hty hnm hi hlt hc k hk hlink hfin hn hfit hl he' (fun j k' hj _ => fx_ce_eq rfl (fx_sl_o hj) rfl) hdg kk
theorem fx_arr {k n : Nat} {i : Nat} (hi : Y[i]? = some (k, n)) (hk : 12 ≤ k) : (fx_w cy Y ad σ)[i]? = some (ad i, .inl (cy k, fx_ar ad σ i k n)) := by
  rw [fx_w_at hi]; unfold fx_ce; rw [if_neg (Nat.not_lt.mpr hk)]
theorem fx_ar20 {i n : Nat} : fx_ar ad σ i 20 n = (n, .inl (σ.1 i)) := rfl
theorem fx_ar21 {i n : Nat} : fx_ar ad σ i 21 n = (n, .inr (.inl (σ.2.1 i))) := rfl
theorem fx_ar22 {i n : Nat} : fx_ar ad σ i 22 n = (n, .inl (σ.1 i)) := rfl
theorem fx_ar23 {i n : Nat} : fx_ar ad σ i 23 n = (n, .inl (σ.1 i)) := rfl
theorem fx_ar24 {i n : Nat} : fx_ar ad σ i 24 n = (n, .inr (.inr (.inr (.inr (fun j => some (ad (51 + 3 * j))))))) := rfl
theorem fx_ar25 {i n : Nat} : fx_ar ad σ i 25 n = (n, .inr (.inr (.inr (.inr (fun j => some (ad (99 + 13 * j))))))) := rfl
theorem fx_iald (hC : fx_C p s m args c cc nL own D cy Y ad ec A) (hP : fx_P D cy Y ad σ H) {a n : Nat} (hi : Y[a]? = some (20, n)) {i : Int32} (hin : vp_in i n) (hdg : decode cc pc = .ok (.iaload, 1))
    (kk : W p l e R s m args below meth c H locs cells slots Q (F0 m (pc + 1) ls (.int (σ.1 a i.toNatClampNeg) :: rest))) : W p l e R s m args below meth c H locs cells slots Q (F0 m pc ls (.int i :: .ref (ad a) :: rest)) := by
  obtain ⟨hx, hb, -, hown, hts, hK, -⟩ := hC
  exact va_iald hx hb hK hP a 0 (fx_arr hi (by decide)) rfl hin hdg kk
theorem fx_lald (hC : fx_C p s m args c cc nL own D cy Y ad ec A) (hP : fx_P D cy Y ad σ H) {a n : Nat} (hi : Y[a]? = some (21, n)) {i : Int32} (hin : vp_in i n) (hdg : decode cc pc = .ok (.laload, 1))
    (kk : W p l e R s m args below meth c H locs cells slots Q (F0 m (pc + 1) ls (.long (σ.2.1 a i.toNatClampNeg) :: rest))) : W p l e R s m args below meth c H locs cells slots Q (F0 m pc ls (.int i :: .ref (ad a) :: rest)) := by
  obtain ⟨hx, hb, -, hown, hts, hK, -⟩ := hC
  exact va_lald hx hb hK hP a 1 (fx_arr hi (by decide)) rfl hin hdg kk
theorem fx_cald (hC : fx_C p s m args c cc nL own D cy Y ad ec A) (hP : fx_P D cy Y ad σ H) {a n : Nat} (hi : Y[a]? = some (22, n)) {i : Int32} (hin : vp_in i n) (hdg : decode cc pc = .ok (.caload, 1))
    (kk : W p l e R s m args below meth c H locs cells slots Q (F0 m (pc + 1) ls (.int (σ.1 a i.toNatClampNeg) :: rest))) : W p l e R s m args below meth c H locs cells slots Q (F0 m pc ls (.int i :: .ref (ad a) :: rest)) := by
  obtain ⟨hx, hb, -, hown, hts, hK, -⟩ := hC
  exact va_cald hx hb hK hP a 2 (fx_arr hi (by decide)) rfl hin hdg kk
theorem fx_zald (hC : fx_C p s m args c cc nL own D cy Y ad ec A) (hP : fx_P D cy Y ad σ H) {a n : Nat} (hi : Y[a]? = some (23, n)) {i : Int32} (hin : vp_in i n) (hdg : decode cc pc = .ok (.baload, 1))
    (kk : W p l e R s m args below meth c H locs cells slots Q (F0 m (pc + 1) ls (.int (σ.1 a i.toNatClampNeg) :: rest))) : W p l e R s m args below meth c H locs cells slots Q (F0 m pc ls (.int i :: .ref (ad a) :: rest)) := by
  obtain ⟨hx, hb, -, hown, hts, hK, -⟩ := hC
  exact va_zald hx hb hK hP a 3 (fx_arr hi (by decide)) rfl hin hdg kk
theorem fx_aaldS (hC : fx_C p s m args c cc nL own D cy Y ad ec A) (hP : fx_P D cy Y ad σ H) {a n : Nat} (hi : Y[a]? = some (24, n)) {i : Int32} (hin : vp_in i n) (hdg : decode cc pc = .ok (.aaload, 1))
    (kk : W p l e R s m args below meth c H locs cells slots Q (F0 m (pc + 1) ls (.ref (ad (51 + 3 * i.toNatClampNeg)) :: rest))) : W p l e R s m args below meth c H locs cells slots Q (F0 m pc ls (.int i :: .ref (ad a) :: rest)) := by
  obtain ⟨hx, hb, -, hown, hts, hK, -⟩ := hC
  exact va_aldq hx hb hK hP a 4 (fx_arr hi (by decide)) rfl hin hdg kk
theorem fx_aaldM (hC : fx_C p s m args c cc nL own D cy Y ad ec A) (hP : fx_P D cy Y ad σ H) {a n : Nat} (hi : Y[a]? = some (25, n)) {i : Int32} (hin : vp_in i n) (hdg : decode cc pc = .ok (.aaload, 1))
    (kk : W p l e R s m args below meth c H locs cells slots Q (F0 m (pc + 1) ls (.ref (ad (99 + 13 * i.toNatClampNeg)) :: rest))) : W p l e R s m args below meth c H locs cells slots Q (F0 m pc ls (.int i :: .ref (ad a) :: rest)) := by
  obtain ⟨hx, hb, -, hown, hts, hK, -⟩ := hC
  exact va_aldq hx hb hK hP a 5 (fx_arr hi (by decide)) rfl hin hdg kk
theorem fx_alen (hC : fx_C p s m args c cc nL own D cy Y ad ec A) (hP : fx_P D cy Y ad σ H) {a k n : Nat} (hi : Y[a]? = some (k, n)) (hk : 12 ≤ k) (t0 : Nat) {ty : FieldType} (ht : (fx_ty cy)[t0]? = some (cy k, ty)) {v : Int32} (hn : (fx_ar ad σ a k n).1 = n) (hv : Int32.ofNat n = v) (hdg : decode cc pc = .ok (.arraylength, 1))
    (kk : W p l e R s m args below meth c H locs cells slots Q (F0 m (pc + 1) ls (.int v :: rest))) : W p l e R s m args below meth c H locs cells slots Q (F0 m pc ls (.ref (ad a) :: rest)) := by
  obtain ⟨hx, hb, -, hown, hts, hK, -⟩ := hC
  exact va_alen hx hb hK hP a t0 (fx_arr hi hk) ht (by rw [hn]; exact hv) hdg kk
theorem fx_aset {a k n : Nat} {σ' : FH} (hi : Y[a]? = some (k, n)) (hk : 12 ≤ k) {x : vp_A} (hx : fx_ar ad σ' a k n = x) (ho : ∀ j k', j ≠ a → Y[j]? = some k' → fx_ce cy ad σ' j k' = fx_ce cy ad σ j k') : (fx_w cy Y ad σ).set a (ad a, .inl (cy k, x)) = fx_w cy Y ad σ' :=
  fx_w_set hi (by unfold fx_ce; rw [if_neg (Nat.not_lt.mpr hk), hx]) ho
theorem fx_iast (hC : fx_C p s m args c cc nL own D cy Y ad ec A) (hP : fx_P D cy Y ad σ H) (hS : va_S A s.heap H locs) {a n : Nat} (hi : Y[a]? = some (20, n)) {i x : Int32} (hin : vp_in i n) (hdg : decode cc pc = .ok (.iastore, 1))
    (kk : ∀ (H : Heap) (locs : List Loc), fx_P D cy Y ad (fx_si σ a i.toNatClampNeg x) H → va_S A s.heap H locs → W p l e R s m args below meth c H locs cells slots Q (F0 m (pc + 1) ls rest)) : W p l e R s m args below meth c H locs cells slots Q (F0 m pc ls (.int x :: .int i :: .ref (ad a) :: rest)) := by
  have hD := fx_CD (σ := σ) hC
  obtain ⟨hx, hb, -, hown, hts, hK, -⟩ := hC
  refine va_iast hx hb hK hP hD hS a 0 (fx_arr hi (by decide)) rfl hin hdg (fun H1 locs1 h1 _ h3 => kk H1 locs1 ?_ h3)
  rw [fx_aset (σ := σ) (σ' := fx_si σ a i.toNatClampNeg x) hi (by decide) (by rw [fx_ar20, fx_si_s]) (fun j k' hj _ => fx_ce_eq (fx_si_o hj) rfl rfl)] at h1
  exact h1
theorem fx_last (hC : fx_C p s m args c cc nL own D cy Y ad ec A) (hP : fx_P D cy Y ad σ H) (hS : va_S A s.heap H locs) {a n : Nat} (hi : Y[a]? = some (21, n)) {i : Int32} {x : Int64} (hin : vp_in i n) (hdg : decode cc pc = .ok (.lastore, 1))
    (kk : ∀ (H : Heap) (locs : List Loc), fx_P D cy Y ad (fx_sl σ a i.toNatClampNeg x) H → va_S A s.heap H locs → W p l e R s m args below meth c H locs cells slots Q (F0 m (pc + 1) ls rest)) : W p l e R s m args below meth c H locs cells slots Q (F0 m pc ls (.long x :: .int i :: .ref (ad a) :: rest)) := by
  have hD := fx_CD (σ := σ) hC
  obtain ⟨hx, hb, -, hown, hts, hK, -⟩ := hC
  refine va_last hx hb hK hP hD hS a 1 (fx_arr hi (by decide)) rfl hin hdg (fun H1 locs1 h1 _ h3 => kk H1 locs1 ?_ h3)
  rw [fx_aset (σ := σ) (σ' := fx_sl σ a i.toNatClampNeg x) hi (by decide) (by rw [fx_ar21, fx_sl_s]) (fun j k' hj _ => fx_ce_eq rfl (fx_sl_o hj) rfl)] at h1
  exact h1
theorem fx_cast (hC : fx_C p s m args c cc nL own D cy Y ad ec A) (hP : fx_P D cy Y ad σ H) (hS : va_S A s.heap H locs) {a n : Nat} (hi : Y[a]? = some (22, n)) {i x : Int32} (hin : vp_in i n) (hdg : decode cc pc = .ok (.castore, 1))
    (kk : ∀ (H : Heap) (locs : List Loc), fx_P D cy Y ad (fx_si σ a i.toNatClampNeg (vp_nar .char x)) H → va_S A s.heap H locs → W p l e R s m args below meth c H locs cells slots Q (F0 m (pc + 1) ls rest)) : W p l e R s m args below meth c H locs cells slots Q (F0 m pc ls (.int x :: .int i :: .ref (ad a) :: rest)) := by
  have hD := fx_CD (σ := σ) hC
  obtain ⟨hx, hb, -, hown, hts, hK, -⟩ := hC
  refine va_cast hx hb hK hP hD hS a 2 (fx_arr hi (by decide)) rfl hin hdg (fun H1 locs1 h1 _ h3 => kk H1 locs1 ?_ h3)
  rw [fx_aset (σ := σ) (σ' := fx_si σ a i.toNatClampNeg (vp_nar .char x)) hi (by decide) (by rw [fx_ar22, fx_si_s]) (fun j k' hj _ => fx_ce_eq (fx_si_o hj) rfl rfl)] at h1
  exact h1
theorem fx_zast (hC : fx_C p s m args c cc nL own D cy Y ad ec A) (hP : fx_P D cy Y ad σ H) (hS : va_S A s.heap H locs) {a n : Nat} (hi : Y[a]? = some (23, n)) {i x : Int32} (hin : vp_in i n) (hdg : decode cc pc = .ok (.bastore, 1))
    (kk : ∀ (H : Heap) (locs : List Loc), fx_P D cy Y ad (fx_si σ a i.toNatClampNeg (vp_nar .boolean x)) H → va_S A s.heap H locs → W p l e R s m args below meth c H locs cells slots Q (F0 m (pc + 1) ls rest)) : W p l e R s m args below meth c H locs cells slots Q (F0 m pc ls (.int x :: .int i :: .ref (ad a) :: rest)) := by
  have hD := fx_CD (σ := σ) hC
  obtain ⟨hx, hb, -, hown, hts, hK, -⟩ := hC
  refine va_zast hx hb hK hP hD hS a 3 (fx_arr hi (by decide)) rfl hin hdg (fun H1 locs1 h1 _ h3 => kk H1 locs1 ?_ h3)
  rw [fx_aset (σ := σ) (σ' := fx_si σ a i.toNatClampNeg (vp_nar .boolean x)) hi (by decide) (by rw [fx_ar23, fx_si_s]) (fun j k' hj _ => fx_ce_eq (fx_si_o hj) rfl rfl)] at h1
  exact h1
theorem fx_sub {a b q : Nat} (h : a ≤ b) (hq : fx_A Y ad b q) : fx_A Y ad a q := hq.elim Or.inl (fun z => Or.inr (Nat.le_trans h z))
theorem fx_blind {av : List Value} {sz : Nat} : FrameBlind (va_Pc av (fx_B D cy Y ad ec sz σ)) := fun a U g mk q => by
  obtain ⟨q0, q1, qP, qK, qI, qE⟩ := q
  exact ⟨q0, q1, qP, va_K.moved (u := U) (U := U.calling g mk a) (Vm.Alike.refl U.vm) qK, qI, qE.same rfl⟩
theorem fx_call (hC : fx_C p s m args c cc nL own D cy Y ad ec A) (hP : fx_P D cy Y ad σ H) (hS : va_S A s.heap H locs) (U : State) (hU : U.heap = H) (hW : s.WarmedH U.vm) : fx_B D cy Y ad ec H.size σ U := by
  obtain ⟨-, -, -, -, -, hK, hI, rfl, hE⟩ := hC
  exact ⟨by rw [hU], by rw [hU]; exact hP, va_K.moved hW.alike hK, hI, hE.go hS (fun q => fx_sub hS.1) hU hW⟩
theorem fx_recv (hC : fx_C p s m args c cc nL own D cy Y ad ec A) (hP : fx_P D cy Y ad σ H) {i n ci : Nat} {q : vw_C} (hi : Y[i]? = some (ci, n)) (hlt : ci < 12) (hc : vwCl[ci]? = some q) : ∃ cell : Cell, H[ad i]? = some cell ∧ cell.vm.isStatics = false ∧ s.vm.findClass q.1 = some cell.cls := by
  obtain ⟨-, -, -, -, -, hK, -⟩ := hC
  exact va_recv hK hP hc (q0 := i) (by rw [fx_w_at hi]; unfold fx_ce; rw [if_pos hlt])
variable {y : MethodName} {bytes : ByteArray} {maxL d n index : Nat} {ret : Option FieldType} {As : List Value} {σ' : FH}
/-- a call of an instance method: its words, its receiver -/
theorem fx_runV {Qc : Array Value → State → Outcome → State → Prop} (hC : fx_C p s m args c cc nL own D cy Y ad ec A) (hP : fx_P D cy Y ad σ H) (hS : va_S A s.heap H locs) {i ni ci : Nat} {T : u_T} {N : Nat} {C : String}
    (hM : Met l y (.code y bytes maxL ret :: fx_tb) (fx_R d) (va_Pc (.ref (ad i) :: As) (fx_B D cy Y ad ec H.size σ)) Qc 0 0 (fx_A Y ad H.size)) (hi : Y[i]? = some (ci, ni)) (hlt : ci < 12) (hc : vwCl[ci]? = some (C, T, N))
    (hw : ∀ w ∈ ([.methodLink own index y, .instanceMethod y, .selects C y y, .initialized C] : List Cond), w ∈ fx_tb) (hcd : Cond.code y bytes maxL ret ∈ fx_tb)
    (hd : y.cls = C ∧ y.cls ≠ "java/lang/invoke/MethodHandle" ∧ y.cls ≠ "java/lang/invoke/VarHandle" ∧ (parseMethodDescriptor y.desc).map (fun d => d.parameters.length) = some n) (hn : As.length = n) (hR : d + 1 ≤ R.frames ∧ 8 + (maxL + 11) + 64 * d ≤ R.locals)
    (hcs : cells ≤ R.cells ∧ slots ≤ R.slots) (hsz : ls.size = nL) (hst : (rest.map fun v => v.category).sum ≤ 8) {st : List Value} (hs : st = As.reverse ++ .ref (ad i) :: rest) (hdg : decode cc pc = .ok (.invokevirtual index, 3)) :
    va_Run p l e R s m args below meth c H locs cells slots 0 0 (F0 m pc ls st) rest (Qc (Value.ref (ad i) :: As).toArray) (fx_A Y ad H.size) := by
  have hrv := fx_recv hC hP hi hlt hc
  have hcl := fx_call hC hP hS
  obtain ⟨hx, hb, hml, hown, hts, -⟩ := hC
  exact va_runV (As := As) (rest := rest) ⟨hx, hb, hml, hown, hts⟩ hM (cwV n hts (fx_gl hw (fx_gc hcd)) rfl rfl rfl hd hR) ⟨fx_blind, hrv, fun U hU hW => ⟨rfl, hcl U hU hW⟩⟩ rfl hn hsz hs (lv_room hst) hdg hcs
/-- a call of a static method -/
theorem fx_runS {Qc : Array Value → State → Outcome → State → Prop} (hC : fx_C p s m args c cc nL own D cy Y ad ec A) (hP : fx_P D cy Y ad σ H) (hS : va_S A s.heap H locs)
    (hM : Met l y (.code y bytes maxL ret :: fx_tb) (fx_R d) (va_Pc As (fx_B D cy Y ad ec H.size σ)) Qc 0 0 (fx_A Y ad H.size))
    (hw : ∀ w ∈ ([.methodLink own index y, .static y, .initialized y.cls] : List Cond), w ∈ fx_tb) (hcd : Cond.code y bytes maxL ret ∈ fx_tb)
    (hd : y.cls ≠ "java/lang/invoke/MethodHandle" ∧ y.cls ≠ "java/lang/invoke/VarHandle" ∧ (parseMethodDescriptor y.desc).map (fun d => d.parameters.length) = some n) (hn : As.length = n) (hR : d + 1 ≤ R.frames ∧ 8 + (maxL + 11) + 64 * d ≤ R.locals)
    (hcs : cells ≤ R.cells ∧ slots ≤ R.slots) (hsz : ls.size = nL) (hst : (rest.map fun v => v.category).sum ≤ 8) {st : List Value} (hs : st = As.reverse ++ rest) (hdg : decode cc pc = .ok (.invokestatic index, 3)) :
    va_Run p l e R s m args below meth c H locs cells slots 0 0 (F0 m pc ls st) rest (Qc As.toArray) (fx_A Y ad H.size) := by
  have hcl := fx_call hC hP hS
  obtain ⟨hx, hb, hml, hown, hts, -⟩ := hC
  exact va_runS (As := As) (rest := rest) ⟨hx, hb, hml, hown, hts⟩ hM (va_cwS n hts (fx_gl hw (fx_gc hcd)) rfl rfl rfl hd hR) ⟨fx_blind, fun U hU hW => ⟨rfl, hcl U hU hW⟩⟩ rfl hn hsz hs (lv_room hst) hdg hcs
/-- static, across the nest -/
theorem fx_runSN {Qc : Array Value → State → Outcome → State → Prop} {host : String} (hC : fx_C p s m args c cc nL own D cy Y ad ec A) (hP : fx_P D cy Y ad σ H) (hS : va_S A s.heap H locs)
    (hM : Met l y (.code y bytes maxL ret :: fx_tb) (fx_R d) (va_Pc As (fx_B D cy Y ad ec H.size σ)) Qc 0 0 (fx_A Y ad H.size))
    (hl : va_Nw (.methodLinkNest own index y host) s) (hw : ∀ w ∈ ([.static y, .initialized y.cls] : List Cond), w ∈ fx_tb) (hcd : Cond.code y bytes maxL ret ∈ fx_tb)
    (hd : y.cls ≠ "java/lang/invoke/MethodHandle" ∧ y.cls ≠ "java/lang/invoke/VarHandle" ∧ (parseMethodDescriptor y.desc).map (fun d => d.parameters.length) = some n) (hn : As.length = n) (hR : d + 1 ≤ R.frames ∧ 8 + (maxL + 11) + 64 * d ≤ R.locals)
    (hcs : cells ≤ R.cells ∧ slots ≤ R.slots) (hsz : ls.size = nL) (hst : (rest.map fun v => v.category).sum ≤ 8) {st : List Value} (hs : st = As.reverse ++ rest) (hdg : decode cc pc = .ok (.invokestatic index, 3)) :
    va_Run p l e R s m args below meth c H locs cells slots 0 0 (F0 m pc ls st) rest (Qc As.toArray) (fx_A Y ad H.size) := by
  have hcl := fx_call hC hP hS
  obtain ⟨hx, hb, hml, hown, hts, -⟩ := hC
  exact va_runSN (As := As) (rest := rest) ⟨hx, hb, hml, hown, hts⟩ hM ⟨va_cnB n hts (fx_gc hcd) rfl rfl rfl hl (hts _ (hw _ (List.mem_cons_of_mem _ List.mem_cons_self))) hd hR, hts _ (hw _ List.mem_cons_self), trivial⟩ ⟨fx_blind, fun U hU hW => ⟨rfl, hcl U hU hW⟩⟩ rfl hn hsz hs (lv_room hst) hdg hcs
/-- instance, across the nest -/
theorem fx_runVN {Qc : Array Value → State → Outcome → State → Prop} {host : String} (hC : fx_C p s m args c cc nL own D cy Y ad ec A) (hP : fx_P D cy Y ad σ H) (hS : va_S A s.heap H locs) {i ni ci : Nat} {T : u_T} {N : Nat} {C : String}
    (hM : Met l y (.code y bytes maxL ret :: fx_tb) (fx_R d) (va_Pc (.ref (ad i) :: As) (fx_B D cy Y ad ec H.size σ)) Qc 0 0 (fx_A Y ad H.size)) (hi : Y[i]? = some (ci, ni)) (hlt : ci < 12) (hc : vwCl[ci]? = some (C, T, N))
    (hl : va_Nw (.methodLinkNest own index y host) s) (hw : ∀ w ∈ ([.instanceMethod y, .selects C y y, .initialized y.cls] : List Cond), w ∈ fx_tb) (hcd : Cond.code y bytes maxL ret ∈ fx_tb)
    (hd : y.cls ≠ "java/lang/invoke/MethodHandle" ∧ y.cls ≠ "java/lang/invoke/VarHandle" ∧ (parseMethodDescriptor y.desc).map (fun d => d.parameters.length) = some n) (hn : As.length = n) (hR : d + 1 ≤ R.frames ∧ 8 + (maxL + 11) + 64 * d ≤ R.locals)
    (hcs : cells ≤ R.cells ∧ slots ≤ R.slots) (hsz : ls.size = nL) (hst : (rest.map fun v => v.category).sum ≤ 8) {st : List Value} (hs : st = As.reverse ++ .ref (ad i) :: rest) (hdg : decode cc pc = .ok (.invokevirtual index, 3)) :
    va_Run p l e R s m args below meth c H locs cells slots 0 0 (F0 m pc ls st) rest (Qc (Value.ref (ad i) :: As).toArray) (fx_A Y ad H.size) := by
  have hrv := fx_recv hC hP hi hlt hc
  have hcl := fx_call hC hP hS
  obtain ⟨hx, hb, hml, hown, hts, -⟩ := hC
  exact va_runVN (As := As) (rest := rest) ⟨hx, hb, hml, hown, hts⟩ hM ⟨va_cnB n hts (fx_gc hcd) rfl rfl rfl hl (hts _ (hw _ (List.mem_cons_of_mem _ (List.mem_cons_of_mem _ List.mem_cons_self)))) hd hR, hts _ (hw _ List.mem_cons_self), hts _ (hw _ (List.mem_cons_of_mem _ List.mem_cons_self))⟩ ⟨fx_blind, hrv, fun U hU hW => ⟨rfl, hcl U hU hW⟩⟩ rfl hn hsz hs (lv_room hst) hdg hcs
theorem fx_ci {av : Array Value} {st : List Value} {r : Int32} (hC : fx_C p s m args c cc nL own D cy Y ad ec A) (hS : va_S A s.heap H locs) (hr : va_Run p l e R s m args below meth c H locs cells slots 0 0 (F0 m pc ls st) rest (va_Qi (fun (r2 : Int32) (_ : Unit) => r2 = r) (fun _ t => fx_P D cy Y ad σ' t.heap) (fx_A Y ad H.size) av) (fx_A Y ad H.size))
    (kk : ∀ (H : Heap) (locs : List Loc), fx_P D cy Y ad σ' H → va_S A s.heap H locs → W p l e R s m args below meth c H locs cells slots Q (F0 m (pc + 3) ls (.int r :: rest))) : W p l e R s m args below meth c H locs cells slots Q (F0 m pc ls st) := by
  obtain ⟨-, -, -, -, -, -, -, rfl, -⟩ := hC
  refine va_calli hr hS (fun q _ h => fx_sub hS.1 h) (fun q h => fx_sub hS.1 h) (fun r2 u t H1 locs1 ht hvm hw hB hz1 hk1 hS1 => ?_)
  subst hw
  exact kk H1 locs1 (ht ▸ hB) hS1
theorem fx_cl {av : Array Value} {st : List Value} {r : Int64} (hC : fx_C p s m args c cc nL own D cy Y ad ec A) (hS : va_S A s.heap H locs) (hr : va_Run p l e R s m args below meth c H locs cells slots 0 0 (F0 m pc ls st) rest (va_Ql (fun (r2 : Int64) (_ : Unit) => r2 = r) (fun _ t => fx_P D cy Y ad σ' t.heap) (fx_A Y ad H.size) av) (fx_A Y ad H.size))
    (kk : ∀ (H : Heap) (locs : List Loc), fx_P D cy Y ad σ' H → va_S A s.heap H locs → W p l e R s m args below meth c H locs cells slots Q (F0 m (pc + 3) ls (.long r :: rest))) : W p l e R s m args below meth c H locs cells slots Q (F0 m pc ls st) := by
  obtain ⟨-, -, -, -, -, -, -, rfl, -⟩ := hC
  refine va_calll hr hS (fun q _ h => fx_sub hS.1 h) (fun q h => fx_sub hS.1 h) (fun r2 u t H1 locs1 ht hvm hw hB hz1 hk1 hS1 => ?_)
  subst hw
  exact kk H1 locs1 (ht ▸ hB) hS1
theorem fx_cv {av : Array Value} {st : List Value} (hC : fx_C p s m args c cc nL own D cy Y ad ec A) (hS : va_S A s.heap H locs) (hr : va_Run p l e R s m args below meth c H locs cells slots 0 0 (F0 m pc ls st) rest (va_Qv (fun (_ : Unit) => True) (fun _ t => fx_P D cy Y ad σ' t.heap) (fx_A Y ad H.size) av) (fx_A Y ad H.size))
    (kk : ∀ (H : Heap) (locs : List Loc), fx_P D cy Y ad σ' H → va_S A s.heap H locs → W p l e R s m args below meth c H locs cells slots Q (F0 m (pc + 3) ls rest)) : W p l e R s m args below meth c H locs cells slots Q (F0 m pc ls st) := by
  obtain ⟨-, -, -, -, -, -, -, rfl, -⟩ := hC
  refine va_callv hr hS (fun q _ h => fx_sub hS.1 h) (fun q h => fx_sub hS.1 h) (fun u t H1 locs1 ht hvm hw hB hz1 hk1 hS1 => ?_)
  exact kk H1 locs1 (ht ▸ hB) hS1
end FXR
/-- a contract out of a walk -/
theorem fx_mi {l : Launch} {y : MethodName} {cc : ByteArray} {nL : Nat} {ret : Option FieldType} {d : Nat} {Y : LY} {av : (Nat → Nat) → (Nat → Nat) → List Value} {σ σ' : FH} {r : Int32} {own : String} (hown : y.cls = own) (hy : plainName y.cls = true)
    (body : ∀ (p : Program) (e : Env) (s : State) (m : MethodId) (below : List Frame) (meth : Method) (c : Code) (D : va_G) (cy : Nat → ClassId) (ad ec : Nat → Nat) (A : Nat → Prop), fx_C p s m (av ad ec).toArray c cc nL own D cy Y ad ec A → meth.sig.returnType = ret → meth.locks = false → fx_P D cy Y ad σ s.heap → va_S A s.heap s.heap [] →
      W p l e (fx_R d) s m (av ad ec).toArray below meth c s.heap [] 0 0 (MQ below (va_Qi (fun (r2 : Int32) (_ : Unit) => r2 = r) (fun _ t => fx_P D cy Y ad σ' t.heap) A) (av ad ec).toArray s 0 0 A) (entryFrame m (av ad ec).toArray nL)) : fx_Mi l y cc nL ret d Y av σ r σ' := by
  intro D cy ad ec sz
  refine Met.ofW (cc := cc) (maxL := nL) (ret := ret) hy rfl ?_
  intro p e s m args below meth c s₁ B hml hv
  obtain ⟨rfl, rfl, hP, hK, hI, hE⟩ := hv
  have hts := atoms_spec (ws := .code y cc nL ret :: fx_tb) B.pre
  exact body p e s m below meth c D cy ad ec _ ⟨B.exec, B.bytes, hml, hown ▸ findClass_of_methodNamed B.named, fun w hw => hts w (List.mem_cons_of_mem _ hw), hK, hI, rfl, hE⟩ B.returns B.notSynchronized hP va_S.rf
theorem fx_ml {l : Launch} {y : MethodName} {cc : ByteArray} {nL : Nat} {ret : Option FieldType} {d : Nat} {Y : LY} {av : (Nat → Nat) → (Nat → Nat) → List Value} {σ σ' : FH} {r : Int64} {own : String} (hown : y.cls = own) (hy : plainName y.cls = true)
    (body : ∀ (p : Program) (e : Env) (s : State) (m : MethodId) (below : List Frame) (meth : Method) (c : Code) (D : va_G) (cy : Nat → ClassId) (ad ec : Nat → Nat) (A : Nat → Prop), fx_C p s m (av ad ec).toArray c cc nL own D cy Y ad ec A → meth.sig.returnType = ret → meth.locks = false → fx_P D cy Y ad σ s.heap → va_S A s.heap s.heap [] →
      W p l e (fx_R d) s m (av ad ec).toArray below meth c s.heap [] 0 0 (MQ below (va_Ql (fun (r2 : Int64) (_ : Unit) => r2 = r) (fun _ t => fx_P D cy Y ad σ' t.heap) A) (av ad ec).toArray s 0 0 A) (entryFrame m (av ad ec).toArray nL)) : fx_Ml l y cc nL ret d Y av σ r σ' := by
  intro D cy ad ec sz
  refine Met.ofW (cc := cc) (maxL := nL) (ret := ret) hy rfl ?_
  intro p e s m args below meth c s₁ B hml hv
  obtain ⟨rfl, rfl, hP, hK, hI, hE⟩ := hv
  have hts := atoms_spec (ws := .code y cc nL ret :: fx_tb) B.pre
  exact body p e s m below meth c D cy ad ec _ ⟨B.exec, B.bytes, hml, hown ▸ findClass_of_methodNamed B.named, fun w hw => hts w (List.mem_cons_of_mem _ hw), hK, hI, rfl, hE⟩ B.returns B.notSynchronized hP va_S.rf
theorem fx_mv {l : Launch} {y : MethodName} {cc : ByteArray} {nL : Nat} {ret : Option FieldType} {d : Nat} {Y : LY} {av : (Nat → Nat) → (Nat → Nat) → List Value} {σ σ' : FH} {own : String} (hown : y.cls = own) (hy : plainName y.cls = true)
    (body : ∀ (p : Program) (e : Env) (s : State) (m : MethodId) (below : List Frame) (meth : Method) (c : Code) (D : va_G) (cy : Nat → ClassId) (ad ec : Nat → Nat) (A : Nat → Prop), fx_C p s m (av ad ec).toArray c cc nL own D cy Y ad ec A → meth.sig.returnType = ret → meth.locks = false → fx_P D cy Y ad σ s.heap → va_S A s.heap s.heap [] →
      W p l e (fx_R d) s m (av ad ec).toArray below meth c s.heap [] 0 0 (MQ below (va_Qv (fun (_ : Unit) => True) (fun _ t => fx_P D cy Y ad σ' t.heap) A) (av ad ec).toArray s 0 0 A) (entryFrame m (av ad ec).toArray nL)) : fx_Mv l y cc nL ret d Y av σ σ' := by
  intro D cy ad ec sz
  refine Met.ofW (cc := cc) (maxL := nL) (ret := ret) hy rfl ?_
  intro p e s m args below meth c s₁ B hml hv
  obtain ⟨rfl, rfl, hP, hK, hI, hE⟩ := hv
  have hts := atoms_spec (ws := .code y cc nL ret :: fx_tb) B.pre
  exact body p e s m below meth c D cy ad ec _ ⟨B.exec, B.bytes, hml, hown ▸ findClass_of_methodNamed B.named, fun w hw => hts w (List.mem_cons_of_mem _ hw), hK, hI, rfl, hE⟩ B.returns B.notSynchronized hP va_S.rf
section FXE
variable {p : Program} {l : Launch} {e : Env} {R : Room} {s : State} {m : MethodId} {args : Array Value} {below : List Frame} {meth : Method} {c : Code} {H : Heap} {locs : List Loc} {cells slots : Nat}
variable {cc : ByteArray} {pc nL : Nat} {ls : Array Slot} {own : String} {D : va_G} {cy : Nat → ClassId} {Y : LY} {ad ec : Nat → Nat} {A : Nat → Prop} {σ : FH}
theorem fx_iret {v : Int32} (hC : fx_C p s m args c cc nL own D cy Y ad ec A) (hr : meth.sig.returnType = some .int) (hk : meth.locks = false) (hP : fx_P D cy Y ad σ H) (hS : va_S A s.heap H locs) (hdg : decode cc pc = .ok (.ireturn, 1)) :
    W p l e R s m args below meth c H locs cells slots (MQ below (va_Qi (fun (r2 : Int32) (_ : Unit) => r2 = v) (fun _ t => fx_P D cy Y ad σ t.heap) A) args s cells slots A) (F0 m pc ls [.int v]) := by
  obtain ⟨hx, hb, -⟩ := hC
  exact W.iret (v := v) hx hb hr (fun t ht hW => ⟨⟨v, (), rfl, rfl, by show fx_P D cy Y ad σ t.heap; rw [ht]; exact hP⟩, hS.F ht⟩) hS.2.2 hdg hk
theorem fx_zret {v : Int32} {ty : FieldType} (hC : fx_C p s m args c cc nL own D cy Y ad ec A) (hr : meth.sig.returnType = some ty) (hk : meth.locks = false) (hn : narrow ty (.int v) = .int v) (hP : fx_P D cy Y ad σ H) (hS : va_S A s.heap H locs) (hdg : decode cc pc = .ok (.ireturn, 1)) :
    W p l e R s m args below meth c H locs cells slots (MQ below (va_Qi (fun (r2 : Int32) (_ : Unit) => r2 = v) (fun _ t => fx_P D cy Y ad σ t.heap) A) args s cells slots A) (F0 m pc ls [.int v]) := by
  obtain ⟨hx, hb, -⟩ := hC
  exact W.zret (v := v) hx hb hr hn (fun t ht hW => ⟨⟨v, (), rfl, rfl, by show fx_P D cy Y ad σ t.heap; rw [ht]; exact hP⟩, hS.F ht⟩) hS.2.2 hdg hk
theorem fx_lret {v : Int64} (hC : fx_C p s m args c cc nL own D cy Y ad ec A) (hr : meth.sig.returnType = some .long) (hk : meth.locks = false) (hP : fx_P D cy Y ad σ H) (hS : va_S A s.heap H locs) (hdg : decode cc pc = .ok (.lreturn, 1)) :
    W p l e R s m args below meth c H locs cells slots (MQ below (va_Ql (fun (r2 : Int64) (_ : Unit) => r2 = v) (fun _ t => fx_P D cy Y ad σ t.heap) A) args s cells slots A) (F0 m pc ls [.long v]) := by
  obtain ⟨hx, hb, -⟩ := hC
  exact W.lret (v := v) hx hb hr (fun t ht hW => ⟨⟨v, (), rfl, rfl, by show fx_P D cy Y ad σ t.heap; rw [ht]; exact hP⟩, hS.F ht⟩) hS.2.2 hdg hk
theorem fx_vret (hC : fx_C p s m args c cc nL own D cy Y ad ec A) (hr : meth.sig.returnType = none) (hk : meth.locks = false) (hP : fx_P D cy Y ad σ H) (hS : va_S A s.heap H locs) (hdg : decode cc pc = .ok (.return_, 1)) :
    W p l e R s m args below meth c H locs cells slots (MQ below (va_Qv (fun (_ : Unit) => True) (fun _ t => fx_P D cy Y ad σ t.heap) A) args s cells slots A) (F0 m pc ls []) := by
  obtain ⟨hx, hb, -⟩ := hC
  exact W.vret hx hb hr (fun t ht hW => ⟨⟨(), rfl, trivial, by show fx_P D cy Y ad σ t.heap; rw [ht]; exact hP⟩, hS.F ht⟩) hS.2.2 hdg hk
end FXE
