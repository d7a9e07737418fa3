theorem fx_it {β : Type} {c : Prop} [Decidable c] {a b x : β} (hc : c) (h : (if c then a else b) = x) : a = x := by rw [if_pos hc] at h; exact h
theorem fx_ie {β : Type} {c : Prop} [Decidable c] {a b x : β} (hc : ¬ c) (h : (if c then a else b) = x) : b = x := by rw [if_neg hc] at h; exact h
theorem fx_miF' {l : Launch} {y : MethodName} {cc : ByteArray} {nL : Nat} {ret : Option FieldType} {d : Nat} {Y : LY} {av : (Nat → Nat) → (Nat → Nat) → List Value} {σ σ' : FH} {r : Int32} {own : String} (hown : y.cls = own) (hy : plainFor y = true)
    (body : ∀ (p : Program) (e : Env) (s : State) (m : MethodId) (args : Array Value) (below : List Frame) (meth : Method) (c : Code) (D : va_G) (cy : Nat → ClassId) (ad ec : Nat → Nat) (A : Nat → Prop), fx_C p s m args c cc nL own D cy Y ad ec A → meth.sig.returnType = ret → meth.locks = false → fx_P D cy Y ad σ s.heap → va_S A s.heap s.heap [] →
      W p l e (fx_R d) s m args below meth c s.heap [] 0 0 (fx_Qi D cy Y ad A below args s r σ') (entryFrame m (av ad ec).toArray nL)) : fx_Mi l y cc nL ret d Y av σ r σ' := by
  intro D cy ad ec sz
  refine va_MetF (cc := cc) (maxL := nL) (ret := ret) hy rfl ?_
  intro p e s m args below meth c s₁ B hml hv
  obtain ⟨rfl, rfl, hP, hK, hI, hE⟩ := hv
  have hts := atoms_spec (ws := .code y cc nL ret :: fx_tb) B.pre
  exact body p e s m _ below meth c D cy ad ec _ ⟨B.exec, B.bytes, hml, hown ▸ findClass_of_methodNamed B.named, fun w hw => hts w (List.mem_cons_of_mem _ hw), hK, hI, rfl, hE⟩ B.returns B.notSynchronized hP va_S.rf
