/-! ===== the reference works a law out: rows of numbers by depth ===== -/
/-- 0 kept, 1 kept by, 2 ahead, 3 against, 4 sum, 5 sum by, 6 term, 7 term by, 8 by not -/
abbrev RW : Type := Nat → Int32
abbrev WS : Type := Nat × (Nat → RW)
def phi (σ : FH) : Nat → RW := fun i f => σ.1 (15 + f) i
def sR (φ : Nat → RW) (i : Nat) (r : RW) : Nat → RW := fun j => if j = i then r else φ j
def smV (r : RW) : Int32 := if r 5 = 21 then r 4 - r 6 else r 4 + r 6
def teV (r : RW) : Int32 := if r 3 = 25 then (if r 2 = smV r then 1 else 0) else (if r 3 = 24 then (if smV r ≤ r 2 then 0 else 1) else smV r)
def chV (r : RW) : Int32 := if r 1 = 27 then (if r 0 = 0 then (if teV r = 0 then 0 else 1) else 1) else (if r 1 = 26 then (if r 0 = 0 then 0 else (if teV r = 0 then 0 else 1)) else teV r)
def opR (r : RW) : RW := upd (upd (upd (upd (upd r 1 0) 3 0) 4 0) 5 20) 7 0
def smR (r : RW) : RW := upd (upd r 4 (smV r)) 7 0
def cmR (r : RW) (c : Int32) : RW := upd (upd (upd (upd (smR r) 2 (smV r)) 3 c) 4 0) 5 20
def teR (r : RW) : RW := upd (upd (upd (upd (smR r) 0 (chV r)) 3 0) 4 0) 5 20
def tmR (r : RW) (v : Int32) : RW := upd r 6 (if r 7 = 0 then v else r 6 * v)
/-- a value comes to the rows below the nots -/
def dlv : Int32 → Nat → (Nat → RW) → WS
  | v, 0, φ => (0, sR φ 0 (tmR (φ 0) v))
  | v, d + 1, φ => if φ (d + 1) 8 = 1 then dlv (ngt v) d φ else (d + 1, sR φ (d + 1) (tmR (φ (d + 1)) v))
def istep (ev : EV) (s : WS) (c : Int32) : Option WS :=
  if c = 28 ∨ c = 30 then (if s.1 < 6 then some (s.1 + 1, sR s.2 (s.1 + 1) (opR (upd (s.2 (s.1 + 1)) 8 (if c = 30 then 1 else 0)))) else none)
  else if c = 20 ∨ c = 21 then some (s.1, sR s.2 s.1 (upd (smR (s.2 s.1)) 5 c))
  else if c = 22 then some (s.1, sR s.2 s.1 (upd (s.2 s.1) 7 c))
  else if c = 24 ∨ c = 25 then some (s.1, sR s.2 s.1 (cmR (s.2 s.1) c))
  else if c = 26 ∨ c = 27 then some (s.1, sR s.2 s.1 (upd (teR (s.2 s.1)) 1 c))
  else if c = 29 then (if 0 < s.1 then some (dlv (chV (s.2 s.1)) (s.1 - 1) (sR s.2 s.1 (teR (s.2 s.1)))) else none)
  else if c = 1 ∨ c = 2 ∨ c = 3 ∨ c = 4 then some (dlv (ev c.toNatClampNeg) s.1 s.2)
  else if c < 100 then none else some (dlv (c - 100) s.1 s.2)
def irun (ev : EV) : List Int32 → WS → Option WS
  | [], s => some s
  | c :: l, s => (istep ev s c).bind (irun ev l)
theorem irun_app (ev : EV) : ∀ (l l' : List Int32) (s : WS), irun ev (l ++ l') s = (irun ev l s).bind (irun ev l')
  | [], _, _ => rfl
  | c :: l, l', s => by
    rw [List.cons_append, irun, irun]
    cases istep ev s c with
    | none => rfl
    | some s1 => exact irun_app ev l l' s1
theorem phi_si (σ : FH) (f i : Nat) (v : Int32) : phi (fx_si σ (15 + f) i v) = sR (phi σ) i (upd (phi σ i) f v) := by
  funext j g
  unfold phi sR upd
  rw [si1]
  by_cases h : j = i
  · subst h
    by_cases h2 : g = f
    · subst h2; simp
    · rw [if_neg (by omega), if_pos rfl, if_neg h2]
  · rw [if_neg (by omega), if_neg h]
theorem sR_at (φ : Nat → RW) (i : Nat) (r : RW) : sR φ i r i = r := if_pos rfl
theorem sR_ne (φ : Nat → RW) {i j : Nat} (r : RW) (h : j ≠ i) : sR φ i r j = φ j := if_neg h
theorem sR_sR (φ : Nat → RW) (i : Nat) (r r' : RW) : sR (sR φ i r) i r' = sR φ i r' := by
  funext j
  unfold sR
  by_cases h : j = i
  · rw [if_pos h, if_pos h]
  · rw [if_neg h, if_neg h, if_neg h]
def agW9 (σ σ' : FH) : Prop := agr (fun b => 15 ≤ b ∧ b ≤ 23) σ σ'
theorem agW9_si {σ : FH} {f i : Nat} {v : Int32} (h : f ≤ 8) : agW9 σ (fx_si σ (15 + f) i v) := agr_si ⟨by omega, by omega⟩
theorem agW9_tr {a b c : FH} (h : agW9 a b) (h' : agW9 b c) : agW9 a c := agr_tr h h'
theorem agW9_rf (a : FH) : agW9 a a := agr_rf _ _
section WE
variable {σ : FH} {d : Nat}
theorem w_opens (h : d < 7) : ∃ σ', fX12_opens (nI d) σ = some σ' ∧ phi σ' = sR (phi σ) d (opR (phi σ d)) ∧ agW9 σ σ' := by
  unfold fX12_opens
  have hi : fx_in (nI d) 7 = true := fx_inN h (by decide)
  have hc : Int32.toNatClampNeg (nI d) = d := fx_clN (by omega)
  rw [hc]
  simp only [fxL_r, fxG_t hi]
  refine ⟨_, rfl, ?_, ?_⟩
  · rw [phi_si _ 7, phi_si _ 5, phi_si _ 4, phi_si _ 3, phi_si _ 1]
    simp only [sR_at, sR_sR]
    rfl
  · exact agW9_tr (agW9_si (f := 1) (by decide)) (agW9_tr (agW9_si (f := 3) (by decide)) (agW9_tr (agW9_si (f := 4) (by decide)) (agW9_tr (agW9_si (f := 5) (by decide)) (agW9_si (f := 7) (by decide)))))
theorem w_sums (h : d < 7) : ∃ σ', fX12_sums (nI d) σ = some σ' ∧ phi σ' = sR (phi σ) d (smR (phi σ d)) ∧ agW9 σ σ' := by
  unfold fX12_sums
  have hi : fx_in (nI d) 7 = true := fx_inN h (by decide)
  have hc : Int32.toNatClampNeg (nI d) = d := fx_clN (by omega)
  rw [hc]
  simp only [fxL_r, fxG_t hi]
  refine ⟨fx_si (fx_si σ (15 + 4) d (smV (phi σ d))) (15 + 7) d 0, ?_, ?_, ?_⟩
  · by_cases c : σ.1 20 d = 21
    · rw [if_pos c]
      have : smV (phi σ d) = σ.1 19 d - σ.1 21 d := if_pos c
      rw [this]
    · rw [if_neg c]
      have : smV (phi σ d) = σ.1 19 d + σ.1 21 d := if_neg c
      rw [this]
  · rw [phi_si _ 7, phi_si _ 4]
    simp only [sR_at, sR_sR]
    rfl
  · exact agW9_tr (agW9_si (f := 4) (by decide)) (agW9_si (f := 7) (by decide))
theorem w_tests (h : d < 7) : ∃ σ', fX12_tests (nI d) σ = some σ' ∧ phi σ' = sR (phi σ) d (teR (phi σ d)) ∧ agW9 σ σ' := by
  unfold fX12_tests
  have hi : fx_in (nI d) 7 = true := fx_inN h (by decide)
  have hc : Int32.toNatClampNeg (nI d) = d := fx_clN (by omega)
  obtain ⟨σ3, e3, p3, g3⟩ := w_sums (σ := σ) h
  rw [e3, fxBV_s, hc]
  simp only [fxL_r, fxG_t hi]
  have q : ∀ f, σ3.1 (15 + f) d = smR (phi σ d) f := fun f => by
    have := congrFun (congrFun p3 d) f
    rw [sR_at] at this
    exact this
  have q0 : σ3.1 15 d = phi σ d 0 := q 0
  have q1 : σ3.1 16 d = phi σ d 1 := q 1
  have q2 : σ3.1 17 d = phi σ d 2 := q 2
  have q3 : σ3.1 18 d = phi σ d 3 := q 3
  have q4 : σ3.1 19 d = smV (phi σ d) := q 4
  rw [q0, q1, q2, q3, q4]
  refine ⟨fx_si (fx_si (fx_si (fx_si σ3 (15 + 0) d (chV (phi σ d))) (15 + 3) d 0) (15 + 4) d 0) (15 + 5) d 20, ?_, ?_, ?_⟩
  · generalize phi σ d = r
    have key : ∀ x, (if r 3 = 24 then (if r 3 = 25 then (if r 1 = 26 then (if r 1 = 27 then x else x) else (if r 1 = 27 then x else x)) else (if r 1 = 26 then (if r 1 = 27 then x else x) else (if r 1 = 27 then x else x))) else x) = (x : Option FH) := fun x => by simp
    unfold chV teV
    by_cases c3 : r 3 = 24
    · have c3' : ¬ r 3 = 25 := by rw [c3]; decide
      rw [if_pos c3, if_neg c3', if_neg c3', if_pos c3]
      by_cases c1 : r 1 = 26
      · have c1' : ¬ r 1 = 27 := by rw [c1]; decide
        rw [if_pos c1, if_neg c1', if_neg c1', if_pos c1]
      · rw [if_neg c1]
        by_cases c1' : r 1 = 27
        · rw [if_pos c1', if_pos c1']
        · rw [if_neg c1', if_neg c1', if_neg c1]
    · rw [if_neg c3]
      by_cases c3' : r 3 = 25
      · rw [if_pos c3', if_pos c3']
        by_cases c1 : r 1 = 26
        · have c1' : ¬ r 1 = 27 := by rw [c1]; decide
          rw [if_pos c1, if_neg c1', if_neg c1', if_pos c1]
        · rw [if_neg c1]
          by_cases c1' : r 1 = 27
          · rw [if_pos c1', if_pos c1']
          · rw [if_neg c1', if_neg c1', if_neg c1]
      · rw [if_neg c3', if_neg c3', if_neg c3]
        by_cases c1 : r 1 = 26
        · have c1' : ¬ r 1 = 27 := by rw [c1]; decide
          rw [if_pos c1, if_neg c1', if_neg c1', if_pos c1]
        · rw [if_neg c1]
          by_cases c1' : r 1 = 27
          · rw [if_pos c1', if_pos c1']
          · rw [if_neg c1', if_neg c1', if_neg c1]
  · rw [phi_si _ 5, phi_si _ 4, phi_si _ 3, phi_si _ 0, p3]
    simp only [sR_at, sR_sR]
    rfl
  · exact agW9_tr g3 (agW9_tr (agW9_si (f := 0) (by decide)) (agW9_tr (agW9_si (f := 3) (by decide)) (agW9_tr (agW9_si (f := 4) (by decide)) (agW9_si (f := 5) (by decide)))))
/-- nots are passed -/
def pops : Int32 → Nat → (Nat → RW) → Nat × Int32
  | v, 0, _ => (0, v)
  | v, d + 1, φ => if φ (d + 1) 8 = 1 then pops (ngt v) d φ else (d + 1, v)
theorem pops_le (φ : Nat → RW) : ∀ (d : Nat) (v : Int32), (pops v d φ).1 ≤ d
  | 0, _ => Nat.le_refl 0
  | d + 1, v => by
    rw [pops]
    by_cases c : φ (d + 1) 8 = 1
    · rw [if_pos c]; have := pops_le φ d (ngt v); omega
    · rw [if_neg c]; exact Nat.le_refl _
theorem dlv_pops (φ : Nat → RW) : ∀ (d : Nat) (v : Int32), dlv v d φ = ((pops v d φ).1, sR φ (pops v d φ).1 (tmR (φ (pops v d φ).1) (pops v d φ).2))
  | 0, v => rfl
  | d + 1, v => by
    rw [dlv, pops]
    by_cases c : φ (d + 1) 8 = 1
    · rw [if_pos c, if_pos c]; exact dlv_pops φ d (ngt v)
    · rw [if_neg c, if_neg c]
theorem w_pops (σ : FH) (K : Int32 → Int32 → Option (Int32 × FH)) : ∀ (d n : Nat) (v : Int32), d < 7 → d < n → fX12_worked_268 σ K n (nI d) v = K (nI (pops v d (phi σ)).1) (pops v d (phi σ)).2
  | d, 0, _, _, h => absurd h (by omega)
  | 0, n + 1, v, _, _ => by rw [fX12_worked_268, if_pos (by decide)]; rfl
  | d + 1, n + 1, v, h7, h => by
    rw [fX12_worked_268, if_neg (show ¬ nI (d + 1) ≤ 0 from le_no (b := d + 1) (a := 0) (by omega) (by omega)), fxG_t (fx_inN h7 (by decide)), fx_clN (by omega), pk_m1, fxL_r, pops]
    by_cases c : σ.1 23 (d + 1) = 1
    · rw [if_pos c, if_pos (show phi σ (d + 1) 8 = 1 from c)]
      exact w_pops σ K d n (ngt v) (by omega) (by omega)
    · rw [if_neg c, if_neg (show ¬ phi σ (d + 1) 8 = 1 from c)]
end WE
