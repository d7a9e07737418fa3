/-! ===== reading a law: the class's moves ===== -/
/-- what reading a law changes in the class: its tokens, the law at q -/
def gX (q : Nat) (σ σ' : FH) : Prop := (∀ b j, ¬ (b = 3 ∧ 2 ≤ j ∧ j ≤ 8) → b ≠ q → b ≠ q + 1 → σ'.1 b j = σ.1 b j) ∧ (∀ b j, ¬ (b = 3 ∧ j = 7) → σ'.2.1 b j = σ.2.1 b j) ∧ σ'.2.2 = σ.2.2
theorem gX_rf (q : Nat) (σ : FH) : gX q σ σ := ⟨fun _ _ _ _ _ => rfl, fun _ _ _ => rfl, rfl⟩
theorem gX_tr {q : Nat} {a b c : FH} (h : gX q a b) (h' : gX q b c) : gX q a c := ⟨fun p j z1 z2 z3 => (h'.1 p j z1 z2 z3).trans (h.1 p j z1 z2 z3), fun p j z => (h'.2.1 p j z).trans (h.2.1 p j z), h'.2.2.trans h.2.2⟩
theorem gX_fA {q : Nat} {a b : FH} (h : fA a b) : gX q a b := ⟨fun p j z1 _ _ => h.1 p j (by omega), h.2.1, h.2.2⟩
theorem gX_w {q : Nat} {σ : FH} {v : Int32} : gX q σ (fx_si σ 3 8 v) := ⟨fun p j z1 _ _ => by rw [si1, if_neg (by omega)], fun _ _ _ => rfl, rfl⟩
/-- what putting a step changes -/
def gP (q : Nat) (σ σ' : FH) : Prop := (∀ b j, b ≠ q → b ≠ q + 1 → σ'.1 b j = σ.1 b j) ∧ σ'.2 = σ.2
theorem gX_gP {q : Nat} {a b : FH} (h : gP q a b) : gX q a b := ⟨fun p j _ z2 z3 => h.1 p j z2 z3, fun p j _ => by rw [h.2], by rw [h.2]⟩
/-- the class stands at a token, having put C -/
def XC (σ : FH) (t : TP) (τ : TK) (q : Nat) (C : List Int32) : Prop := XT σ t τ ∧ TKok t τ ∧ σ.1 3 8 = 0 ∧ σ.1 q 1 = nI C.length ∧ CD (σ.1 (q + 1)) 0 C ∧ C.length ≤ τ.2.1
def qOK (q : Nat) : Prop := q = 25 ∨ q = 36
theorem qOK_L {q : Nat} (h : qOK q) : LX[q]? = some (1, 0) := by
  rcases h with rfl | rfl <;> rfl
theorem XT_fr {σ σ' : FH} {t : TP} {τ : TK} (h : XT σ t τ) (e3 : ∀ j, 1 ≤ j → j ≤ 6 → σ'.1 3 j = σ.1 3 j) (e4 : ∀ j, σ'.1 4 j = σ.1 4 j) (e7 : σ'.2.1 3 7 = σ.2.1 3 7) : XT σ' t τ := by
  obtain ⟨h1, h2, h3, h4, h5, h6, h7⟩ := h
  exact ⟨⟨h1.1, (e3 1 (by omega) (by omega)).trans h1.2.1, fun j hj => ⟨(h1.2.2 j hj).1, (e4 j).trans (h1.2.2 j hj).2⟩⟩, (e3 2 (by omega) (by omega)).trans h2, (e3 3 (by omega) (by omega)).trans h3, (e3 4 (by omega) (by omega)).trans h4, fun z => e7.trans (h5 z), fun z => (e3 5 (by omega) (by omega)).trans (h6 z), fun z => (e3 6 (by omega) (by omega)).trans (h7 z)⟩
theorem XT_gP {σ σ' : FH} {t : TP} {τ : TK} {q : Nat} (hq : qOK q) (h : XT σ t τ) (g : gP q σ σ') : XT σ' t τ := by
  have : q = 25 ∨ q = 36 := hq
  exact XT_fr h (fun j _ _ => g.1 3 j (by omega) (by omega)) (fun j => g.1 4 j (by omega) (by omega)) (by rw [g.2])
theorem x_adv {σ : FH} {t : TP} {τ : TK} (h : XT σ t τ) (ho : TKok t τ) : ∃ σ', fX9_advance σ = some σ' ∧ XT σ' t (tkAt t τ.2.2.1) ∧ TKok t (tkAt t τ.2.2.1) ∧ τ.2.2.1 ≤ (tkAt t τ.2.2.1).2.1 ∧ fA σ σ' := by
  obtain ⟨σ', e, k, g⟩ := x_advance h.1 h.2.2.1 ho.2.2.1
  obtain ⟨k1, k2⟩ := tkAt_ok h.1.1 ho.2.2.1
  exact ⟨σ', e, k, k1, k2, g⟩
theorem x_advC {σ : FH} {t : TP} {τ : TK} {q : Nat} {C : List Int32} (hq : qOK q) (h : XC σ t τ q C) : ∃ σ', fX9_advance σ = some σ' ∧ XC σ' t (tkAt t τ.2.2.1) q C ∧ τ.2.2.1 ≤ (tkAt t τ.2.2.1).2.1 ∧ fA σ σ' := by
  have hq' : q = 25 ∨ q = 36 := hq
  obtain ⟨h1, h2, h3, h4, h5, h6⟩ := h
  obtain ⟨σ', e, k, o, p, g⟩ := x_adv h1 h2
  have := h2.2.1
  exact ⟨σ', e, ⟨k, o, by rw [g.1 3 8 (by omega)]; exact h3, by rw [g.1 q 1 (by omega)]; exact h4, CD_fr _ _ h5 (fun i _ _ => g.1 (q + 1) i (by omega)), by omega⟩, p, g⟩
theorem x_putC {σ : FH} {q : Nat} {C : List Int32} (hq : qOK q) (h4 : σ.1 q 1 = nI C.length) (h5 : CD (σ.1 (q + 1)) 0 C) (hl : C.length < 1000) (c : Int32) : ∃ σ', fX1_put q c σ = some σ' ∧ σ'.1 q 1 = nI (C ++ [c]).length ∧ CD (σ'.1 (q + 1)) 0 (C ++ [c]) ∧ gP q σ σ' := by
  have hq' : q = 25 ∨ q = 36 := hq
  refine ⟨fx_si (fx_si σ (q + 1) C.length c) q 1 (nI (C.length + 1)), ?_, ?_, ?_, ⟨fun b j z1 z2 => by rw [si1, if_neg (by omega), si1, if_neg (by omega)], rfl⟩⟩
  · unfold fX1_put
    rw [fxG_t (qOK_L hq), h4, if_neg (nI_pos (by omega)), if_neg (show ¬ (1000 : Int32) ≤ nI C.length from le_no (b := 1000) hl (by decide)), fxG_t (fx_inN hl (by decide)), fx_clN (by omega), fxL_r, si1, if_neg (by omega), h4, nI_1, fxL_r]
  · rw [si1, if_pos ⟨rfl, rfl⟩, List.length_append]; rfl
  · rw [CD_app]
    refine ⟨CD_fr C 0 h5 (fun i i1 i2 => by rw [si1, if_neg (by omega), si1, if_neg (by omega)]), ?_, trivial⟩
    rw [Nat.zero_add, si1, if_neg (by omega), si1, if_pos ⟨rfl, rfl⟩]
theorem x_put_any {q : Nat} (hq : qOK q) (c : Int32) (σ : FH) : ∃ σ', fX1_put q c σ = some σ' ∧ gP q σ σ' := by
  unfold fX1_put
  rw [fxG_t (qOK_L hq)]
  rcases pk_ix (σ.1 q 1) (n := 1000) (by decide) with z | z | ⟨j, hj, z⟩
  · rw [if_pos z]; exact ⟨σ, rfl, fun _ _ _ _ => rfl, rfl⟩
  · by_cases y : σ.1 q 1 < 0
    · rw [if_pos y]; exact ⟨σ, rfl, fun _ _ _ _ => rfl, rfl⟩
    · rw [if_neg y, if_pos (show (1000 : Int32) ≤ σ.1 q 1 from z)]; exact ⟨σ, rfl, fun _ _ _ _ => rfl, rfl⟩
  · rw [z, if_neg (nI_pos (by omega)), if_neg (show ¬ (1000 : Int32) ≤ nI j from le_no (b := 1000) hj (by decide)), fxG_t (fx_inN hj (by decide)), fxL_r, fxL_r]
    exact ⟨_, rfl, fun b j z1 z2 => by rw [si1, if_neg (by omega), si1, if_neg (by omega)], rfl⟩
theorem x_wrong {σ : FH} {t : TP} {τ : TK} (h : XT σ t τ) (h8 : σ.1 3 8 = 0) (k : Nat) {x : Int32} (hx : x = nI k) : fX9_wrong x σ = some (0, fx_si σ 3 8 (nI (k + 16 * τ.2.1))) := by
  unfold fX9_wrong
  rw [if_pos h8, h.2.1, hx, show (16 : Int32) * nI τ.2.1 = nI (16 * τ.2.1) from pk_mul 16 _, nI_add, fxL_r]
theorem x_isWord_any {a : Nat} (ha : a < 24) (σ : FH) : ∃ r, fX9_isWord a σ = some r := by
  unfold fX9_isWord
  rw [fxG_t ha]
  by_cases c : σ.1 3 4 = 3
  · rw [if_pos c]
    by_cases d : lg_cmp (σ.2.1 3 7) (fx_keys.getD a 0) = 0
    · rw [if_pos d]; exact ⟨_, rfl⟩
    · rw [if_neg d]; exact ⟨_, rfl⟩
  · rw [if_neg c]; exact ⟨_, rfl⟩
theorem x_isSign_any (a : Int32) (σ : FH) : ∃ r, fX9_isSign a σ = some r := by
  unfold fX9_isSign
  rw [fxL_r]
  by_cases c : σ.1 3 4 = 4
  · rw [if_pos c]
    by_cases d : σ.1 3 6 = a
    · rw [if_pos d, fxG_t (by decide)]; exact ⟨_, rfl⟩
    · rw [if_neg d, fxG_t (by decide)]; exact ⟨_, rfl⟩
  · rw [if_neg c, fxG_t (by decide)]; exact ⟨_, rfl⟩
theorem x_step_any {L : Nat} (hL : L ≤ 3) (σ : FH) : ∃ r, fX2_stepHere (nI L) σ = some r := by
  obtain ⟨r18, e18⟩ := x_isWord_any (a := 18) (by decide) σ
  obtain ⟨r19, e19⟩ := x_isWord_any (a := 19) (by decide) σ
  obtain ⟨r60, e60⟩ := x_isSign_any 60 σ
  obtain ⟨r61, e61⟩ := x_isSign_any 61 σ
  obtain ⟨r43, e43⟩ := x_isSign_any 43 σ
  obtain ⟨r45, e45⟩ := x_isSign_any 45 σ
  obtain ⟨r42, e42⟩ := x_isSign_any 42 σ
  unfold fX2_stepHere
  rw [e18, e19, e60, e61, e43, e45, e42]
  rcases (show L = 0 ∨ L = 1 ∨ L = 2 ∨ L = 3 by omega) with rfl | rfl | rfl | rfl
  · rw [if_pos (by decide), fxBP_s, fxBP_s]
    by_cases c : r18 = 0
    · rw [if_pos c]
      by_cases d : r19 = 0
      · rw [if_pos d]; exact ⟨_, rfl⟩
      · rw [if_neg d]; exact ⟨_, rfl⟩
    · rw [if_neg c]; exact ⟨_, rfl⟩
  · rw [if_neg (by decide), if_pos (by decide), fxBP_s, fxBP_s]
    by_cases c : r60 = 0
    · rw [if_pos c]
      by_cases d : r61 = 0
      · rw [if_pos d]; exact ⟨_, rfl⟩
      · rw [if_neg d]; exact ⟨_, rfl⟩
    · rw [if_neg c]; exact ⟨_, rfl⟩
  · rw [if_neg (by decide), if_neg (by decide), if_pos (by decide), fxBP_s, fxBP_s]
    by_cases c : r43 = 0
    · rw [if_pos c]
      by_cases d : r45 = 0
      · rw [if_pos d]; exact ⟨_, rfl⟩
      · rw [if_neg d]; exact ⟨_, rfl⟩
    · rw [if_neg c]; exact ⟨_, rfl⟩
  · rw [if_neg (by decide), if_neg (by decide), if_neg (by decide), fxBP_s, fxL_r]; exact ⟨_, rfl⟩
theorem x_stepHere {σ : FH} {t : TP} {τ : TK} (h : XT σ t τ) (ho : TKok t τ) {L : Nat} (hL : L ≤ 3) : fX2_stepHere (nI L) σ = some (opx L t τ) := by
  unfold fX2_stepHere
  rw [x_isWord h ho (a := 18) (by decide), x_isWord h ho (a := 19) (by decide), x_isSign h ho 60 (by decide) (by decide) (x := 60) rfl, x_isSign h ho 61 (by decide) (by decide) (x := 61) rfl, x_isSign h ho 43 (by decide) (by decide) (x := 43) rfl, x_isSign h ho 45 (by decide) (by decide) (x := 45) rfl, x_isSign h ho 42 (by decide) (by decide) (x := 42) rfl]
  rcases (show L = 0 ∨ L = 1 ∨ L = 2 ∨ L = 3 by omega) with rfl | rfl | rfl | rfl
  · rw [if_pos (by decide), fxBP_s, fxBP_s, opx_0]
    by_cases c : wx τ = 18
    · rw [b1 c, io, if_pos c]
    · rw [b0 c, iz, if_neg c]
      by_cases d : wx τ = 19
      · rw [b1 d, io, if_pos d]
      · rw [b0 d, iz, if_neg d]
  · rw [if_neg (by decide), if_pos (by decide), fxBP_s, fxBP_s, opx_1]
    by_cases c : sx t τ = 60
    · rw [b1 c, io, if_pos c]
    · rw [b0 c, iz, if_neg c]
      by_cases d : sx t τ = 61
      · rw [b1 d, io, if_pos d]
      · rw [b0 d, iz, if_neg d]
  · rw [if_neg (by decide), if_neg (by decide), if_pos (by decide), fxBP_s, fxBP_s, opx_2]
    by_cases c : sx t τ = 43
    · rw [b1 c, io, if_pos c]
    · rw [b0 c, iz, if_neg c]
      by_cases d : sx t τ = 45
      · rw [b1 d, io, if_pos d]
      · rw [b0 d, iz, if_neg d]
  · rw [if_neg (by decide), if_neg (by decide), if_neg (by decide), fxBP_s, fxL_r, opx_3]
    by_cases c : sx t τ = 42
    · rw [b1 c, io, if_pos c]
    · rw [b0 c, iz, if_neg c]
/-- the class's part: what it does, by what stands there -/
theorem x_part_eq (D q d : Nat) (σ : FH) : fX2_readPart (D + 1) q (nI d) σ = bX2_readPart (fX2_readLevel D) (fX2_readPart D) q (nI d) σ := rfl
theorem x_level_eq (D q : Nat) (L d : Int32) (σ : FH) : fX2_readLevel (D + 1) q L d σ = bX2_readLevel (fX2_readLevel D) (fX2_readPart D) q L d σ := rfl
section XR
variable {σ : FH} {t : TP} {τ : TK} {C : List Int32} {q D d : Nat}
theorem nfct (τ : TK) : (- nI (fct τ) = 0) = (fct τ = 0) := by
  have := fct_4 τ
  have h : ∀ n, n < 5 → (- nI n = 0 ↔ n = 0) := by decide
  exact propext (h _ (by omega))
theorem x_part_f1 (hq : qOK q) (h : XC σ t τ q C) (h1 : fct τ = 0) (h2 : wx τ ≠ 17) (h3 : sx t τ ≠ 40) (h4 : τ.1 ≠ 2) : fX2_readPart (D + 1) q (nI d) σ = some (0, fx_si σ 3 8 (nI (1 + 16 * τ.2.1))) := by
  rw [x_part_eq]
  unfold bX2_readPart
  rw [fxG_t (qOK_L hq), x_factHere h.1 h.2.1, x_isWord h.1 h.2.1 (a := 17) (by decide), x_isSign h.1 h.2.1 40 (by decide) (by decide) (x := 40) rfl, x_isNumber h.1 h.2.1, fxBP_s, fxBP_s, fxBP_s, fxL_r, if_pos (by rw [nfct]; exact h1), b0 h2, b0 h3, b0 h4, iz, iz, fxBP_s, iz, x_wrong h.1 h.2.2.1 1 (x := 1) rfl, fxBI_s, fxG_t bo0]
theorem x_part_s (h : XC σ t τ q C) (hp : pst t τ) (A B : Option (Int32 × FH)) : (if - nI (fct τ) = 0 then (if bv (decide (wx τ = 17)) = 0 then (if bv (decide (sx t τ = 40)) = 0 then (fxBP (some (bv (decide (τ.1 = 2)))) fun r58 => if r58 = 0 then B else A) else A) else A) else A) = A := by
  by_cases c1 : fct τ = 0
  · rw [if_pos (by rw [nfct]; exact c1)]
    by_cases c2 : wx τ = 17
    · rw [b1 c2, io]
    · rw [b0 c2, iz]
      by_cases c3 : sx t τ = 40
      · rw [b1 c3, io]
      · rw [b0 c3, iz, fxBP_s, b1 (show τ.1 = 2 by rcases hp with z | z | z | z; exact absurd c1 z; exact absurd z c2; exact absurd z c3; exact z), io]
  · rw [if_neg (by rw [nfct]; exact c1)]
/-- behind its test -/
def xpt (D q : Nat) (a2 r2 r5 r8 : Int32) (σ : FH) : Option (Int32 × FH) :=
  if a2 < 5 then (if r5 = 0 then (if r8 = 0 then (fxBV (fX1_put q (if r2 = 0 then (σ.1 3 5) else r2) σ) fun σ24 => fxBV (fX9_advance σ24) fun σ17 => some ((1 : Int32), σ17)) else (fxBV (fX9_advance σ) fun σ27 => fxBI (fX2_readLevel D q 0 (a2 + 1) σ27) fun r29 σ30 => if r29 = 0 then some ((0 : Int32), σ30) else fxBP (fX9_isSign 41 σ30) fun r33 => if r33 = 0 then (fxBI (fX9_wrong 1 σ30) fun r37 σ38 => fxG (fx_bo r37 = true) (some (r37, σ38))) else fxBV (fX9_advance σ30) fun σ17 => some ((1 : Int32), σ17)))
    else (fxBV (fX9_advance σ) fun σ42 => fxBI (fX2_readPart D q (a2 + 1) σ42) fun r44 σ45 => fxBV (fX1_put q (-5) σ45) fun σ48 => fxG (fx_bo r44 = true) (some (r44, σ48))))
  else (fxBI (fX9_wrong 5 σ) fun r51 σ52 => fxG (fx_bo r51 = true) (some (r51, σ52)))
theorem x_part_g (hq : qOK q) (h : XC σ t τ q C) (hp : pst t τ) : fX2_readPart (D + 1) q (nI d) σ = xpt D q (nI d) (- nI (fct τ)) (bv (decide (wx τ = 17))) (bv (decide (sx t τ = 40))) σ := by
  rw [x_part_eq]
  unfold bX2_readPart
  rw [fxG_t (qOK_L hq), x_factHere h.1 h.2.1, x_isWord h.1 h.2.1 (a := 17) (by decide), x_isSign h.1 h.2.1 40 (by decide) (by decide) (x := 40) rfl, x_isNumber h.1 h.2.1, fxBP_s, fxBP_s, fxBP_s, fxL_r, x_part_s h hp]
  rfl
end XR
