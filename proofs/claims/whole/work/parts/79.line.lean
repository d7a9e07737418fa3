/-! ===== a term is told: its lines ===== -/
def kX (D : Nat) (σ σ' : FH) : Prop := (∀ b j, ¬ ((b = 3 ∧ 2 ≤ j ∧ j ≤ 8) ∨ (D ≤ b ∧ b ≤ D + 4)) → σ'.1 b j = σ.1 b j) ∧ (∀ b j, ¬ (b = 3 ∧ j = 7) → σ'.2.1 b j = σ.2.1 b j) ∧ σ'.2.2 = σ.2.2
def pT (b j : Nat) : Prop := (b = 0 ∧ ((4 ≤ j ∧ j ≤ 9) ∨ j = 35)) ∨ (b = 25 ∧ j = 5) ∨ (26 ≤ b ∧ b ≤ 29 ∧ 200 ≤ j)
def kM (σ σ' : FH) : Prop := (∀ b j, ¬ pT b j → σ'.1 b j = σ.1 b j) ∧ (∀ b j, ¬ (b = 0 ∧ (j = 7 ∨ j = 36)) → σ'.2.1 b j = σ.2.1 b j) ∧ σ'.2.2 = σ.2.2
theorem kX_rf (D : Nat) (σ : FH) : kX D σ σ := ⟨fun _ _ _ => rfl, fun _ _ _ => rfl, rfl⟩
theorem kM_rf (σ : FH) : kM σ σ := ⟨fun _ _ _ => rfl, fun _ _ _ => rfl, rfl⟩
theorem kX_tr {D : Nat} {a b c : FH} (h : kX D a b) (h' : kX D b c) : kX D a c := ⟨fun q j z => (h'.1 q j z).trans (h.1 q j z), fun q j z => (h'.2.1 q j z).trans (h.2.1 q j z), h'.2.2.trans h.2.2⟩
theorem kM_tr {a b c : FH} (h : kM a b) (h' : kM b c) : kM a c := ⟨fun q j z => (h'.1 q j z).trans (h.1 q j z), fun q j z => (h'.2.1 q j z).trans (h.2.1 q j z), h'.2.2.trans h.2.2⟩
theorem kX_fW {D : Nat} {a b : FH} (h : fW a b) : kX D a b := ⟨fun q j z => h.1 q j (fun y => z (Or.inl y)), h.2.1, h.2.2⟩
theorem kX_fA {D : Nat} {a b : FH} (h : fA a b) : kX D a b := kX_fW (fW_fA h)
theorem kM_fY {a b : FH} (h : fY a b) : kM a b := ⟨fun q j z => h.1 q j (fun y => z (Or.inl y)), h.2.1, h.2.2⟩
theorem kM_fN {a b : FH} (h : fN a b) : kM a b := kM_fY (fY_fN h)
theorem kM_si {σ : FH} {b j : Nat} {v : Int32} (h : pT b j) : kM σ (fx_si σ b j v) := ⟨fun q i z => si1n _ (fun y => z (by rw [y.1, y.2]; exact h)), fun _ _ _ => rfl, rfl⟩
theorem NXo_k {σx σm σx' σm' : FH} {T o nw np D : Nat} {wn pn : Nat → List Nat} (hT : tOk T) (hD : D = 39 ∨ D = 44) (h : NXo σx σm T o nw np wn pn) (g1 : kX D σx σx') (g2 : kM σm σm') : NXo σx' σm' T o nw np wn pn := by
  have hT' : T = 17 ∨ T = 28 := hT
  obtain ⟨h1, h2, h3, h4, h5, h6, h7, h8⟩ := h
  refine ⟨h1, h2, (g1.1 T 0 (by omega)).trans h3, (g1.1 T 5 (by omega)).trans h4, (g2.1 2 _ (by unfold pT; omega)).trans h5, (g2.1 2 _ (by unfold pT; omega)).trans h6, fun i hi => ⟨(h7 i hi).1, (g1.2.1 (T + 1) i (by omega)).trans (h7 i hi).2.1, (g2.2.1 3 _ (by omega)).trans (h7 i hi).2.2⟩, fun i hi => ⟨(h8 i hi).1, (g1.2.1 (T + 5) i (by omega)).trans (h8 i hi).2.1, (g2.2.1 4 _ (by omega)).trans (h8 i hi).2.2⟩⟩
def DT (T D : Nat) (r : AR) (wn pn : Nat → List Nat) (t : TP) (τ : TK) (σx σm : FH) : Prop := TJ t τ σx σm ∧ NXo σx σm T 0 (r 0 0) (r 0 1) wn pn ∧ ∃ tt : AT, TB r tt ∧ TX σx D tt ∧ TM σm 5 tt
def LF (D : Nat) (σx σm : FH) (rx rm : Option (Int32 × FH)) : Prop := ∃ (e : Nat) (σx' σm' : FH), 0 < e ∧ e < 100000 ∧ rx = some (0, σx') ∧ σx'.1 3 8 = nI e ∧ kX D σx σx' ∧ rm = some (0, σm') ∧ σm'.1 0 9 = nI e ∧ kM σm σm'
def LG (T D : Nat) (r : AR) (wn pn : Nat → List Nat) (t : TP) (τ : TK) (σx σm : FH) (rx rm : Option (Int32 × FH)) : Prop := ∃ (σx' σm' : FH) (τ' : TK), rx = some (1, σx') ∧ kX D σx σx' ∧ rm = some (1, σm') ∧ kM σm σm' ∧ DT T D r wn pn t τ' σx' σm' ∧ τ.2.1 < τ'.2.1
theorem LF_FL {D : Nat} {σx σm σx1 σm1 σx' σm' : FH} {rx rm : Option (Int32 × FH)} (g1 : kX D σx σx1) (g2 : kM σm σm1) (h : FL σx1 σm1 σx' σm') (e1 : rx = some (0, σx')) (e2 : rm = some (0, σm')) : LF D σx σm rx rm := by
  obtain ⟨k, h1, h2, h3, h4, h5, h6⟩ := h
  exact ⟨k, σx', σm', h1, h2, e1, h3, kX_tr g1 (kX_fW h5), e2, h4, kM_tr g2 (kM_fY h6)⟩
/-- the deed that is named here -/
def dee (τ : TK) : Int32 := if wx τ = 8 then 0 else if wx τ = 9 then 1 else if wx τ = 10 then 2 else if wx τ = 11 then 3 else if wx τ = 12 then 4 else -1
theorem dee_s (τ : TK) : (dee τ = -1) ∨ ∃ k, k ≤ 4 ∧ dee τ = nI k ∧ τ.1 ≠ 1 := by
  unfold dee
  by_cases c0 : wx τ = 8
  · rw [if_pos c0]; exact Or.inr ⟨0, by decide, rfl, by rw [wx_1 (τ := τ) (by omega)]; decide⟩
  by_cases c1 : wx τ = 9
  · rw [if_neg c0, if_pos c1]; exact Or.inr ⟨1, by decide, rfl, by rw [wx_1 (τ := τ) (by omega)]; decide⟩
  by_cases c2 : wx τ = 10
  · rw [if_neg c0, if_neg c1, if_pos c2]; exact Or.inr ⟨2, by decide, rfl, by rw [wx_1 (τ := τ) (by omega)]; decide⟩
  by_cases c3 : wx τ = 11
  · rw [if_neg c0, if_neg c1, if_neg c2, if_pos c3]; exact Or.inr ⟨3, by decide, rfl, by rw [wx_1 (τ := τ) (by omega)]; decide⟩
  by_cases c4 : wx τ = 12
  · rw [if_neg c0, if_neg c1, if_neg c2, if_neg c3, if_pos c4]; exact Or.inr ⟨4, by decide, rfl, by rw [wx_1 (τ := τ) (by omega)]; decide⟩
  rw [if_neg c0, if_neg c1, if_neg c2, if_neg c3, if_neg c4]; exact Or.inl rfl
theorem dee_ch (τ : TK) (J : Int32 → Option (Int32 × FH)) : (fxL J fun J4 => if bv (decide (wx τ = 8)) = 0 then (fxBP (some (bv (decide (wx τ = 9)))) fun r18 => if r18 = 0 then (fxBP (some (bv (decide (wx τ = 10)))) fun r22 => if r22 = 0 then (fxBP (some (bv (decide (wx τ = 11)))) fun r26 => if r26 = 0 then (fxBP (some (bv (decide (wx τ = 12)))) fun r27 => if r27 = 0 then J4 (-1) else J4 4) else J4 3) else J4 2) else J4 1) else J4 0) = J (dee τ) := by
  unfold dee
  rw [fxL_r]
  by_cases c0 : wx τ = 8
  · rw [b1 c0, io, if_pos c0]
  rw [b0 c0, iz, fxBP_s, if_neg c0]
  by_cases c1 : wx τ = 9
  · rw [b1 c1, io, if_pos c1]
  rw [b0 c1, iz, fxBP_s, if_neg c1]
  by_cases c2 : wx τ = 10
  · rw [b1 c2, io, if_pos c2]
  rw [b0 c2, iz, fxBP_s, if_neg c2]
  by_cases c3 : wx τ = 11
  · rw [b1 c3, io, if_pos c3]
  rw [b0 c3, iz, fxBP_s, if_neg c3]
  by_cases c4 : wx τ = 12
  · rw [b1 c4, io, if_pos c4]
  rw [b0 c4, iz, if_neg c4]
section LN
variable {t : TP} {τ : TK} {σx σm : FH} {T D : Nat} {r : AR} {wn pn : Nat → List Nat}
theorem x_deed (h : TJ t τ σx σm) : fX4_deedHere σx = some (dee τ) := by
  unfold fX4_deedHere dee
  rw [x_isWord h.1 h.2.1 (a := 8) (by decide), x_isWord h.1 h.2.1 (a := 9) (by decide), x_isWord h.1 h.2.1 (a := 10) (by decide), x_isWord h.1 h.2.1 (a := 11) (by decide), x_isWord h.1 h.2.1 (a := 12) (by decide), fxBP_s]
  by_cases c0 : wx τ = 8
  · rw [b1 c0, io, if_pos c0]
  rw [b0 c0, iz, fxBP_s, if_neg c0]
  by_cases c1 : wx τ = 9
  · rw [b1 c1, io, if_pos c1]
  rw [b0 c1, iz, fxBP_s, if_neg c1]
  by_cases c2 : wx τ = 10
  · rw [b1 c2, io, if_pos c2]
  rw [b0 c2, iz, fxBP_s, if_neg c2]
  by_cases c3 : wx τ = 11
  · rw [b1 c3, io, if_pos c3]
  rw [b0 c3, iz, fxBP_s, if_neg c3]
  by_cases c4 : wx τ = 12
  · rw [b1 c4, io, if_pos c4]
  rw [b0 c4, iz, if_neg c4]
theorem x_tput_any (hD : LX[D]? = some (8, 0)) (a b c d : Int32) (σ : FH) : ∃ σ', fX8_put D a b c d σ = some σ' ∧ (∀ q j, ¬ (D ≤ q ∧ q ≤ D + 4) → σ'.1 q j = σ.1 q j) ∧ σ'.2 = σ.2 := by
  rcases pk_ix (σ.1 D 0) (n := 40) (by decide) with z | z | ⟨j, hj, z⟩
  · refine ⟨σ, ?_, fun _ _ _ => rfl, rfl⟩
    unfold fX8_put
    rw [fxG_t hD, if_pos z]
  · refine ⟨σ, ?_, fun _ _ _ => rfl, rfl⟩
    unfold fX8_put
    rw [fxG_t hD]
    by_cases y : σ.1 D 0 < 0
    · rw [if_pos y]
    · rw [if_neg y, if_pos (show (40 : Int32) ≤ σ.1 D 0 from z)]
  · obtain ⟨σ', e, -, -, -, -, -, -, g⟩ := x_tput hD z hj a b c d
    exact ⟨σ', e, fun q j y => by rw [g.1 q y], g.2⟩
/-- the line is put, and the semicolon -/
def rEnd (n : Nat) (σ : FH) : Option (Int32 × FH) := fxBI (fX12_closes (fx_si σ 25 5 (nI n))) fun r26 σ27 => fxG (fx_bo r26 = true) (some (r26, σ27))
theorem ln_end {σx0 σm0 : FH} {τ0 : TK} (hT : tOk T) (hD : D = 39 ∨ D = 44) {tt : AT} (hB : TB r tt) (hln : tt 0 0 < 40) (hX : TX σx D tt) (hM : TM σm 5 tt) (hN : NXo σx σm T 0 (r 0 0) (r 0 1) wn pn) (hJ : TJ t τ σx σm) (g1 : kX D σx0 σx) (g2 : kM σm0 σm) (hp : τ0.2.1 < τ.2.1) (k n1 n2 n3 : Nat) (a b c : Int32)
    (hk : k ≤ 4 ∧ (k ≤ 1 → n1 < r 0 0 ∧ 1 ≤ n3 ∧ n3 ≤ 20) ∧ (k = 2 → n1 < r 0 0 ∧ n2 < r 0 0 ∧ n1 ≠ n2) ∧ (k = 3 → n1 < r 0 1 ∧ n2 < r 0 1 ∧ n1 ≠ n2 ∧ 1 ≤ n3 ∧ n3 ≤ 20))
    (ha : k ≠ 4 → a = nI n1) (hb : k = 2 ∨ k = 3 → b = nI n2) (hc : k ≠ 2 ∧ k ≠ 4 → c = nI n3) (m0 : σm.1 26 (200 + tt 0 0) = nI k) (m1 : k ≠ 4 → σm.1 27 (200 + tt 0 0) = nI n1) (m2 : k = 2 ∨ k = 3 → σm.1 28 (200 + tt 0 0) = nI n2) (m3 : k ≠ 2 ∧ k ≠ 4 → σm.1 29 (200 + tt 0 0) = nI n3) :
    ∃ σxp, fX8_put D (nI k) a b c σx = some σxp ∧ (LF D σx0 σm0 (fX9_takeSign 59 σxp) (rEnd (tt 0 0 + 1) σm) ∨ LG T D r wn pn t τ0 σx0 σm0 (fX9_takeSign 59 σxp) (rEnd (tt 0 0 + 1) σm)) := by
  have hT' : T = 17 ∨ T = 28 := hT
  obtain ⟨σxp, e, f0, fo, f1, f2, f3, f4, ga⟩ := x_tput hX.1 hX.2.1 hln (nI k) a b c
  refine ⟨σxp, e, ?_⟩
  have go : ∀ q j, ¬ (D ≤ q ∧ q ≤ D + 4) → σxp.1 q j = σx.1 q j := fun q j z => by rw [ga.1 q z]
  have gk : kX D σx σxp := ⟨fun q j z => go q j (by omega), fun q j z => by rw [ga.2], by rw [ga.2]⟩
  have kJ : TJ t τ σxp (fx_si σm 25 5 (nI (tt 0 0 + 1))) := ⟨XT_hX hJ.1 (fun b j z => go b j (by omega)) (by rw [ga.2]), hJ.2.1, by rw [go 3 8 (by omega)]; exact hJ.2.2.1, MK_hM hJ.2.2.2 (fun b j z => si1n _ (by omega)) rfl⟩
  have gm : kM σm0 (fx_si σm 25 5 (nI (tt 0 0 + 1))) := kM_tr g2 (kM_si (by unfold pT; omega))
  rcases tj_sign kJ with ⟨σx7, σm7, a1, a2, f⟩ | ⟨σx7, σm7, τ7, a1, a2, k7, p7, gx7, gm7⟩
  · exact Or.inl (LF_FL (kX_tr g1 gk) gm f a1 (by rw [rEnd, a2, fxBI_s, fxG_t bo0]))
  · refine Or.inr ⟨σx7, σm7, τ7, a1, kX_tr g1 (kX_tr gk (kX_fA gx7)), by rw [rEnd, a2, fxBI_s, fxG_t bo1], kM_tr gm (kM_fN gm7), ⟨k7, NXo_k hT hD hN (kX_tr gk (kX_fA gx7)) (kM_tr (kM_si (by unfold pT; omega)) (kM_fN gm7)), ?_⟩, by omega⟩
    have XX : ∀ q j, q ≠ 3 → σx7.1 q j = σxp.1 q j := fun q j z => gx7.1 q j (by omega)
    have MM : ∀ q j, q ≠ 0 → ¬ (q = 25 ∧ j = 5) → σm7.1 q j = σm.1 q j := fun q j z1 z2 => by rw [gm7.1 q j (by omega), si1n _ z2]
    generalize hr' : upR (upR (upR (upR (upR tt 1 (tt 0 0) k) 2 (tt 0 0) n1) 3 (tt 0 0) n2) 4 (tt 0 0) n3) 0 0 (tt 0 0 + 1) = t'
    have t00 : t' 0 0 = tt 0 0 + 1 := by rw [← hr']; exact upR_s _ _ _ _
    have ta : ∀ a i, a ≠ 0 → i ≠ tt 0 0 → t' a i = tt a i := fun a i z y => by rw [← hr', upR_n _ (by omega), upR_n _ (by omega), upR_n _ (by omega), upR_n _ (by omega), upR_n _ (by omega)]
    have t1 : t' 1 (tt 0 0) = k := by rw [← hr', upR_n _ (by omega), upR_n _ (by omega), upR_n _ (by omega), upR_n _ (by omega), upR_s]
    have t2 : t' 2 (tt 0 0) = n1 := by rw [← hr', upR_n _ (by omega), upR_n _ (by omega), upR_n _ (by omega), upR_s]
    have t3 : t' 3 (tt 0 0) = n2 := by rw [← hr', upR_n _ (by omega), upR_n _ (by omega), upR_s]
    have t4 : t' 4 (tt 0 0) = n3 := by rw [← hr', upR_n _ (by omega), upR_s]
    refine ⟨t', ⟨by omega, fun i hi => ?_⟩, ⟨hX.1, ?_, fun i hi => ?_⟩, ⟨?_, fun i hi => ?_⟩⟩
    · by_cases ci : i = tt 0 0
      · rw [ci, t1, t2, t3, t4]; exact hk
      · rw [ta 1 i (by omega) ci, ta 2 i (by omega) ci, ta 3 i (by omega) ci, ta 4 i (by omega) ci]; exact hB.2 i (by omega)
    · rw [XX _ _ (by omega), t00]; exact f0
    · rw [XX _ _ (by omega), XX _ _ (by omega), XX _ _ (by omega), XX _ _ (by omega)]
      by_cases ci : i = tt 0 0
      · rw [ci, t1, t2, t3, t4, f1, f2, f3, f4]; exact ⟨rfl, ha, hb, hc⟩
      · rw [ta 1 i (by omega) ci, ta 2 i (by omega) ci, ta 3 i (by omega) ci, ta 4 i (by omega) ci, fo 1 i (by omega) (by omega) ci, fo 2 i (by omega) (by omega) ci, fo 3 i (by omega) (by omega) ci, fo 4 i (by omega) (by omega) ci]; exact hX.2.2 i (by omega)
    · rw [gm7.1 25 5 (by omega), si1s, t00]
    · rw [MM _ _ (by omega) (by omega), MM _ _ (by omega) (by omega), MM _ _ (by omega) (by omega), MM _ _ (by omega) (by omega)]
      by_cases ci : i = tt 0 0
      · rw [ci, t1, t2, t3, t4]; exact ⟨m0, m1, m2, m3⟩
      · rw [ta 1 i (by omega) ci, ta 2 i (by omega) ci, ta 3 i (by omega) ci, ta 4 i (by omega) ci]; exact hM.2 i (by omega)
end LN
