/-! ===== a republic is read: from an empty draft to its end; what its law is worth ===== -/
def iX (T : Nat) (σ σ' : FH) : Prop := (∀ b j, ¬ (b = 3 ∨ (T ≤ b ∧ b ≤ T + 10)) → σ'.1 b j = σ.1 b j) ∧ (∀ b j, ¬ (b = 3 ∨ (T ≤ b ∧ b ≤ T + 10)) → σ'.2.1 b j = σ.2.1 b j) ∧ σ'.2.2 = σ.2.2
def iM (σ σ' : FH) : Prop := (∀ b j, ¬ (pM b j ∨ (b = 0 ∧ (j = 1 ∨ j = 3))) → σ'.1 b j = σ.1 b j) ∧ (∀ b j, ¬ ((b = 0 ∧ (j = 7 ∨ j = 36)) ∨ (b = 3 ∧ 6 ≤ j) ∨ (b = 4 ∧ 5 ≤ j)) → σ'.2.1 b j = σ.2.1 b j) ∧ σ'.2.2 = σ.2.2
theorem iX_tr {T : Nat} {a b c : FH} (h : iX T a b) (h' : iX T b c) : iX T a c := ⟨fun q j z => (h'.1 q j z).trans (h.1 q j z), fun q j z => (h'.2.1 q j z).trans (h.2.1 q j z), h'.2.2.trans h.2.2⟩
theorem iM_tr {a b c : FH} (h : iM a b) (h' : iM b c) : iM a c := ⟨fun q j z => (h'.1 q j z).trans (h.1 q j z), fun q j z => (h'.2.1 q j z).trans (h.2.1 q j z), h'.2.2.trans h.2.2⟩
theorem iX_hX {T : Nat} {a b : FH} (h : hX T a b) : iX T a b := ⟨fun q j z => h.1 q j (by unfold pX; omega), fun q j z => h.2.1 q j (by omega), h.2.2⟩
theorem iM_hM {a b : FH} (h : hM a b) : iM a b := ⟨fun q j z => h.1 q j (fun y => z (Or.inl y)), h.2.1, h.2.2⟩
theorem iX_si {T : Nat} {σ : FH} {b j : Nat} {v : Int32} (h : b = 3 ∨ (T ≤ b ∧ b ≤ T + 10)) : iX T σ (fx_si σ b j v) := ⟨fun q i z => si1n _ (fun y => z (by rw [y.1]; exact h)), fun _ _ _ => rfl, rfl⟩
theorem iM_fB {a b : FH} (h : fB a b) : iM a b := ⟨fun q j z => h.1 q j (by unfold pM at z; omega), fun q j z => h.2.1 q j (by omega), h.2.2⟩
theorem rr {σx σm : FH} {T : Nat} (hT : tOk T) (h : PX σx σm) :
    (∃ (e : Nat) (σx' σm' : FH), 0 < e ∧ e < 100000 ∧ fX4_readRepublic T σx = some (nI e, σx') ∧ fX12_readsAll σm = some (0, σm') ∧ σm'.1 0 9 = nI e ∧ σx'.1 3 1 = 0 ∧ σm'.1 0 1 = 0 ∧ iX T σx σx' ∧ iM σm σm') ∨
    (∃ (σx' σm' : FH) (r : AR) (wn pn : Nat → List Nat), fX4_readRepublic T σx = some (0, σx') ∧ fX12_readsAll σm = some (1, σm') ∧ σx'.1 3 1 = 0 ∧ σm'.1 0 1 = 0 ∧ iX T σx σx' ∧ iM σm σm' ∧ RB r ∧ RX σx' T r ∧ RM σm' 1 r ∧ NXo σx' σm' T 1 (r 0 0) (r 0 1) wn pn ∧ WD σx' σm' T) := by
  have hT' : T = 17 ∨ T = 28 := hT
  obtain ⟨L, tp, p1, p2, p3, p4⟩ := h
  obtain ⟨σx1, a1, k1, f1, g1⟩ := x_beg (σ := σx) (t := (L, tp)) ⟨p1, p2, fun j hj => ⟨(p4 j hj).1, (p4 j hj).2.1⟩⟩
  generalize hs2 : fx_si (fx_si (fx_si (fx_si (fx_si (fx_si σx1 T 0 0) T 5 0) T 9 2) T 10 0) T 11 0) (T + 8) 1 0 = σx2
  have a2 : fX5_clear T σx1 = some σx2 := by
    unfold fX5_clear
    rw [fxG_t (tOk_L hT)]
    simp only [fxL_r]
    rw [hs2]
  have X2 : ∀ b j, σx2.1 b j = if b = T + 8 ∧ j = 1 then 0 else if b = T ∧ j = 11 then 0 else if b = T ∧ j = 10 then 0 else if b = T ∧ j = 9 then 2 else if b = T ∧ j = 5 then 0 else if b = T ∧ j = 0 then 0 else σx1.1 b j := fun b j => by rw [← hs2, si1, si1, si1, si1, si1, si1]
  have X2l : σx2.2 = σx1.2 := by rw [← hs2]; rfl
  have X2o : ∀ b j, b ≠ T → b ≠ T + 8 → σx2.1 b j = σx1.1 b j := fun b j z1 z2 => by rw [X2, if_neg (by omega), if_neg (by omega), if_neg (by omega), if_neg (by omega), if_neg (by omega), if_neg (by omega)]
  -- the reference
  generalize hsm : fx_si (fx_si (fx_si (fx_si (fx_si (fx_si (fx_si σm 2 3 0) 2 4 0) 2 5 2) 10 1 1000) 11 1 1000) 0 22 0) 0 21 1000 = σm1
  have M1 : ∀ b j, σm1.1 b j = if b = 0 ∧ j = 21 then 1000 else if b = 0 ∧ j = 22 then 0 else if b = 11 ∧ j = 1 then 1000 else if b = 10 ∧ j = 1 then 1000 else if b = 2 ∧ j = 5 then 2 else if b = 2 ∧ j = 4 then 0 else if b = 2 ∧ j = 3 then 0 else σm.1 b j := fun b j => by rw [← hsm, si1, si1, si1, si1, si1, si1, si1]
  have M1l : σm1.2 = σm.2 := by rw [← hsm]; rfl
  obtain ⟨σm2, b2, k2, z2, g2⟩ := m_beg (σ := σm1) (t := (L, tp)) p1 (by rw [M1, if_neg (by omega), if_neg (by omega), if_neg (by omega), if_neg (by omega), if_neg (by omega), if_neg (by omega), if_neg (by omega)]; exact p3) (fun j hj => ⟨(p4 j hj).1, by rw [M1, if_neg (by omega), if_neg (by omega), if_neg (by omega), if_neg (by omega), if_neg (by omega), if_neg (by omega), if_neg (by omega)]; exact (p4 j hj).2.2⟩)
  have b1' : fX12_readsAll σm = fX12_readsAll_39 (fun σ14 => some ((1 : Int32), σ14)) FU σm2 := by
    unfold fX12_readsAll fX12_usual
    rw [fxG_t (by decide), show Int32.toNatClampNeg (3 * 1 + 0) = 3 from by decide, fxL_r, fxG_t (by decide), show Int32.toNatClampNeg (3 * 1 + 1) = 4 from by decide, fxL_r, fxG_t (by decide), show Int32.toNatClampNeg (3 * 1 + 2) = 5 from by decide, fxL_r, fxBV_s, fxG_t (by decide), show Int32.toNatClampNeg 1 = 1 from by decide, fxL_r, fxG_t (by decide), fxL_r, fxL_r, fxL_r, hsm, b2, fxBV_s, fxL_r]
  have hko := tkAt_ok (t := (L, tp)) p1 (q := 0) (Nat.zero_le _)
  have hJ : TJ (L, tp) (tkAt (L, tp) 0) σx2 σm2 := ⟨XT_hX k1 (fun b j z => X2o b j (by omega) (by omega)) (by rw [X2l]), hko.1, by rw [X2o 3 8 (by omega) (by omega)]; exact f1, k2⟩
  have m2 : ∀ b j, ¬ (b = 0 ∧ (j = 1 ∨ (3 ≤ j ∧ j ≤ 8))) → σm2.1 b j = σm1.1 b j := g2.1
  have hD : DR T (L, tp) (tkAt (L, tp) 0) σx2 σm2 := by
    refine ⟨hJ, fun a i => if a = 0 ∧ i = 2 then 2 else 0, fun _ => [], fun _ => [], ⟨by decide, by decide, by decide, by decide, fun i hi => absurd hi (Nat.not_lt_zero i), fun i hi => absurd hi (Nat.not_lt_zero i)⟩, ⟨tOk_L hT, ?_, ?_, ?_, fun i hi => absurd hi (Nat.not_lt_zero i), fun i hi => absurd hi (Nat.not_lt_zero i)⟩, ⟨?_, ?_, ?_, fun i hi => absurd hi (Nat.not_lt_zero i), fun i hi => absurd hi (Nat.not_lt_zero i)⟩, ⟨by decide, by decide, ?_, ?_, ?_, ?_, fun i hi => absurd hi (Nat.not_lt_zero i), fun i hi => absurd hi (Nat.not_lt_zero i)⟩, ⟨0, by decide, ?_, ?_⟩, ?_, Or.inl ⟨?_, ?_, ?_, ?_⟩⟩
    · rw [X2, if_neg (by omega), if_neg (by omega), if_neg (by omega), if_neg (by omega), if_neg (by omega), if_pos ⟨rfl, rfl⟩]; rfl
    · rw [X2, if_neg (by omega), if_neg (by omega), if_neg (by omega), if_neg (by omega), if_pos ⟨rfl, rfl⟩]; rfl
    · rw [X2, if_neg (by omega), if_neg (by omega), if_neg (by omega), if_pos ⟨rfl, rfl⟩]; rfl
    · rw [m2 _ _ (by omega), M1, if_neg (by omega), if_neg (by omega), if_neg (by omega), if_neg (by omega), if_neg (by omega), if_neg (by omega), if_pos ⟨rfl, rfl⟩]; rfl
    · rw [m2 _ _ (by omega), M1, if_neg (by omega), if_neg (by omega), if_neg (by omega), if_neg (by omega), if_neg (by omega), if_pos ⟨rfl, rfl⟩]; rfl
    · rw [m2 _ _ (by omega), M1, if_neg (by omega), if_neg (by omega), if_neg (by omega), if_neg (by omega), if_pos ⟨rfl, rfl⟩]; rfl
    · rw [X2, if_neg (by omega), if_neg (by omega), if_neg (by omega), if_neg (by omega), if_neg (by omega), if_pos ⟨rfl, rfl⟩]; rfl
    · rw [X2, if_neg (by omega), if_neg (by omega), if_neg (by omega), if_neg (by omega), if_pos ⟨rfl, rfl⟩]; rfl
    · rw [m2 _ _ (by omega), M1, if_neg (by omega), if_neg (by omega), if_neg (by omega), if_neg (by omega), if_neg (by omega), if_neg (by omega), if_pos ⟨rfl, rfl⟩]; rfl
    · rw [m2 _ _ (by omega), M1, if_neg (by omega), if_neg (by omega), if_neg (by omega), if_neg (by omega), if_neg (by omega), if_pos ⟨rfl, rfl⟩]; rfl
    · rw [X2, if_neg (by omega), if_neg (by omega), if_pos ⟨rfl, rfl⟩]; rfl
    · rw [m2 _ _ (by omega), M1, if_neg (by omega), if_pos ⟨rfl, rfl⟩]; rfl
    · rw [m2 _ _ (by omega), M1, if_neg (by omega), if_neg (by omega), if_neg (by omega), if_pos ⟨rfl, rfl⟩]; rfl
    · rw [X2, if_neg (by omega), if_pos ⟨rfl, rfl⟩]
    · rw [X2, if_pos ⟨rfl, rfl⟩]
    · rw [m2 _ _ (by omega), M1, if_neg (by omega), if_neg (by omega), if_pos ⟨rfl, rfl⟩]; rfl
    · rw [m2 _ _ (by omega), M1, if_pos ⟨rfl, rfl⟩]; rfl
  have gx : iX T σx σx2 := by
    refine iX_tr (iX_hX (hX_fW g1)) ⟨fun b j z => X2o b j (by omega) (by omega), fun b j z => by rw [X2l], by rw [X2l]⟩
  have gm : iM σm σm2 := by
    refine iM_tr ⟨fun b j z => ?_, fun b j z => by rw [M1l], by rw [M1l]⟩ (iM_fB g2)
    unfold pM at z
    rw [M1, if_neg (by omega), if_neg (by omega), if_neg (by omega), if_neg (by omega), if_neg (by omega), if_neg (by omega), if_neg (by omega)]
  have ex : ∀ σ3 : FH, fX4_readRepublic_15 T (fun σ8 => fxBV (fX9_clear σ8) fun σ11 => some ((σ11.1 3 8), σ11)) FU 1 (nI 0) σx2 = (fun σ8 => fxBV (fX9_clear σ8) fun σ11 => some ((σ11.1 3 8), σ11)) σ3 → fX4_readRepublic T σx = some (σ3.1 3 8, fx_si σ3 3 1 0) := by
    intro σ3 h3
    unfold fX4_readRepublic
    rw [fxG_t (tOk_L hT), a1, fxBV_s, a2, fxBV_s, fxL_r]
    rw [nI_0] at h3
    rw [h3]
    dsimp only
    unfold fX9_clear
    rw [fxL_r, fxBV_s, si1n _ (by omega)]
  rcases rep_loop hT (fun σ8 => fxBV (fX9_clear σ8) fun σ11 => some ((σ11.1 3 8), σ11)) (fun σ14 => some ((1 : Int32), σ14)) 1001 FU FU 0 _ σx2 σm2 (by show L < _; omega) (by decide) (by decide) (Nat.zero_le _) hD with ⟨e, σx', σm', e0, e1, s1, s2, s3, s4, s5, s6⟩ | ⟨σx', σm', τ', s1, s2, s3, s4, hJ', r, wn, pn, q1, q2, q3, q4, q5, q6⟩
  · refine Or.inl ⟨e, fx_si σx' 3 1 0, σm', e0, e1, by rw [ex _ s1, s2], by rw [b1', s4], s5, si1s _ _ _ _, ?_, iX_tr gx (iX_tr (iX_hX s3) (iX_si (Or.inl rfl))), iM_tr gm (iM_hM s6)⟩
    rw [s6.1 0 1 (by unfold pM; omega)]; exact z2
  · have XX : ∀ b j, b ≠ 3 → (fx_si σx' 3 1 0).1 b j = σx'.1 b j := fun b j z => si1n _ (by omega)
    refine Or.inr ⟨fx_si σx' 3 1 0, σm', r, wn, pn, by rw [ex _ s1, hJ'.2.2.1], by rw [b1', s3], si1s _ _ _ _, ?_, iX_tr gx (iX_tr (iX_hX s2) (iX_si (Or.inl rfl))), iM_tr gm (iM_hM s4), q1, ?_, q3, ?_, ?_⟩
    · rw [s4.1 0 1 (by unfold pM; omega)]; exact z2
    · obtain ⟨y1, y2, y3, y4, y5, y6⟩ := q2
      exact ⟨y1, (XX _ _ (by omega)).trans y2, (XX _ _ (by omega)).trans y3, (XX _ _ (by omega)).trans y4, fun i hi => by rw [XX _ _ (by omega), XX _ _ (by omega), XX _ _ (by omega)]; exact y5 i hi, fun p hp => by rw [XX _ _ (by omega), XX _ _ (by omega)]; exact y6 p hp⟩
    · obtain ⟨y1, y2, y3, y4, y5, y6, y7, y8⟩ := q4
      exact ⟨y1, y2, (XX _ _ (by omega)).trans y3, (XX _ _ (by omega)).trans y4, y5, y6, y7, y8⟩
    · exact WD_fr q6 (fun b j z => XX _ _ (by omega)) (fun _ _ _ => rfl) rfl
/-! ===== what a law is worth ===== -/
def evN (so half votes date : Nat) : EV := fun k => if k = 1 then nI so else if k = 2 then nI half else if k = 3 then nI votes else nI date
def efv (v : EVV) : EF := fun so half votes date => (clamp9 (v (evN so half votes date))).toNatClampNeg
theorem btw_c (v : Int32) : (if 0 ≤ v then (if v ≤ 9 then v else 9) else 0) = clamp9 v := by
  unfold clamp9
  by_cases c : v < 9
  · rw [if_pos c]
    by_cases d : 0 < v
    · rw [if_pos d, if_pos (Int32.le_of_lt d), if_pos (Int32.le_of_lt c)]
    · rw [if_neg d]
      by_cases e : 0 ≤ v
      · rw [if_pos e, if_pos (Int32.le_of_lt c)]
        exact Int32.le_antisymm (Int32.not_lt.mp d) e
      · rw [if_neg e]
  · have h9 : 9 ≤ v := Int32.not_lt.mp c
    have h0 : 0 ≤ v := Int32.le_trans (by decide) h9
    rw [if_neg c, if_pos h0, if_pos (show (0 : Int32) < 9 from by decide)]
    by_cases e : v ≤ 9
    · rw [if_pos e]; exact Int32.le_antisymm e h9
    · rw [if_neg e]
theorem clamp9_b (v : Int32) : ∃ k, k ≤ 9 ∧ clamp9 v = nI k := by
  have h0 : ¬ clamp9 v < 0 ∧ clamp9 v ≤ 9 := by
    rw [← btw_c]
    by_cases c : 0 ≤ v
    · rw [if_pos c]
      by_cases e : v ≤ 9
      · rw [if_pos e]; exact ⟨Int32.not_lt.mpr c, e⟩
      · rw [if_neg e]; exact ⟨by decide, by decide⟩
    · rw [if_neg c]; exact ⟨by decide, by decide⟩
  obtain ⟨k, k1, k2⟩ := nI_of2 (M := 9) (n := 9) (by decide) h0.1 h0.2
  exact ⟨k, k1, k2⟩
theorem efv_s (v : EVV) (so half votes date : Nat) : clamp9 (v (evN so half votes date)) = nI (efv v so half votes date) ∧ efv v so half votes date ≤ 9 := by
  obtain ⟨k, k1, k2⟩ := clamp9_b (v (evN so half votes date))
  unfold efv
  rw [k2, nI_clamp (by omega)]
  exact ⟨rfl, k1⟩
theorem EB_v (v : EVV) : EB (efv v) := fun a b c d => (efv_s v a b c d).2
theorem EX_v {σ : FH} {T : Nat} (hT : tOk T) {C : List Int32} {v : EVV} (h1 : C.length ≤ 1000) (h2 : σ.1 (T + 8) 1 = nI C.length) (h3 : CD (σ.1 (T + 9)) 0 C) (h4 : Sp 21 C v) : EX σ T (efv v) := by
  intro so half votes date σ0 _ _ _ _ e8 e9
  have hL : LX[T + 8]? = some (1, 0) := by rcases hT with rfl | rfl <;> rfl
  have hv : pfl (evN so half votes date) C [] = [v (evN so half votes date)] := h4 _ [] (by decide)
  have h0 : 0 < C.length := by
    cases C with
    | nil => cases hv
    | cons c l => exact Nat.succ_pos _
  obtain ⟨σ', e, g⟩ := x_value (t := T + 8) hL (evN so half votes date) (C := C) (σ := σ0) (by rw [e8]; exact h2) h0 h1 (by show CD (σ0.1 (T + 9)) 0 C; rw [e9]; exact h3) hv
  exact ⟨_, σ', e, g, (efv_s v so half votes date).1⟩
theorem EM_v {σ : FH} {I : List Int32} {v : EVV} (h1 : I.length ≤ 1000) (h0 : 0 < I.length) (h2 : σ.1 10 0 = nI 0) (h3 : σ.1 11 0 = nI I.length) (h4 : CD (σ.1 12) 0 I) (h5 : S0 0 I v) : EM σ (efv v) := by
  intro so half votes date σ0 _ _ _ _ e10 e11 e12
  unfold fX12_effort
  have z0 : Int32.toNatClampNeg 0 = 0 := by decide
  have z1 : Int32.toNatClampNeg 1 = 1 := by decide
  have z2 : Int32.toNatClampNeg 2 = 2 := by decide
  have z3 : Int32.toNatClampNeg 3 = 3 := by decide
  have z4 : Int32.toNatClampNeg 4 = 4 := by decide
  rw [z0, e10, e11, h2, h3, z1, z2, z3, z4, fxG_t (by decide), fxG_t (by decide), if_neg (fun z => by have := nI_inj (by omega) (by decide) z; omega), fxG_t (by decide), fxL_r, fxG_t (by decide), fxL_r, fxG_t (by decide), fxL_r, fxG_t (by decide), fxL_r]
  generalize hs : fx_si (fx_si (fx_si (fx_si σ0 24 1 (nI so)) 24 2 (nI half)) 24 3 (nI votes)) 24 4 (nI date) = σ1
  have S1 : ∀ b j, σ1.1 b j = if b = 24 ∧ j = 4 then nI date else if b = 24 ∧ j = 3 then nI votes else if b = 24 ∧ j = 2 then nI half else if b = 24 ∧ j = 1 then nI so else σ0.1 b j := fun b j => by rw [← hs, si1, si1, si1, si1]
  have S1o : ∀ b j, b ≠ 24 → σ1.1 b j = σ0.1 b j := fun b j z => by rw [S1, if_neg (by omega), if_neg (by omega), if_neg (by omega), if_neg (by omega)]
  have g0 : agr scrM σ0 σ1 := ⟨fun b z => funext fun j => S1o b j (by unfold scrM at z; omega), by rw [← hs]; rfl⟩
  obtain ⟨σ', e, g⟩ := w_worked (evN so half votes date) (I := I) (σ := σ1) (v := v (evN so half votes date)) (by rw [S1o _ _ (by decide), e10]; exact h2) (by rw [S1o _ _ (by decide), e11]; exact h3) h1 (CD_fr _ _ h4 (fun i i1 i2 => by rw [S1o _ _ (by decide), e12 i (by omega)])) (fun c c1 c2 => by
    rcases (show c = 1 ∨ c = 2 ∨ c = 3 ∨ c = 4 by omega) with rfl | rfl | rfl | rfl
    · rw [S1, if_neg (by decide), if_neg (by decide), if_neg (by decide), if_pos ⟨rfl, rfl⟩]; rfl
    · rw [S1, if_neg (by decide), if_neg (by decide), if_pos ⟨rfl, rfl⟩]; rfl
    · rw [S1, if_neg (by decide), if_pos ⟨rfl, rfl⟩]; rfl
    · rw [S1, if_pos ⟨rfl, rfl⟩]; rfl) (fun φ hc => by
    obtain ⟨φ1, q1, q2, q3, q4⟩ := h5 (evN so half votes date) φ (Or.inl rfl) hc
    exact ⟨φ1, q1, q3⟩)
  refine ⟨σ', ?_, agr_tr g0 (agr_mono (fun q z => by unfold scrM; omega) g)⟩
  rw [e, fxBI_s]
  unfold fX12_between
  rw [fxL_r, fxBP_s, btw_c, (efv_s v so half votes date).1]
/-- no law: one -/
theorem EX_0 {σ : FH} {T : Nat} (hT : tOk T) (h2 : σ.1 (T + 8) 1 = 0) : EX σ T (fun _ _ _ _ => 1) := by
  intro so half votes date σ0 _ _ _ _ e8 e9
  have hL : LX[T + 8]? = some (1, 0) := by rcases hT with rfl | rfl <;> rfl
  exact ⟨1, σ0, x_value0 hL (evN so half votes date) (by rw [e8]; exact h2), agr_rf _ _, (by decide : clamp9 1 = nI 1)⟩
theorem EM_0 {σ : FH} (h : σ.1 11 0 = σ.1 10 0) : EM σ (fun _ _ _ _ => 1) := by
  intro so half votes date σ0 _ _ _ _ e10 e11 e12
  refine ⟨σ0, ?_, agr_rf _ _⟩
  unfold fX12_effort
  rw [show Int32.toNatClampNeg 0 = 0 from by decide, e10, e11, fxG_t (by decide), fxG_t (by decide), if_pos h]
  rfl
