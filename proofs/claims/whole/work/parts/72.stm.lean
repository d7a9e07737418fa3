/-! ===== telling a republic: the statements, on both sides ===== -/
theorem si1n (σ : FH) {a k b j : Nat} {v : Int32} (h : ¬ (b = a ∧ j = k)) : (fx_si σ a k v).1 b j = σ.1 b j := by rw [si1, if_neg h]
theorem sl2s (σ : FH) (a k : Nat) (v : Int64) : (fx_sl σ a k v).2.1 a k = v := by rw [sl21, if_pos ⟨rfl, rfl⟩]
theorem sl2n (σ : FH) {a k b j : Nat} {v : Int64} (h : ¬ (b = a ∧ j = k)) : (fx_sl σ a k v).2.1 b j = σ.2.1 b j := by rw [sl21, if_neg h]
def upR (r : AR) (a i v : Nat) : AR := fun a' i' => if a' = a ∧ i' = i then v else r a' i'
theorem upR_s (r : AR) (a i v : Nat) : upR r a i v a i = v := if_pos ⟨rfl, rfl⟩
theorem upR_n (r : AR) {a i v a' i' : Nat} (h : ¬ (a' = a ∧ i' = i)) : upR r a i v a' i' = r a' i' := if_neg h
/-- fine told or not; the law of how one works, told or not -/
def FD (σx σm : FH) (T : Nat) : Prop := ∃ f : Nat, f ≤ 1 ∧ σx.1 T 10 = nI f ∧ σm.1 0 22 = nI f
def WD (σx σm : FH) (T : Nat) : Prop := σm.1 10 1 = nI 1000 ∧ ((σx.1 T 11 = 0 ∧ σx.1 (T + 8) 1 = 0 ∧ σm.1 11 1 = nI 1000 ∧ σm.1 0 21 = nI 1000) ∨ (σx.1 T 11 = 1 ∧ ∃ (C I : List Int32) (v : EVV), C.length ≤ 1000 ∧ σx.1 (T + 8) 1 = nI C.length ∧ CD (σx.1 (T + 9)) 0 C ∧ Sp 21 C v ∧ I.length ≤ 1000 ∧ 0 < I.length ∧ σm.1 11 1 = nI (1000 + I.length) ∧ CD (σm.1 12) 1000 I ∧ S0 0 I v))
def DR (T : Nat) (t : TP) (τ : TK) (σx σm : FH) : Prop := TJ t τ σx σm ∧ ∃ (r : AR) (wn pn : Nat → List Nat), RB r ∧ RX σx T r ∧ RM σm 1 r ∧ NXo σx σm T 1 (r 0 0) (r 0 1) wn pn ∧ FD σx σm T ∧ WD σx σm T
/-- what statements change -/
def pX (T b j : Nat) : Prop := (b = 3 ∧ 2 ≤ j ∧ j ≤ 8) ∨ (T ≤ b ∧ b ≤ T + 10)
def pM (b j : Nat) : Prop := (b = 0 ∧ ((4 ≤ j ∧ j ≤ 9) ∨ j = 21 ∨ j = 22 ∨ j = 35)) ∨ (b = 2 ∧ 3 ≤ j) ∨ ((b = 5 ∨ b = 6 ∨ b = 7) ∧ 6 ≤ j) ∨ ((b = 8 ∨ b = 9) ∧ 5 ≤ j) ∨ ((b = 10 ∨ b = 11) ∧ j = 1) ∨ (b = 12 ∧ 1000 ≤ j) ∨ b = 13 ∨ b = 14
def hX (T : Nat) (σ σ' : FH) : Prop := (∀ b j, ¬ pX T b j → σ'.1 b j = σ.1 b j) ∧ (∀ b j, ¬ ((b = 3 ∧ j = 7) ∨ (T ≤ b ∧ b ≤ T + 10)) → σ'.2.1 b j = σ.2.1 b j) ∧ σ'.2.2 = σ.2.2
def hM (σ σ' : FH) : Prop := (∀ b j, ¬ pM b j → σ'.1 b j = σ.1 b j) ∧ (∀ b j, ¬ ((b = 0 ∧ (j = 7 ∨ j = 36)) ∨ (b = 3 ∧ 6 ≤ j) ∨ (b = 4 ∧ 5 ≤ j)) → σ'.2.1 b j = σ.2.1 b j) ∧ σ'.2.2 = σ.2.2
theorem hX_rf (T : Nat) (σ : FH) : hX T σ σ := ⟨fun _ _ _ => rfl, fun _ _ _ => rfl, rfl⟩
theorem hM_rf (σ : FH) : hM σ σ := ⟨fun _ _ _ => rfl, fun _ _ _ => rfl, rfl⟩
theorem hX_tr {T : Nat} {a b c : FH} (h : hX T a b) (h' : hX T b c) : hX T a c := ⟨fun q j z => (h'.1 q j z).trans (h.1 q j z), fun q j z => (h'.2.1 q j z).trans (h.2.1 q j z), h'.2.2.trans h.2.2⟩
theorem hM_tr {a b c : FH} (h : hM a b) (h' : hM b c) : hM a c := ⟨fun q j z => (h'.1 q j z).trans (h.1 q j z), fun q j z => (h'.2.1 q j z).trans (h.2.1 q j z), h'.2.2.trans h.2.2⟩
theorem hX_fW {T : Nat} {a b : FH} (h : fW a b) : hX T a b := ⟨fun q j z => h.1 q j (fun y => z (Or.inl y)), fun q j z => h.2.1 q j (fun y => z (Or.inl y)), h.2.2⟩
theorem hX_fA {T : Nat} {a b : FH} (h : fA a b) : hX T a b := hX_fW (fW_fA h)
theorem hM_fY {a b : FH} (h : fY a b) : hM a b := ⟨fun q j z => h.1 q j (by unfold pM at z; omega), fun q j z => h.2.1 q j (by omega), h.2.2⟩
theorem hM_fN {a b : FH} (h : fN a b) : hM a b := hM_fY (fY_fN h)
theorem hX_si {T : Nat} {σ : FH} {b j : Nat} {v : Int32} (h1 : T ≤ b) (h2 : b ≤ T + 10) : hX T σ (fx_si σ b j v) := ⟨fun q i z => by rw [si1, if_neg (by unfold pX at z; omega)], fun _ _ _ => rfl, rfl⟩
theorem hX_sl {T : Nat} {σ : FH} {b j : Nat} {v : Int64} (h1 : T ≤ b) (h2 : b ≤ T + 10) : hX T σ (fx_sl σ b j v) := ⟨fun _ _ _ => rfl, fun q i z => by rw [sl21, if_neg (by omega)], rfl⟩
theorem hM_si {σ : FH} {b j : Nat} {v : Int32} (h : pM b j) : hM σ (fx_si σ b j v) := ⟨fun q i z => by rw [si1, if_neg (fun y => z (by rw [y.1, y.2]; exact h))], fun _ _ _ => rfl, rfl⟩
theorem hM_sl {σ : FH} {b j : Nat} {v : Int64} (h : (b = 3 ∧ 6 ≤ j) ∨ (b = 4 ∧ 5 ≤ j)) : hM σ (fx_sl σ b j v) := ⟨fun _ _ _ => rfl, fun q i z => by rw [sl21, if_neg (by omega)], rfl⟩
theorem hX_gX {T : Nat} {a b : FH} (h : gX (T + 8) a b) : hX T a b := ⟨fun q j z => h.1 q j (by unfold pX at z; omega) (by unfold pX at z; omega) (by unfold pX at z; omega), fun q j z => h.2.1 q j (by omega), h.2.2⟩
theorem hM_gM {a b : FH} (h : gM a b) : hM a b := ⟨fun q j z => h.1 q j (by unfold pM at z; omega) (by unfold pM at z; omega) (by unfold pM at z; omega) (by unfold pM at z; omega), fun q j z => h.2.1 q j (by omega), h.2.2⟩
/-- both end with one fault; both have read a statement -/
def SF (T : Nat) (σx σm : FH) (rx rm : Option (Int32 × FH)) : Prop := ∃ (e : Nat) (σx' σm' : FH), 0 < e ∧ e < 100000 ∧ rx = some (0, σx') ∧ σx'.1 3 8 = nI e ∧ hX T σx σx' ∧ rm = some (0, σm') ∧ σm'.1 0 9 = nI e ∧ hM σm σm'
def SG (T : Nat) (t : TP) (τ : TK) (σx σm : FH) (rx rm : Option (Int32 × FH)) : Prop := ∃ (σx' σm' : FH) (τ' : TK), rx = some (1, σx') ∧ hX T σx σx' ∧ rm = some (1, σm') ∧ hM σm σm' ∧ DR T t τ' σx' σm' ∧ τ.2.1 < τ'.2.1
theorem SF_FL {T : Nat} {σx σm σx1 σm1 σx' σm' : FH} {rx rm : Option (Int32 × FH)} (g1 : hX T σx σx1) (g2 : hM σm σm1) (h : FL σx1 σm1 σx' σm') (e1 : rx = some (0, σx')) (e2 : rm = some (0, σm')) : SF T σx σm rx rm := by
  obtain ⟨k, h1, h2, h3, h4, h5, h6⟩ := h
  exact ⟨k, σx', σm', h1, h2, e1, h3, hX_tr g1 (hX_fW h5), e2, h4, hM_tr g2 (hM_fY h6)⟩
/-- a statement of the class and its semicolon -/
def xEnd (o : Option (Int32 × FH)) : Option (Int32 × FH) := fxBI (fxBI o fun r σ => fxG (fx_bo r = true) (some (r, σ))) fun r24 σ25 => if r24 = 0 then some ((0 : Int32), σ25) else fX9_takeSign 59 σ25
theorem xEnd_0 {o : Option (Int32 × FH)} {σ : FH} (h : o = some (0, σ)) : xEnd o = some (0, σ) := by rw [xEnd, h, fxBI_s, fxG_t bo0, fxBI_s, if_pos rfl]
theorem xEnd_1 {o : Option (Int32 × FH)} {σ : FH} (h : o = some (1, σ)) : xEnd o = fX9_takeSign 59 σ := by rw [xEnd, h, fxBI_s, fxG_t bo1, fxBI_s, if_neg (by decide)]
/-- the kind of a ware that is named here -/
def kd (τ : TK) : Int32 := if wx τ = 13 then 0 else if wx τ = 14 then 1 else if wx τ = 15 then 2 else if wx τ = 16 then 3 else -1
theorem kd_s (τ : TK) : (kd τ = -1) ∨ ∃ k, k ≤ 3 ∧ kd τ = nI k ∧ τ.1 ≠ 1 := by
  unfold kd
  by_cases c0 : wx τ = 13
  · rw [if_pos c0]; exact Or.inr ⟨0, by decide, rfl, by rw [wx_1 (τ := τ) (by omega)]; decide⟩
  by_cases c1 : wx τ = 14
  · rw [if_neg c0, if_pos c1]; exact Or.inr ⟨1, by decide, rfl, by rw [wx_1 (τ := τ) (by omega)]; decide⟩
  by_cases c2 : wx τ = 15
  · rw [if_neg c0, if_neg c1, if_pos c2]; exact Or.inr ⟨2, by decide, rfl, by rw [wx_1 (τ := τ) (by omega)]; decide⟩
  by_cases c3 : wx τ = 16
  · rw [if_neg c0, if_neg c1, if_neg c2, if_pos c3]; exact Or.inr ⟨3, by decide, rfl, by rw [wx_1 (τ := τ) (by omega)]; decide⟩
  rw [if_neg c0, if_neg c1, if_neg c2, if_neg c3]; exact Or.inl rfl
theorem kd_ch (τ : TK) (J : Int32 → Option (Int32 × FH)) : (fxL J fun J4 => if bv (decide (wx τ = 13)) = 0 then (fxBP (some (bv (decide (wx τ = 14)))) fun r18 => if r18 = 0 then (fxBP (some (bv (decide (wx τ = 15)))) fun r22 => if r22 = 0 then (fxBP (some (bv (decide (wx τ = 16)))) fun r26 => if r26 = 0 then J4 (-1) else J4 3) else J4 2) else J4 1) else J4 0) = J (kd τ) := by
  unfold kd
  rw [fxL_r]
  by_cases c0 : wx τ = 13
  · rw [b1 c0, io, if_pos c0]
  rw [b0 c0, iz, fxBP_s, if_neg c0]
  by_cases c1 : wx τ = 14
  · rw [b1 c1, io, if_pos c1]
  rw [b0 c1, iz, fxBP_s, if_neg c1]
  by_cases c2 : wx τ = 15
  · rw [b1 c2, io, if_pos c2]
  rw [b0 c2, iz, fxBP_s, if_neg c2]
  by_cases c3 : wx τ = 16
  · rw [b1 c3, io, if_pos c3]
  rw [b0 c3, iz, if_neg c3]
theorem WD_fr {σx σm σx' σm' : FH} {T : Nat} (h : WD σx σm T) (eX : ∀ b j, b = T + 8 ∨ b = T + 9 ∨ (b = T ∧ j = 11) → σx'.1 b j = σx.1 b j) (eM : ∀ b j, b = 10 ∨ b = 11 ∨ b = 12 → σm'.1 b j = σm.1 b j) (e21 : σm'.1 0 21 = σm.1 0 21) : WD σx' σm' T := by
  obtain ⟨w1, w2⟩ := h
  refine ⟨(eM 10 1 (by omega)).trans w1, ?_⟩
  rcases w2 with ⟨a1, a2, a3, a4⟩ | ⟨a1, C, I, v, c1, c2, c3, c4, c5, c6, c7, c8, c9⟩
  · exact Or.inl ⟨(eX T 11 (by omega)).trans a1, (eX (T + 8) 1 (by omega)).trans a2, (eM 11 1 (by omega)).trans a3, e21.trans a4⟩
  · exact Or.inr ⟨(eX T 11 (by omega)).trans a1, C, I, v, c1, (eX (T + 8) 1 (by omega)).trans c2, CD_fr _ _ c3 (fun i _ _ => eX (T + 9) i (by omega)), c4, c5, c6, (eM 11 1 (by omega)).trans c7, CD_fr _ _ c8 (fun i _ _ => eM 12 i (by omega)), c9⟩
section STM
variable {t : TP} {τ : TK} {σx σm : FH} {T : Nat}
theorem x_kind (hT : tOk T) (h : TJ t τ σx σm) {n : Nat} (hn : n < 6) : fX4_takeKind T (nI n) σx = if kd τ = -1 then (fxBI (fX9_wrong 1 σx) fun r13 σ14 => fxG (fx_bo r13 = true) (some (r13, σ14))) else fxBV (fX9_advance (fx_si σx (T + 2) n (kd τ))) fun σ11 => some ((1 : Int32), σ11) := by
  unfold fX4_takeKind
  rw [fxG_t (tOk_L hT), x_isWord h.1 h.2.1 (a := 13) (by decide), x_isWord h.1 h.2.1 (a := 14) (by decide), x_isWord h.1 h.2.1 (a := 15) (by decide), x_isWord h.1 h.2.1 (a := 16) (by decide), fxBP_s, kd_ch]
  rw [fxG_t (fx_inN hn (by decide)), fx_clN (by omega), fxL_r]
theorem half_d {w : Nat} (h : w ≤ 60) {d : Nat} (hd : d ≤ 30) : (if (nI w / 2) < nI d then (nI w / 2) else nI d) = nI (if w / 2 < d then w / 2 else d) := by
  rw [show (2 : Int32) = nI 2 from rfl, pk_div (by omega) (by decide) (by decide)]
  by_cases c : w / 2 < d
  · rw [if_pos c, if_pos (nI_lt c (by omega))]
  · rw [if_neg c, if_neg (nI_nlt (by omega) (by omega))]
theorem XT_hX {σx' : FH} (h : XT σx t τ) (e : ∀ b j, b = 3 ∨ b = 4 → σx'.1 b j = σx.1 b j) (e7 : σx'.2.1 3 7 = σx.2.1 3 7) : XT σx' t τ := XT_fr h (fun j _ _ => e 3 j (Or.inl rfl)) (fun j => e 4 j (Or.inr rfl)) e7
theorem MK_hM {σm' : FH} (h : MK σm t τ) (e : ∀ b j, (b = 0 ∧ j ≤ 8) ∨ b = 1 → σm'.1 b j = σm.1 b j) (e7 : σm'.2.1 0 7 = σm.2.1 0 7) : MK σm' t τ := MK_fr h (fun j _ _ => e 0 j (Or.inl ⟨rfl, by omega⟩)) (fun j => e 1 j (Or.inr rfl)) e7
set_option maxHeartbeats 1000000 in
theorem st_ware (hT : tOk T) (h : DR T t τ σx σm) (hk : τ.1 ≠ 1) : SF T σx σm (xEnd (fX4_readWare T σx)) (fX12_readsWare σm) ∨ SG T t τ σx σm (xEnd (fX4_readWare T σx)) (fX12_readsWare σm) := by
  have hT' : T = 17 ∨ T = 28 := hT
  obtain ⟨hJ, r, wn, pn, hB, hX0, hM0, hN, hF, hW⟩ := h
  have hB' := hB
  obtain ⟨B1, B2, B3, B4, B5, B6⟩ := hB'
  generalize hrx : fX4_readWare T σx = rx
  generalize hrm : fX12_readsWare σm = rm
  have ex0 := hrx.symm
  have em0 := hrm.symm
  unfold fX4_readWare at ex0
  unfold fX12_readsWare at em0
  have m23 : σm.1 2 3 = nI (r 0 0) := hM0.1
  rw [fxG_t (tOk_L hT), hX0.2.1, fxL_r] at ex0
  rw [fxG_t (by decide), show Int32.toNatClampNeg 3 = 3 from by decide, m23, show (6 : Int32) + nI (r 0 0) = nI (6 + r 0 0) from nI_add 6 _, fxL_r] at em0
  by_cases c6 : r 0 0 = 6
  · obtain ⟨σx', σm', e1, e2, f⟩ := tj_fail hJ 5 (by decide) (by decide) (x := 5) rfl
    refine Or.inl (SF_FL (hX_rf T σx) (hM_rf σm) f (xEnd_0 ?_) ?_)
    · rw [ex0, if_neg (by rw [c6]; decide), e1, fxBI_s, fxG_t bo0]
    · rw [em0, if_pos (by rw [c6]; decide), e2, fxBI_s, fxG_t bo0]
  have hn : r 0 0 < 6 := by omega
  rw [if_pos (show nI (r 0 0) < 6 from nI_lt (b := 6) hn (by decide))] at ex0
  rw [if_neg (fun z => by have := nI_inj (b := 12) (by omega) (by decide) z; omega)] at em0
  obtain ⟨σx1, σm1, a1, a2, k1, p1, gx1, gm1⟩ := tj_adv hJ
  have hlt0 := (hJ.2.1.2.2.2.1 hk).2
  rw [a1, fxBV_s, fxL_r] at ex0
  rw [a2, fxBV_s] at em0
  have hN1 := NXo_fr hT hN (fW_fA gx1) (fY_fN gm1)
  rcases tj_new hT k1 hN1 with ⟨σx2, σm2, a1, a2, f⟩ | ⟨σx2, σm2, τ2, w, a1, a2, wo, wx1, wm1, k2, p2, gx2, gm2⟩
  · refine Or.inl (SF_FL (hX_fA gx1) (hM_fN gm1) f (xEnd_0 ?_) ?_)
    · rw [ex0, a1, fxBI_s, if_pos rfl]
    · rw [em0, a2, fxBI_s, if_pos rfl]
  rw [a1, fxBI_s, if_neg (by decide), x_kind hT k2 hn] at ex0
  rw [a2, fxBI_s, if_neg (by decide), m_isWord k2.2.2.2 k2.2.1 (a := 13) (by decide) (x := 8740238) rfl, m_isWord k2.2.2.2 k2.2.1 (a := 14) (by decide) (x := 38444009) rfl, m_isWord k2.2.2.2 k2.2.1 (a := 15) (by decide) (x := 175252482) rfl, m_isWord k2.2.2.2 k2.2.1 (a := 16) (by decide) (x := 1841546) rfl, fxBP_s, kd_ch, fx_clN (by omega)] at em0
  have hin : fx_in (nI (6 + r 0 0)) 12 = true := fx_inN (by omega) (by decide)
  simp only [fxG_t hin, fxL_r] at em0
  rw [si1s] at em0
  rcases kd_s τ2 with hkd | ⟨k, hk3, hkd, hk2⟩
  · have kf : TJ t τ2 σx2 (fx_si σm2 5 (6 + r 0 0) (kd τ2)) := TJ_sm k2 (MK_hM k2.2.2.2 (fun b j z => by rw [si1, if_neg (by omega)]) rfl)
    obtain ⟨σx', σm', e1, e2, f⟩ := tj_fail kf 1 (by decide) (by decide) (x := 1) rfl
    refine Or.inl (SF_FL (hX_tr (hX_fA gx1) (hX_fA gx2)) (hM_tr (hM_fN gm1) (hM_tr (hM_fY gm2) (hM_si (by unfold pM; omega)))) f (xEnd_0 ?_) ?_)
    · rw [ex0, if_pos hkd, e1, fxBI_s, fxG_t bo0, fxBI_s, if_pos rfl]
    · rw [em0, if_neg (by rw [hkd]; decide), e2, fxBI_s, fxG_t bo0]
  rw [if_neg (by rw [hkd]; exact nI_nm1 (by omega)), hkd] at ex0
  rw [hkd, if_pos (nI_pos' (by omega))] at em0
  have k2' : TJ t τ2 (fx_si σx2 (T + 2) (r 0 0) (nI k)) (fx_si σm2 5 (6 + r 0 0) (nI k)) := ⟨XT_hX k2.1 (fun b j z => by rw [si1, if_neg (by omega)]) rfl, k2.2.1, by rw [si1, if_neg (by omega)]; exact k2.2.2.1, MK_hM k2.2.2.2 (fun b j z => by rw [si1, if_neg (by omega)]) rfl⟩
  obtain ⟨σx3, σm3, a1, a2, k3, p3, gx3, gm3⟩ := tj_adv k2'
  have hlt2 := (k2.2.1.2.2.2.1 hk2).2
  rw [a1, fxBV_s, fxBI_s, if_neg (by decide)] at ex0
  rw [a2, fxBV_s] at em0
  have hx3 : hX T σx σx3 := hX_tr (hX_fA gx1) (hX_tr (hX_fA gx2) (hX_tr (hX_si (by omega) (by omega)) (hX_fA gx3)))
  have hm3 : hM σm σm3 := hM_tr (hM_fN gm1) (hM_tr (hM_fY gm2) (hM_tr (hM_si (by unfold pM; omega)) (hM_fN gm3)))
  rcases tj_both k3 1 (by decide) (z := 12391871) rfl 2 60 (by decide) (by decide) (x := 2) (y := 60) rfl rfl with ⟨σx4, σm4, a1, a2, f⟩ | ⟨σy, σx4, σm4, a1, a1', a2, f⟩ | ⟨σy, σx4, σm4, τ4, wh, a1, a1', a2, w1, w2, g35, k4, p4, gx4, gm4, g36⟩
  · refine Or.inl (SF_FL hx3 hm3 f (xEnd_0 ?_) ?_)
    · rw [ex0, a1, fxBI_s, if_pos rfl]
    · rw [em0, a2, fxBI_s, if_pos rfl]
  · refine Or.inl (SF_FL hx3 hm3 f (xEnd_0 ?_) ?_)
    · rw [ex0, a1, fxBI_s, if_neg (by decide), a1', fxBI_s, if_pos rfl]
    · rw [em0, a2, fxBI_s, if_pos rfl]
  rw [a1, fxBI_s, if_neg (by decide), a1', fxBI_s, if_neg (nI_nm1 (by omega))] at ex0
  rw [a2, fxBI_s, if_neg (by decide), g35] at em0
  have k4' : TJ t τ4 σx4 (fx_si σm4 6 (6 + r 0 0) (nI wh)) := TJ_sm k4 (MK_hM k4.2.2.2 (fun b j z => by rw [si1, if_neg (by omega)]) rfl)
  have hx4 : hX T σx σx4 := hX_tr hx3 (hX_fA gx4)
  have hm4 : hM σm (fx_si σm4 6 (6 + r 0 0) (nI wh)) := hM_tr hm3 (hM_tr (hM_fY gm4) (hM_si (by unfold pM; omega)))
  rcases tj_both k4' 2 (by decide) (z := 90050) rfl 0 30 (by decide) (by decide) (x := 0) (y := 30) rfl rfl with ⟨σx5, σm5, a1, a2, f⟩ | ⟨σy2, σx5, σm5, a1, a1', a2, f⟩ | ⟨σy2, σx5, σm5, τ5, dn, a1, a1', a2, d1, d2, h35, k5, p5, gx5, gm5, h36⟩
  · refine Or.inl (SF_FL hx4 hm4 f (xEnd_0 ?_) ?_)
    · rw [ex0, a1, fxBI_s, if_pos rfl]
    · rw [em0, a2, fxBI_s, if_pos rfl]
  · refine Or.inl (SF_FL hx4 hm4 f (xEnd_0 ?_) ?_)
    · rw [ex0, a1, fxBI_s, if_neg (by decide), a1', fxBI_s, if_pos rfl]
    · rw [em0, a2, fxBI_s, if_pos rfl]
  have hinx : fx_in (nI (r 0 0)) 6 = true := fx_inN hn (by decide)
  have q6 : σm5.1 6 (6 + r 0 0) = nI wh := by rw [gm5.1 6 _ (by omega), si1, if_pos ⟨rfl, rfl⟩]
  have q23 : σm5.1 2 3 = nI (r 0 0) := by rw [gm5.1 2 _ (by omega), si1, if_neg (by omega), gm4.1 2 _ (by omega), gm3.1 2 _ (by omega), si1, if_neg (by omega), gm2.1 2 _ (by omega), gm1.1 2 _ (by omega)]; exact m23
  have q36 : σm5.2.1 0 36 = lN (enc 27 w) := by rw [h36, si2, g36, gm3.2.1 0 36 (by omega), si2]; exact wm1
  rw [a1, fxBI_s, if_neg (by decide), a1', fxBI_s, if_neg (nI_nm1 (by omega)), wx1, fx_clN (by omega), half_d (by omega) (by omega)] at ex0
  simp only [fxG_t hinx, fxL_r] at ex0
  rw [a2, fxBI_s, if_neg (by decide), q6, h35, half_d (by omega) (by omega), si2, q36] at em0
  simp only [fxG_t (show fx_in 3 6 = true from by decide), fxL_r] at em0
  rw [sl1, si1n _ (by omega), q23, nI_1] at em0
  rw [nI_1] at ex0
  generalize hdd : (if wh / 2 < dn then wh / 2 else dn) = dd at ex0 em0
  have hdd2 : dd ≤ wh / 2 := by rw [← hdd]; by_cases c : wh / 2 < dn; rw [if_pos c]; exact Nat.le_refl _; rw [if_neg c]; omega
  generalize hsx : fx_si (fx_si (fx_si (fx_sl σx5 (T + 1) (r 0 0) (lN (enc 32 w))) (T + 3) (r 0 0) (nI wh)) (T + 4) (r 0 0) (nI dd)) T 0 (nI (r 0 0 + 1)) = σx6 at ex0
  generalize hsm : fx_si (fx_sl (fx_si σm5 7 (6 + r 0 0) (nI dd)) 3 (6 + r 0 0) (lN (enc 27 w))) 2 3 (nI (r 0 0 + 1)) = σm6 at em0
  have X6 : ∀ b j, σx6.1 b j = if b = T ∧ j = 0 then nI (r 0 0 + 1) else if b = T + 4 ∧ j = r 0 0 then nI dd else if b = T + 3 ∧ j = r 0 0 then nI wh else σx5.1 b j := fun b j => by rw [← hsx, si1, si1, si1, sl1]
  have X6l : ∀ b j, σx6.2.1 b j = if b = T + 1 ∧ j = r 0 0 then lN (enc 32 w) else σx5.2.1 b j := fun b j => by rw [← hsx]; exact sl21 _ _ _ _ _ _
  have X6r : σx6.2.2 = σx5.2.2 := by rw [← hsx]; rfl
  have M6 : ∀ b j, σm6.1 b j = if b = 2 ∧ j = 3 then nI (r 0 0 + 1) else if b = 7 ∧ j = 6 + r 0 0 then nI dd else σm5.1 b j := fun b j => by rw [← hsm, si1, sl1, si1]
  have M6l : ∀ b j, σm6.2.1 b j = if b = 3 ∧ j = 6 + r 0 0 then lN (enc 27 w) else σm5.2.1 b j := fun b j => by rw [← hsm]; exact sl21 _ _ _ _ _ _
  have M6r : σm6.2.2 = σm5.2.2 := by rw [← hsm]; rfl
  have k6 : TJ t τ5 σx6 σm6 := ⟨XT_hX k5.1 (fun b j z => by rw [X6, if_neg (by omega), if_neg (by omega), if_neg (by omega)]) (by rw [X6l, if_neg (by omega)]), k5.2.1, by rw [X6, if_neg (by omega), if_neg (by omega), if_neg (by omega)]; exact k5.2.2.1, MK_hM k5.2.2.2 (fun b j z => by rw [M6, if_neg (by omega), if_neg (by omega)]) (by rw [M6l, if_neg (by omega)])⟩
  have hx6 : hX T σx σx6 := by
    have e := hX_tr hx4 (hX_fA (T := T) gx5)
    refine ⟨fun b j z => ?_, fun b j z => ?_, X6r.trans e.2.2⟩
    · rw [X6, if_neg (by unfold pX at z; omega), if_neg (by unfold pX at z; omega), if_neg (by unfold pX at z; omega)]; exact e.1 b j z
    · rw [X6l, if_neg (by omega)]; exact e.2.1 b j z
  have hm6 : hM σm σm6 := by
    have e := hM_tr hm4 (hM_fY gm5)
    refine ⟨fun b j z => ?_, fun b j z => ?_, M6r.trans e.2.2⟩
    · rw [M6, if_neg (by unfold pM at z; omega), if_neg (by unfold pM at z; omega)]; exact e.1 b j z
    · rw [M6l, if_neg (by omega)]; exact e.2.1 b j z
  rcases tj_sign k6 with ⟨σx7, σm7, a1, a2, f⟩ | ⟨σx7, σm7, τ7, a1, a2, k7, p7, gx7, gm7⟩
  · refine Or.inl (SF_FL hx6 hm6 f ?_ ?_)
    · rw [xEnd_1 ex0, a1]
    · rw [em0, a2, fxBI_s, fxG_t bo0]
  · have hx7 := hX_tr hx6 (hX_fA (T := T) gx7)
    have hm7 := hM_tr hm6 (hM_fN gm7)
    -- what lies in the cells now
    have XX : ∀ b j, b ≠ 3 → ¬ (b = T + 2 ∧ j = r 0 0) → σx5.1 b j = σx.1 b j := fun b j z1 z2 => by rw [gx5.1 b j (by omega), gx4.1 b j (by omega), gx3.1 b j (by omega), si1, if_neg (by omega), gx2.1 b j (by omega), gx1.1 b j (by omega)]
    have XK : σx5.1 (T + 2) (r 0 0) = nI k := by rw [gx5.1 _ _ (by omega), gx4.1 _ _ (by omega), gx3.1 _ _ (by omega), si1, if_pos ⟨rfl, rfl⟩]
    have XL : ∀ b j, b ≠ 3 → σx5.2.1 b j = σx.2.1 b j := fun b j z1 => by rw [gx5.2.1 b j (by omega), gx4.2.1 b j (by omega), gx3.2.1 b j (by omega), si2, gx2.2.1 b j (by omega), gx1.2.1 b j (by omega)]
    have MM : ∀ b j, b ≠ 0 → ¬ (b = 5 ∧ j = 6 + r 0 0) → ¬ (b = 6 ∧ j = 6 + r 0 0) → σm5.1 b j = σm.1 b j := fun b j z1 z2 z3 => by rw [gm5.1 b j (by omega), si1, if_neg (by omega), gm4.1 b j (by omega), gm3.1 b j (by omega), si1, if_neg (by omega), gm2.1 b j (by omega), gm1.1 b j (by omega)]
    have MMz : ∀ j, j = 21 ∨ j = 22 → σm5.1 0 j = σm.1 0 j := fun j z => by rw [gm5.1 0 j (by omega), si1, if_neg (by omega), gm4.1 0 j (by omega), gm3.1 0 j (by omega), si1, if_neg (by omega), gm2.1 0 j (by omega), gm1.1 0 j (by omega)]
    have MK5 : σm5.1 5 (6 + r 0 0) = nI k := by rw [gm5.1 _ _ (by omega), si1, if_neg (by omega), gm4.1 _ _ (by omega), gm3.1 _ _ (by omega), si1, if_pos ⟨rfl, rfl⟩]
    have ML : ∀ b j, b ≠ 0 → σm5.2.1 b j = σm.2.1 b j := fun b j z1 => by rw [gm5.2.1 b j (by omega), si2, gm4.2.1 b j (by omega), gm3.2.1 b j (by omega), si2, gm2.2.1 b j (by omega), gm1.2.1 b j (by omega)]
    refine Or.inr ⟨σx7, σm7, τ7, by rw [xEnd_1 ex0, a1], hx7, by rw [em0, a2, fxBI_s, fxG_t bo1], hm7, ⟨k7, ?_⟩, by omega⟩
    have x7 : ∀ b j, b ≠ 3 → σx7.1 b j = σx6.1 b j := fun b j z => gx7.1 b j (by omega)
    have m7 : ∀ b j, b ≠ 0 → σm7.1 b j = σm6.1 b j := fun b j z => gm7.1 b j (by omega)
    have x7l : ∀ b j, b ≠ 3 → σx7.2.1 b j = σx6.2.1 b j := fun b j z => gx7.2.1 b j (by omega)
    have m7l : ∀ b j, b ≠ 0 → σm7.2.1 b j = σm6.2.1 b j := fun b j z => gm7.2.1 b j (by omega)
    have r00 : upR (upR (upR (upR r 1 (r 0 0) k) 2 (r 0 0) wh) 3 (r 0 0) dd) 0 0 (r 0 0 + 1) 0 0 = r 0 0 + 1 := upR_s _ _ _ _
    have r01 : upR (upR (upR (upR r 1 (r 0 0) k) 2 (r 0 0) wh) 3 (r 0 0) dd) 0 0 (r 0 0 + 1) 0 1 = r 0 1 := by rw [upR_n _ (by omega), upR_n _ (by omega), upR_n _ (by omega), upR_n _ (by omega)]
    have r02 : upR (upR (upR (upR r 1 (r 0 0) k) 2 (r 0 0) wh) 3 (r 0 0) dd) 0 0 (r 0 0 + 1) 0 2 = r 0 2 := by rw [upR_n _ (by omega), upR_n _ (by omega), upR_n _ (by omega), upR_n _ (by omega)]
    have r4 : ∀ p, upR (upR (upR (upR r 1 (r 0 0) k) 2 (r 0 0) wh) 3 (r 0 0) dd) 0 0 (r 0 0 + 1) 4 p = r 4 p := fun p => by rw [upR_n _ (by omega), upR_n _ (by omega), upR_n _ (by omega), upR_n _ (by omega)]
    have r5 : ∀ p, upR (upR (upR (upR r 1 (r 0 0) k) 2 (r 0 0) wh) 3 (r 0 0) dd) 0 0 (r 0 0 + 1) 5 p = r 5 p := fun p => by rw [upR_n _ (by omega), upR_n _ (by omega), upR_n _ (by omega), upR_n _ (by omega)]
    have ra : ∀ a i, a = 1 ∨ a = 2 ∨ a = 3 → i ≠ r 0 0 → upR (upR (upR (upR r 1 (r 0 0) k) 2 (r 0 0) wh) 3 (r 0 0) dd) 0 0 (r 0 0 + 1) a i = r a i := fun a i z y => by rw [upR_n _ (by omega), upR_n _ (by omega), upR_n _ (by omega), upR_n _ (by omega)]
    have r1n : upR (upR (upR (upR r 1 (r 0 0) k) 2 (r 0 0) wh) 3 (r 0 0) dd) 0 0 (r 0 0 + 1) 1 (r 0 0) = k := by rw [upR_n _ (by omega), upR_n _ (by omega), upR_n _ (by omega), upR_s]
    have r2n : upR (upR (upR (upR r 1 (r 0 0) k) 2 (r 0 0) wh) 3 (r 0 0) dd) 0 0 (r 0 0 + 1) 2 (r 0 0) = wh := by rw [upR_n _ (by omega), upR_n _ (by omega), upR_s]
    have r3n : upR (upR (upR (upR r 1 (r 0 0) k) 2 (r 0 0) wh) 3 (r 0 0) dd) 0 0 (r 0 0 + 1) 3 (r 0 0) = dd := by rw [upR_n _ (by omega), upR_s]
    refine ⟨upR (upR (upR (upR r 1 (r 0 0) k) 2 (r 0 0) wh) 3 (r 0 0) dd) 0 0 (r 0 0 + 1), fun i => if i = r 0 0 then w else wn i, pn, ?_, ?_, ?_, ?_, ?_, ?_⟩
    · unfold RB rH
      rw [r00, r01, r02]
      refine ⟨by omega, B2, B3, B4, fun i hi => ?_, fun p hp => by rw [r4, r5]; exact B6 p hp⟩
      by_cases c : i = r 0 0
      · rw [c, r1n, r2n, r3n]; exact ⟨hk3, by omega, by omega, hdd2⟩
      · rw [ra 1 i (by omega) c, ra 2 i (by omega) c, ra 3 i (by omega) c]; exact B5 i (by omega)
    · obtain ⟨y1, y2, y3, y4, y5, y6⟩ := hX0
      unfold RX
      rw [r00, r01, r02]
      refine ⟨y1, ?_, ?_, ?_, fun i hi => ?_, fun p hp => ?_⟩
      · rw [x7 _ _ (by omega), X6, if_pos ⟨rfl, rfl⟩]
      · rw [x7 _ _ (by omega), X6, if_neg (by omega), if_neg (by omega), if_neg (by omega), XX _ _ (by omega) (by omega)]; exact y3
      · rw [x7 _ _ (by omega), X6, if_neg (by omega), if_neg (by omega), if_neg (by omega), XX _ _ (by omega) (by omega)]; exact y4
      · rw [x7 _ _ (by omega), x7 _ _ (by omega), x7 _ _ (by omega), X6, X6, X6]
        by_cases c : i = r 0 0
        · rw [c, r1n, r2n, r3n, if_neg (by omega), if_neg (by omega), if_neg (by omega), XK, if_neg (by omega), if_neg (by omega), if_pos ⟨rfl, rfl⟩, if_neg (by omega), if_pos ⟨rfl, rfl⟩]
          exact ⟨rfl, rfl, rfl⟩
        · rw [ra 1 i (by omega) c, ra 2 i (by omega) c, ra 3 i (by omega) c, if_neg (by omega), if_neg (by omega), if_neg (by omega), if_neg (by omega), if_neg (by omega), if_neg (by omega), if_neg (by omega), if_neg (by omega), if_neg (by omega), XX _ _ (by omega) (by omega), XX _ _ (by omega) (by omega), XX _ _ (by omega) (by omega)]
          exact y5 i (by omega)
      · rw [x7 _ _ (by omega), x7 _ _ (by omega), X6, X6, if_neg (by omega), if_neg (by omega), if_neg (by omega), if_neg (by omega), if_neg (by omega), if_neg (by omega), XX _ _ (by omega) (by omega), XX _ _ (by omega) (by omega), r4, r5]
        exact y6 p hp
    · obtain ⟨y1, y2, y3, y4, y5⟩ := hM0
      unfold RM
      rw [r00, r01, r02]
      refine ⟨?_, ?_, ?_, fun i hi => ?_, fun p hp => ?_⟩
      · rw [m7 _ _ (by omega), M6, if_pos ⟨rfl, rfl⟩]
      · rw [m7 _ _ (by omega), M6, if_neg (by omega), if_neg (by omega), MM _ _ (by omega) (by omega) (by omega)]; exact y2
      · rw [m7 _ _ (by omega), M6, if_neg (by omega), if_neg (by omega), MM _ _ (by omega) (by omega) (by omega)]; exact y3
      · rw [m7 _ _ (by omega), m7 _ _ (by omega), m7 _ _ (by omega), M6, M6, M6]
        by_cases c : i = r 0 0
        · rw [c, r1n, r2n, r3n, if_neg (by omega), if_neg (by omega), if_neg (by omega), if_neg (by omega), if_neg (by omega), if_pos ⟨rfl, rfl⟩]
          exact ⟨MK5, q6, rfl⟩
        · rw [ra 1 i (by omega) c, ra 2 i (by omega) c, ra 3 i (by omega) c, if_neg (by omega), if_neg (by omega), if_neg (by omega), if_neg (by omega), if_neg (by omega), if_neg (by omega), MM _ _ (by omega) (by omega) (by omega), MM _ _ (by omega) (by omega) (by omega), MM _ _ (by omega) (by omega) (by omega)]
          exact y4 i (by omega)
      · rw [m7 _ _ (by omega), m7 _ _ (by omega), M6, M6, if_neg (by omega), if_neg (by omega), if_neg (by omega), if_neg (by omega), MM _ _ (by omega) (by omega) (by omega), MM _ _ (by omega) (by omega) (by omega), r4, r5]
        exact y5 p hp
    · obtain ⟨y1, y2, y3, y4, y5, y6, y7, y8⟩ := hN
      rw [r00, r01]
      refine ⟨by omega, y2, ?_, ?_, ?_, ?_, fun i hi => ?_, fun p hp => ?_⟩
      · rw [x7 _ _ (by omega), X6, if_pos ⟨rfl, rfl⟩]
      · rw [x7 _ _ (by omega), X6, if_neg (by omega), if_neg (by omega), if_neg (by omega), XX _ _ (by omega) (by omega)]; exact y4
      · rw [m7 _ _ (by omega), M6, if_pos ⟨rfl, rfl⟩]
      · rw [m7 _ _ (by omega), M6, if_neg (by omega), if_neg (by omega), MM _ _ (by omega) (by omega) (by omega)]; exact y6
      · rw [x7l _ _ (by omega), m7l _ _ (by omega), X6l, M6l]
        by_cases c : i = r 0 0
        · rw [show (fun i => if i = r 0 0 then w else wn i) i = w from if_pos c, if_pos ⟨rfl, c⟩, if_pos ⟨rfl, by omega⟩]; exact ⟨wo, rfl, rfl⟩
        · rw [show (fun i => if i = r 0 0 then w else wn i) i = wn i from if_neg c, if_neg (by omega), if_neg (by omega), XL _ _ (by omega), ML _ _ (by omega)]; exact y7 i (by omega)
      · rw [x7l _ _ (by omega), m7l _ _ (by omega), X6l, M6l, if_neg (by omega), if_neg (by omega), XL _ _ (by omega), ML _ _ (by omega)]; exact y8 p hp
    · obtain ⟨f, f1, f2, f3⟩ := hF
      refine ⟨f, f1, ?_, ?_⟩
      · rw [x7 _ _ (by omega), X6, if_neg (by omega), if_neg (by omega), if_neg (by omega), XX _ _ (by omega) (by omega)]; exact f2
      · rw [gm7.1 0 22 (by omega), M6, if_neg (by omega), if_neg (by omega), MMz _ (by omega)]; exact f3
    · have eX : ∀ b j, b = T + 8 ∨ b = T + 9 ∨ (b = T ∧ j = 11) → σx7.1 b j = σx.1 b j := fun b j z => by rw [x7 _ _ (by omega), X6, if_neg (by omega), if_neg (by omega), if_neg (by omega), XX _ _ (by omega) (by omega)]
      have eM : ∀ b j, b = 10 ∨ b = 11 ∨ b = 12 → σm7.1 b j = σm.1 b j := fun b j z => by rw [m7 _ _ (by omega), M6, if_neg (by omega), if_neg (by omega), MM _ _ (by omega) (by omega) (by omega)]
      have e21 : σm7.1 0 21 = σm.1 0 21 := by rw [gm7.1 0 21 (by omega), M6, if_neg (by omega), if_neg (by omega), MMz _ (by omega)]
      exact WD_fr hW eX eM e21
end STM
