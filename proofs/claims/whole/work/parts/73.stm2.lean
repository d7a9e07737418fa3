/-! ===== telling a republic: parties, causes, the fine, the law ===== -/
section STN
variable {t : TP} {τ : TK} {σx σm : FH} {T : Nat}
set_option maxHeartbeats 1000000 in
theorem st_party (hT : tOk T) (h : DR T t τ σx σm) (hk : τ.1 ≠ 1) : SF T σx σm (xEnd (fX4_readParty T σx)) (fX12_readsParty σm) ∨ SG T t τ σx σm (xEnd (fX4_readParty T σx)) (fX12_readsParty σm) := by
  have hT' : T = 17 ∨ T = 28 := hT
  obtain ⟨hJ, r, wn, pn, hB, hX0, hM0, hN, hF, hW⟩ := h
  have hB' := hB
  obtain ⟨B1, B2, B3, B4, B5, B6⟩ := hB'
  generalize hrx : fX4_readParty T σx = rx
  generalize hrm : fX12_readsParty σm = rm
  have ex0 := hrx.symm
  have em0 := hrm.symm
  unfold fX4_readParty at ex0
  unfold fX12_readsParty at em0
  have m24 : σm.1 2 4 = nI (r 0 1) := hM0.2.1
  rw [fxG_t (tOk_L hT), hX0.2.2.1, fxL_r] at ex0
  rw [fxG_t (by decide), show Int32.toNatClampNeg 4 = 4 from by decide, m24, show (5 : Int32) + nI (r 0 1) = nI (5 + r 0 1) from nI_add 5 _, fxL_r] at em0
  by_cases c5 : r 0 1 = 5
  · obtain ⟨σx', σm', e1, e2, f⟩ := tj_fail hJ 5 (by decide) (by decide) (x := 5) rfl
    refine Or.inl (SF_FL (hX_rf T σx) (hM_rf σm) f (xEnd_0 ?_) ?_)
    · rw [ex0, if_neg (by rw [c5]; decide), e1, fxBI_s, fxG_t bo0]
    · rw [em0, if_pos (by rw [c5]; decide), e2, fxBI_s, fxG_t bo0]
  have hn : r 0 1 < 5 := by omega
  rw [if_pos (show nI (r 0 1) < 5 from nI_lt (b := 5) hn (by decide))] at ex0
  rw [if_neg (fun z => by have := nI_inj (b := 10) (by omega) (by decide) z; omega)] at em0
  obtain ⟨σx1, σm1, a1, a2, k1, p1, gx1, gm1⟩ := tj_adv hJ
  have hlt0 := (hJ.2.1.2.2.2.1 hk).2
  rw [a1, fxBV_s, fxL_r] at ex0
  rw [a2, fxBV_s] at em0
  have hN1 := NXo_fr hT hN (fW_fA gx1) (fY_fN gm1)
  rcases tj_new hT k1 hN1 with ⟨σx2, σm2, a1, a2, f⟩ | ⟨σx2, σm2, τ2, w, a1, a2, wo, wx1, wm1, k2, p2, gx2, gm2⟩
  · refine Or.inl (SF_FL (hX_fA gx1) (hM_fN gm1) f (xEnd_0 ?_) ?_)
    · rw [ex0, a1, fxBI_s, if_pos rfl]
    · rw [em0, a2, fxBI_s, if_pos rfl]
  rw [a1, fxBI_s, if_neg (by decide)] at ex0
  rw [a2, fxBI_s, if_neg (by decide)] at em0
  have hx3 : hX T σx σx2 := hX_tr (hX_fA gx1) (hX_fA gx2)
  have hm3 : hM σm σm2 := hM_tr (hM_fN gm1) (hM_fY gm2)
  rcases tj_both k2 4 (by decide) (z := 10197082) rfl 0 40 (by decide) (by decide) (x := 0) (y := 40) rfl rfl with ⟨σx4, σm4, a1, a2, f⟩ | ⟨σy, σx4, σm4, a1, a1', a2, f⟩ | ⟨σy, σx5, σm5, τ5, se, a1, a1', a2, w1, w2, g35, k5, p5, gx5, gm5, g36⟩
  · refine Or.inl (SF_FL hx3 hm3 f (xEnd_0 ?_) ?_)
    · rw [ex0, a1, fxBI_s, if_pos rfl]
    · rw [em0, a2, fxBI_s, if_pos rfl]
  · refine Or.inl (SF_FL hx3 hm3 f (xEnd_0 ?_) ?_)
    · rw [ex0, a1, fxBI_s, if_neg (by decide), a1', fxBI_s, if_pos rfl]
    · rw [em0, a2, fxBI_s, if_pos rfl]
  have hinx : fx_in (nI (r 0 1)) 5 = true := fx_inN hn (by decide)
  have hin : fx_in (nI (5 + r 0 1)) 10 = true := fx_inN (by omega) (by decide)
  have q23 : σm5.1 2 4 = nI (r 0 1) := by rw [gm5.1 2 _ (by omega), gm2.1 2 _ (by omega), gm1.1 2 _ (by omega)]; exact m24
  have q36 : σm5.2.1 0 36 = lN (enc 27 w) := by rw [g36]; exact wm1
  rw [a1, fxBI_s, if_neg (by decide), a1', fxBI_s, if_neg (nI_nm1 (by omega)), wx1, fx_clN (by omega)] at ex0
  simp only [fxG_t hinx, fxL_r] at ex0
  rw [a2, fxBI_s, if_neg (by decide), g35, fx_clN (by omega)] at em0
  simp only [fxG_t hin, fxG_t (show fx_in 4 6 = true from by decide), fxL_r, si2] at em0
  rw [q36, sl1, si1n _ (by omega), si1n _ (by omega), q23, nI_1] at em0
  rw [nI_1] at ex0
  generalize hsx : fx_si (fx_si (fx_si (fx_sl σx5 (T + 5) (r 0 1) (lN (enc 32 w))) (T + 6) (r 0 1) (nI se)) (T + 7) (r 0 1) 0) T 5 (nI (r 0 1 + 1)) = σx6 at ex0
  generalize hsm : fx_si (fx_sl (fx_si (fx_si σm5 8 (5 + r 0 1) (nI se)) 9 (5 + r 0 1) 0) 4 (5 + r 0 1) (lN (enc 27 w))) 2 4 (nI (r 0 1 + 1)) = σm6 at em0
  have X6 : ∀ b j, σx6.1 b j = if b = T ∧ j = 5 then nI (r 0 1 + 1) else if b = T + 7 ∧ j = r 0 1 then 0 else if b = T + 6 ∧ j = r 0 1 then nI se else σx5.1 b j := fun b j => by rw [← hsx, si1, si1, si1, sl1]
  have X6l : ∀ b j, σx6.2.1 b j = if b = T + 5 ∧ j = r 0 1 then lN (enc 32 w) else σx5.2.1 b j := fun b j => by rw [← hsx]; exact sl21 _ _ _ _ _ _
  have X6r : σx6.2.2 = σx5.2.2 := by rw [← hsx]; rfl
  have M6 : ∀ b j, σm6.1 b j = if b = 2 ∧ j = 4 then nI (r 0 1 + 1) else if b = 9 ∧ j = 5 + r 0 1 then 0 else if b = 8 ∧ j = 5 + r 0 1 then nI se else σm5.1 b j := fun b j => by rw [← hsm, si1, sl1, si1, si1]
  have M6l : ∀ b j, σm6.2.1 b j = if b = 4 ∧ j = 5 + r 0 1 then lN (enc 27 w) else σm5.2.1 b j := fun b j => by rw [← hsm]; exact sl21 _ _ _ _ _ _
  have M6r : σm6.2.2 = σm5.2.2 := by rw [← hsm]; rfl
  have k6 : TJ t τ5 σx6 σm6 := ⟨XT_hX k5.1 (fun b j z => by rw [X6, if_neg (by omega), if_neg (by omega), if_neg (by omega)]) (by rw [X6l, if_neg (by omega)]), k5.2.1, by rw [X6, if_neg (by omega), if_neg (by omega), if_neg (by omega)]; exact k5.2.2.1, MK_hM k5.2.2.2 (fun b j z => by rw [M6, if_neg (by omega), if_neg (by omega), if_neg (by omega)]) (by rw [M6l, if_neg (by omega)])⟩
  have hx6 : hX T σx σx6 := by
    have e := hX_tr hx3 (hX_fA (T := T) gx5)
    refine ⟨fun b j z => ?_, fun b j z => ?_, X6r.trans e.2.2⟩
    · rw [X6, if_neg (by unfold pX at z; omega), if_neg (by unfold pX at z; omega), if_neg (by unfold pX at z; omega)]; exact e.1 b j z
    · rw [X6l, if_neg (by omega)]; exact e.2.1 b j z
  have hm6 : hM σm σm6 := by
    have e := hM_tr hm3 (hM_fY gm5)
    refine ⟨fun b j z => ?_, fun b j z => ?_, M6r.trans e.2.2⟩
    · rw [M6, if_neg (by unfold pM at z; omega), if_neg (by unfold pM at z; omega), if_neg (by unfold pM at z; omega)]; exact e.1 b j z
    · rw [M6l, if_neg (by omega)]; exact e.2.1 b j z
  rcases tj_sign k6 with ⟨σx7, σm7, a1, a2, f⟩ | ⟨σx7, σm7, τ7, a1, a2, k7, p7, gx7, gm7⟩
  · refine Or.inl (SF_FL hx6 hm6 f ?_ ?_)
    · rw [xEnd_1 ex0, a1]
    · rw [em0, a2, fxBI_s, fxG_t bo0]
  · have hx7 := hX_tr hx6 (hX_fA (T := T) gx7)
    have hm7 := hM_tr hm6 (hM_fN gm7)
    have XX : ∀ b j, b ≠ 3 → σx5.1 b j = σx.1 b j := fun b j z1 => by rw [gx5.1 b j (by omega), gx2.1 b j (by omega), gx1.1 b j (by omega)]
    have XL : ∀ b j, b ≠ 3 → σx5.2.1 b j = σx.2.1 b j := fun b j z1 => by rw [gx5.2.1 b j (by omega), gx2.2.1 b j (by omega), gx1.2.1 b j (by omega)]
    have MM : ∀ b j, b ≠ 0 → σm5.1 b j = σm.1 b j := fun b j z1 => by rw [gm5.1 b j (by omega), gm2.1 b j (by omega), gm1.1 b j (by omega)]
    have MMz : ∀ j, j = 21 ∨ j = 22 → σm5.1 0 j = σm.1 0 j := fun j z => by rw [gm5.1 0 j (by omega), gm2.1 0 j (by omega), gm1.1 0 j (by omega)]
    have ML : ∀ b j, b ≠ 0 → σm5.2.1 b j = σm.2.1 b j := fun b j z1 => by rw [gm5.2.1 b j (by omega), gm2.2.1 b j (by omega), gm1.2.1 b j (by omega)]
    refine Or.inr ⟨σx7, σm7, τ7, by rw [xEnd_1 ex0, a1], hx7, by rw [em0, a2, fxBI_s, fxG_t bo1], hm7, ⟨k7, ?_⟩, by omega⟩
    have x7 : ∀ b j, b ≠ 3 → σx7.1 b j = σx6.1 b j := fun b j z => gx7.1 b j (by omega)
    have m7 : ∀ b j, b ≠ 0 → σm7.1 b j = σm6.1 b j := fun b j z => gm7.1 b j (by omega)
    have x7l : ∀ b j, b ≠ 3 → σx7.2.1 b j = σx6.2.1 b j := fun b j z => gx7.2.1 b j (by omega)
    have m7l : ∀ b j, b ≠ 0 → σm7.2.1 b j = σm6.2.1 b j := fun b j z => gm7.2.1 b j (by omega)
    generalize hr' : upR (upR (upR r 4 (r 0 1) se) 5 (r 0 1) 0) 0 1 (r 0 1 + 1) = r'
    have r01 : r' 0 1 = r 0 1 + 1 := by rw [← hr']; exact upR_s _ _ _ _
    have r00 : r' 0 0 = r 0 0 := by rw [← hr', upR_n _ (by omega), upR_n _ (by omega), upR_n _ (by omega)]
    have r02 : r' 0 2 = r 0 2 := by rw [← hr', upR_n _ (by omega), upR_n _ (by omega), upR_n _ (by omega)]
    have ra : ∀ a i, a = 1 ∨ a = 2 ∨ a = 3 → r' a i = r a i := fun a i z => by rw [← hr', upR_n _ (by omega), upR_n _ (by omega), upR_n _ (by omega)]
    have rb : ∀ a i, a = 4 ∨ a = 5 → i ≠ r 0 1 → r' a i = r a i := fun a i z y => by rw [← hr', upR_n _ (by omega), upR_n _ (by omega), upR_n _ (by omega)]
    have r4n : r' 4 (r 0 1) = se := by rw [← hr', upR_n _ (by omega), upR_n _ (by omega), upR_s]
    have r5n : r' 5 (r 0 1) = 0 := by rw [← hr', upR_n _ (by omega), upR_s]
    refine ⟨r', wn, fun i => if i = r 0 1 then w else pn i, ?_, ?_, ?_, ?_, ?_, ?_⟩
    · unfold RB rH
      rw [r00, r01, r02]
      refine ⟨B1, by omega, B3, B4, fun i hi => by rw [ra 1 i (by omega), ra 2 i (by omega), ra 3 i (by omega)]; exact B5 i hi, fun p hp => ?_⟩
      by_cases c : p = r 0 1
      · rw [c, r4n, r5n]; exact ⟨by omega, by decide⟩
      · rw [rb 4 p (by omega) c, rb 5 p (by omega) c]; exact B6 p (by omega)
    · obtain ⟨y1, y2, y3, y4, y5, y6⟩ := hX0
      unfold RX
      rw [r00, r01, r02]
      refine ⟨y1, ?_, ?_, ?_, fun i hi => ?_, fun p hp => ?_⟩
      · rw [x7 _ _ (by omega), X6, if_neg (by omega), if_neg (by omega), if_neg (by omega), XX _ _ (by omega)]; exact y2
      · rw [x7 _ _ (by omega), X6, if_pos ⟨rfl, rfl⟩]
      · rw [x7 _ _ (by omega), X6, if_neg (by omega), if_neg (by omega), if_neg (by omega), XX _ _ (by omega)]; exact y4
      · rw [x7 _ _ (by omega), x7 _ _ (by omega), x7 _ _ (by omega), X6, X6, X6, ra 1 i (by omega), ra 2 i (by omega), ra 3 i (by omega), if_neg (by omega), if_neg (by omega), if_neg (by omega), if_neg (by omega), if_neg (by omega), if_neg (by omega), if_neg (by omega), if_neg (by omega), if_neg (by omega), XX _ _ (by omega), XX _ _ (by omega), XX _ _ (by omega)]
        exact y5 i hi
      · rw [x7 _ _ (by omega), x7 _ _ (by omega), X6, X6]
        by_cases c : p = r 0 1
        · rw [c, r4n, r5n, if_neg (by omega), if_neg (by omega), if_pos ⟨rfl, rfl⟩, if_neg (by omega), if_pos ⟨rfl, rfl⟩]
          exact ⟨rfl, rfl⟩
        · rw [rb 4 p (by omega) c, rb 5 p (by omega) c, if_neg (by omega), if_neg (by omega), if_neg (by omega), if_neg (by omega), if_neg (by omega), if_neg (by omega), XX _ _ (by omega), XX _ _ (by omega)]
          exact y6 p (by omega)
    · obtain ⟨y1, y2, y3, y4, y5⟩ := hM0
      unfold RM
      rw [r00, r01, r02]
      refine ⟨?_, ?_, ?_, fun i hi => ?_, fun p hp => ?_⟩
      · rw [m7 _ _ (by omega), M6, if_neg (by omega), if_neg (by omega), if_neg (by omega), MM _ _ (by omega)]; exact y1
      · rw [m7 _ _ (by omega), M6, if_pos ⟨rfl, rfl⟩]
      · rw [m7 _ _ (by omega), M6, if_neg (by omega), if_neg (by omega), if_neg (by omega), MM _ _ (by omega)]; exact y3
      · rw [m7 _ _ (by omega), m7 _ _ (by omega), m7 _ _ (by omega), M6, M6, M6, ra 1 i (by omega), ra 2 i (by omega), ra 3 i (by omega), if_neg (by omega), if_neg (by omega), if_neg (by omega), if_neg (by omega), if_neg (by omega), if_neg (by omega), if_neg (by omega), if_neg (by omega), if_neg (by omega), MM _ _ (by omega), MM _ _ (by omega), MM _ _ (by omega)]
        exact y4 i hi
      · rw [m7 _ _ (by omega), m7 _ _ (by omega), M6, M6]
        by_cases c : p = r 0 1
        · rw [c, r4n, r5n, if_neg (by omega), if_neg (by omega), if_pos ⟨rfl, rfl⟩, if_neg (by omega), if_pos ⟨rfl, rfl⟩]
          exact ⟨rfl, rfl⟩
        · rw [rb 4 p (by omega) c, rb 5 p (by omega) c, if_neg (by omega), if_neg (by omega), if_neg (by omega), if_neg (by omega), if_neg (by omega), if_neg (by omega), MM _ _ (by omega), MM _ _ (by omega)]
          exact y5 p (by omega)
    · obtain ⟨y1, y2, y3, y4, y5, y6, y7, y8⟩ := hN
      rw [r00, r01]
      refine ⟨y1, by omega, ?_, ?_, ?_, ?_, fun i hi => ?_, fun p hp => ?_⟩
      · rw [x7 _ _ (by omega), X6, if_neg (by omega), if_neg (by omega), if_neg (by omega), XX _ _ (by omega)]; exact y3
      · rw [x7 _ _ (by omega), X6, if_pos ⟨rfl, rfl⟩]
      · rw [m7 _ _ (by omega), M6, if_neg (by omega), if_neg (by omega), if_neg (by omega), MM _ _ (by omega)]; exact y5
      · rw [m7 _ _ (by omega), M6, if_pos ⟨rfl, rfl⟩]
      · rw [x7l _ _ (by omega), m7l _ _ (by omega), X6l, M6l, if_neg (by omega), if_neg (by omega), XL _ _ (by omega), ML _ _ (by omega)]; exact y7 i hi
      · rw [x7l _ _ (by omega), m7l _ _ (by omega), X6l, M6l]
        by_cases c : p = r 0 1
        · rw [show (fun i => if i = r 0 1 then w else pn i) p = w from if_pos c, if_pos ⟨rfl, c⟩, if_pos ⟨rfl, by omega⟩]; exact ⟨wo, rfl, rfl⟩
        · rw [show (fun i => if i = r 0 1 then w else pn i) p = pn p from if_neg c, if_neg (by omega), if_neg (by omega), XL _ _ (by omega), ML _ _ (by omega)]; exact y8 p (by omega)
    · obtain ⟨f, f1, f2, f3⟩ := hF
      refine ⟨f, f1, ?_, ?_⟩
      · rw [x7 _ _ (by omega), X6, if_neg (by omega), if_neg (by omega), if_neg (by omega), XX _ _ (by omega)]; exact f2
      · rw [gm7.1 0 22 (by omega), M6, if_neg (by omega), if_neg (by omega), if_neg (by omega), MMz _ (by omega)]; exact f3
    · have eX : ∀ b j, b = T + 8 ∨ b = T + 9 ∨ (b = T ∧ j = 11) → σx7.1 b j = σx.1 b j := fun b j z => by rw [x7 _ _ (by omega), X6, if_neg (by omega), if_neg (by omega), if_neg (by omega), XX _ _ (by omega)]
      have eM : ∀ b j, b = 10 ∨ b = 11 ∨ b = 12 → σm7.1 b j = σm.1 b j := fun b j z => by rw [m7 _ _ (by omega), M6, if_neg (by omega), if_neg (by omega), if_neg (by omega), MM _ _ (by omega)]
      have e21 : σm7.1 0 21 = σm.1 0 21 := by rw [gm7.1 0 21 (by omega), M6, if_neg (by omega), if_neg (by omega), if_neg (by omega), MMz _ (by omega)]
      exact WD_fr hW eX eM e21
set_option maxHeartbeats 1000000 in
theorem st_fine (hT : tOk T) (h : DR T t τ σx σm) (hk : τ.1 ≠ 1) : SF T σx σm (xEnd (fX4_readFine T σx)) (fX12_readsFine σm) ∨ SG T t τ σx σm (xEnd (fX4_readFine T σx)) (fX12_readsFine σm) := by
  have hT' : T = 17 ∨ T = 28 := hT
  obtain ⟨hJ, r, wn, pn, hB, hX0, hM0, hN, hF, hW⟩ := h
  have hB' := hB
  obtain ⟨B1, B2, B3, B4, B5, B6⟩ := hB'
  obtain ⟨f0, f1, f2, f3⟩ := hF
  generalize hrx : fX4_readFine T σx = rx
  generalize hrm : fX12_readsFine σm = rm
  have ex0 := hrx.symm
  have em0 := hrm.symm
  unfold fX4_readFine at ex0
  unfold fX12_readsFine at em0
  rw [fxG_t (tOk_L hT), f2] at ex0
  rw [f3] at em0
  by_cases cf : f0 = 1
  · obtain ⟨σx', σm', e1, e2, f⟩ := tj_fail hJ 3 (by decide) (by decide) (x := 3) rfl
    refine Or.inl (SF_FL (hX_rf T σx) (hM_rf σm) f (xEnd_0 ?_) ?_)
    · rw [ex0, if_neg (by rw [cf]; decide), e1, fxBI_s, fxG_t bo0]
    · rw [em0, if_neg (by rw [cf]; decide), e2, fxBI_s, fxG_t bo0]
  have cf0 : f0 = 0 := by omega
  rw [if_pos (by rw [cf0]; decide)] at ex0
  rw [if_pos (by rw [cf0]; decide), fxL_r] at em0
  have kf : TJ t τ σx (fx_si σm 0 22 1) := TJ_sm hJ (MK_hM hJ.2.2.2 (fun b j z => si1n _ (by omega)) rfl)
  obtain ⟨σx1, σm1, a1, a2, k1, p1, gx1, gm1⟩ := tj_adv kf
  have hlt0 := (hJ.2.1.2.2.2.1 hk).2
  rw [a1, fxBV_s] at ex0
  rw [a2, fxBV_s] at em0
  have hm1 : hM σm σm1 := hM_tr (hM_si (by unfold pM; omega)) (hM_fN gm1)
  rcases tj_num k1 1 9 (by decide) (by decide) (x := 1) (y := 9) rfl rfl with ⟨σx2, σm2, a1, a2, f⟩ | ⟨σx5, σm5, τ5, fi, a1, a2, w1, w2, g35, k5, p5, gx5, gm5, g36⟩
  · refine Or.inl (SF_FL (hX_fA gx1) hm1 f (xEnd_0 ?_) ?_)
    · rw [ex0, a1, fxBI_s, if_pos rfl]
    · rw [em0, a2, fxBI_s, if_pos rfl]
  rw [a1, fxBI_s, if_neg (nI_nm1 (by omega)), fxL_r, fxL_r] at ex0
  rw [a2, fxBI_s, if_neg (by decide), g35, fxG_t (by decide), show Int32.toNatClampNeg 5 = 5 from by decide, fxL_r] at em0
  generalize hsx : fx_si (fx_si σx5 T 9 (nI fi)) T 10 1 = σx6 at ex0
  generalize hsm : fx_si σm5 2 5 (nI fi) = σm6 at em0
  have X6 : ∀ b j, σx6.1 b j = if b = T ∧ j = 10 then 1 else if b = T ∧ j = 9 then nI fi else σx5.1 b j := fun b j => by rw [← hsx, si1, si1]
  have X6l : σx6.2 = σx5.2 := by rw [← hsx]; rfl
  have M6 : ∀ b j, σm6.1 b j = if b = 2 ∧ j = 5 then nI fi else σm5.1 b j := fun b j => by rw [← hsm, si1]
  have M6l : σm6.2 = σm5.2 := by rw [← hsm]; rfl
  have k6 : TJ t τ5 σx6 σm6 := ⟨XT_hX k5.1 (fun b j z => by rw [X6, if_neg (by omega), if_neg (by omega)]) (by rw [X6l]), k5.2.1, by rw [X6, if_neg (by omega), if_neg (by omega)]; exact k5.2.2.1, MK_hM k5.2.2.2 (fun b j z => by rw [M6, if_neg (by omega)]) (by rw [M6l])⟩
  have hx6 : hX T σx σx6 := by
    rw [← hsx]
    exact hX_tr (hX_fA gx1) (hX_tr (hX_fA gx5) (hX_tr (hX_si (by omega) (by omega)) (hX_si (by omega) (by omega))))
  have hm6 : hM σm σm6 := by
    rw [← hsm]
    exact hM_tr hm1 (hM_tr (hM_fY gm5) (hM_si (by unfold pM; omega)))
  rcases tj_sign k6 with ⟨σx7, σm7, a1, a2, f⟩ | ⟨σx7, σm7, τ7, a1, a2, k7, p7, gx7, gm7⟩
  · refine Or.inl (SF_FL hx6 hm6 f ?_ ?_)
    · rw [xEnd_1 ex0, a1]
    · rw [em0, a2, fxBI_s, fxG_t bo0]
  · refine Or.inr ⟨σx7, σm7, τ7, by rw [xEnd_1 ex0, a1], hX_tr hx6 (hX_fA gx7), by rw [em0, a2, fxBI_s, fxG_t bo1], hM_tr hm6 (hM_fN gm7), ⟨k7, ?_⟩, by omega⟩
    have XX : ∀ b j, b ≠ 3 → ¬ (b = T ∧ (j = 9 ∨ j = 10)) → σx7.1 b j = σx.1 b j := fun b j z1 z2 => by rw [gx7.1 b j (by omega), X6, if_neg (by omega), if_neg (by omega), gx5.1 b j (by omega), gx1.1 b j (by omega)]
    have XL : ∀ b j, b ≠ 3 → σx7.2.1 b j = σx.2.1 b j := fun b j z1 => by rw [gx7.2.1 b j (by omega), X6l, gx5.2.1 b j (by omega), gx1.2.1 b j (by omega)]
    have MM : ∀ b j, b ≠ 0 → ¬ (b = 2 ∧ j = 5) → σm7.1 b j = σm.1 b j := fun b j z1 z2 => by rw [gm7.1 b j (by omega), M6, if_neg (by omega), gm5.1 b j (by omega), gm1.1 b j (by omega), si1n _ (by omega)]
    have ML : ∀ b j, b ≠ 0 → σm7.2.1 b j = σm.2.1 b j := fun b j z1 => by rw [gm7.2.1 b j (by omega), M6l, gm5.2.1 b j (by omega), gm1.2.1 b j (by omega)]; rfl
    generalize hr' : upR r 0 2 fi = r'
    have r02 : r' 0 2 = fi := by rw [← hr']; exact upR_s _ _ _ _
    have ra : ∀ a i, ¬ (a = 0 ∧ i = 2) → r' a i = r a i := fun a i z => by rw [← hr', upR_n _ z]
    refine ⟨r', wn, pn, ?_, ?_, ?_, ?_, ?_, ?_⟩
    · unfold RB rH
      rw [ra 0 0 (by omega), ra 0 1 (by omega), r02]
      exact ⟨B1, B2, w1, w2, fun i hi => by rw [ra 1 i (by omega), ra 2 i (by omega), ra 3 i (by omega)]; exact B5 i hi, fun p hp => by rw [ra 4 p (by omega), ra 5 p (by omega)]; exact B6 p hp⟩
    · obtain ⟨y1, y2, y3, y4, y5, y6⟩ := hX0
      unfold RX
      rw [ra 0 0 (by omega), ra 0 1 (by omega), r02]
      refine ⟨y1, (XX _ _ (by omega) (by omega)).trans y2, (XX _ _ (by omega) (by omega)).trans y3, ?_, fun i hi => ?_, fun p hp => ?_⟩
      · rw [gx7.1 _ _ (by omega), X6, if_neg (by omega), if_pos ⟨rfl, rfl⟩]
      · rw [XX _ _ (by omega) (by omega), XX _ _ (by omega) (by omega), XX _ _ (by omega) (by omega), ra 1 i (by omega), ra 2 i (by omega), ra 3 i (by omega)]; exact y5 i hi
      · rw [XX _ _ (by omega) (by omega), XX _ _ (by omega) (by omega), ra 4 p (by omega), ra 5 p (by omega)]; exact y6 p hp
    · obtain ⟨y1, y2, y3, y4, y5⟩ := hM0
      unfold RM
      rw [ra 0 0 (by omega), ra 0 1 (by omega), r02]
      refine ⟨(MM _ _ (by omega) (by omega)).trans y1, (MM _ _ (by omega) (by omega)).trans y2, ?_, fun i hi => ?_, fun p hp => ?_⟩
      · rw [gm7.1 _ _ (by omega), M6, if_pos ⟨rfl, rfl⟩]
      · rw [MM _ _ (by omega) (by omega), MM _ _ (by omega) (by omega), MM _ _ (by omega) (by omega), ra 1 i (by omega), ra 2 i (by omega), ra 3 i (by omega)]; exact y4 i hi
      · rw [MM _ _ (by omega) (by omega), MM _ _ (by omega) (by omega), ra 4 p (by omega), ra 5 p (by omega)]; exact y5 p hp
    · obtain ⟨y1, y2, y3, y4, y5, y6, y7, y8⟩ := hN
      rw [ra 0 0 (by omega), ra 0 1 (by omega)]
      refine ⟨y1, y2, (XX _ _ (by omega) (by omega)).trans y3, (XX _ _ (by omega) (by omega)).trans y4, (MM _ _ (by omega) (by omega)).trans y5, (MM _ _ (by omega) (by omega)).trans y6, fun i hi => ?_, fun p hp => ?_⟩
      · rw [XL _ _ (by omega), ML _ _ (by omega)]; exact y7 i hi
      · rw [XL _ _ (by omega), ML _ _ (by omega)]; exact y8 p hp
    · refine ⟨1, by decide, ?_, ?_⟩
      · rw [gx7.1 _ _ (by omega), X6, if_pos ⟨rfl, rfl⟩]; rfl
      · rw [gm7.1 0 22 (by omega), M6, if_neg (by omega), gm5.1 0 22 (by omega), gm1.1 0 22 (by omega), si1s]; rfl
    · refine WD_fr hW (fun b j z => XX _ _ (by omega) (by omega)) (fun b j z => MM _ _ (by omega) (by omega)) ?_
      rw [gm7.1 0 21 (by omega), M6, if_neg (by omega), gm5.1 0 21 (by omega), gm1.1 0 21 (by omega), si1n _ (by omega)]
theorem bit_or : ∀ a, a < 64 → ∀ w, w < 6 → nI a ||| (1 <<< (nI w &&& 31)) = nI (a ||| 2 ^ w) ∧ a ||| 2 ^ w < 64 := by decide +kernel
set_option maxHeartbeats 1000000 in
theorem st_for (hT : tOk T) (h : DR T t τ σx σm) (hk : τ.1 ≠ 1) : SF T σx σm (xEnd (fX4_readCause T σx)) (fX12_readsFor σm) ∨ SG T t τ σx σm (xEnd (fX4_readCause T σx)) (fX12_readsFor σm) := by
  have hT' : T = 17 ∨ T = 28 := hT
  obtain ⟨hJ, r, wn, pn, hB, hX0, hM0, hN, hF, hW⟩ := h
  have hB' := hB
  obtain ⟨B1, B2, B3, B4, B5, B6⟩ := hB'
  generalize hrx : fX4_readCause T σx = rx
  generalize hrm : fX12_readsFor σm = rm
  have ex0 := hrx.symm
  have em0 := hrm.symm
  unfold fX4_readCause at ex0
  unfold fX12_readsFor at em0
  rw [fxG_t (tOk_L hT)] at ex0
  obtain ⟨σx1, σm1, a1, a2, k1, p1, gx1, gm1⟩ := tj_adv hJ
  have hlt0 := (hJ.2.1.2.2.2.1 hk).2
  have hN1 := NXo_fr hT hN (fW_fA gx1) (fY_fN gm1)
  rw [a1, fxBV_s] at ex0
  rw [a2, fxBV_s] at em0
  obtain ⟨rp, b1', hp⟩ := tj_party hT (o := 1) (by decide) k1 hN1 (y := 1) rfl
  rw [b1', fxBP_s] at ex0
  rcases hp with ⟨-, σx', σm', c1, c2, f⟩ | ⟨nm, p, pl, rfl, c2⟩
  · refine Or.inl (SF_FL (hX_fA gx1) (hM_fN gm1) f (xEnd_0 ?_) ?_)
    · rw [ex0, c1, fxBI_s, if_pos rfl]
    · rw [em0, c2, fxBI_s, if_pos rfl]
  have k1' : TJ t _ σx1 (fx_si σm1 0 35 (nI p)) := TJ_sm k1 (MK_w k1.2.2.2)
  obtain ⟨σx2, σm2, a1, a2, k2, p2, gx2, gm2⟩ := tj_adv k1'
  have hlt1 := (k1.2.1.2.2.2.1 (by rw [nmd_3 nm]; decide)).2
  rw [x_named k1 nm (by omega), if_neg (nI_nm1 (by omega)), a1, fxBV_s, fxBI_s, if_neg (nI_nm1 (by omega))] at ex0
  rw [c2, fxBI_s, if_neg (by decide), si1s, show (5 : Int32) + nI p = nI (5 + p) from nI_add 5 _, fxL_r, a2, fxBV_s] at em0
  have hN2 := NXo_fr hT hN1 (fW_fA gx2) (fY_tr (fY_g (v := nI p)) (fY_fN gm2))
  obtain ⟨rw', b2, hw⟩ := tj_ware hT (o := 1) (by decide) k2 hN2 (y := 1) rfl
  rw [b2, fxBP_s, fxL_r, fxL_r] at ex0
  have hx2 : hX T σx σx2 := hX_tr (hX_fA gx1) (hX_fA gx2)
  have hm2 : hM σm σm2 := hM_tr (hM_fN gm1) (hM_tr (hM_fY fY_g) (hM_fN gm2))
  rcases hw with ⟨e0, σx', σm', c1, c2, f⟩ | ⟨nm2, w, wl, rfl, c2⟩
  · refine Or.inl (SF_FL hx2 hm2 f (xEnd_0 ?_) ?_)
    · rw [ex0, if_pos e0]
      dsimp only
      rw [c1, fxBI_s, if_pos rfl]
    · rw [em0, c2, fxBI_s, if_pos rfl]
  have hin : fx_in (nI p) 5 = true := fx_inN (by omega) (by decide)
  have hin9 : fx_in (nI (5 + p)) 10 = true := fx_inN (by omega) (by decide)
  have qx : σx2.1 (T + 7) p = nI (r 5 p) := by rw [gx2.1 _ _ (by omega), gx1.1 _ _ (by omega)]; exact (hX0.2.2.2.2.2 p pl).2
  have qm : σm2.1 9 (5 + p) = nI (r 5 p) := by rw [gm2.1 _ _ (by omega), si1n _ (by omega), gm1.1 _ _ (by omega)]; exact (hM0.2.2.2.2 p pl).2
  have hfor : fX5_isFor T (nI p) (nI w) σx2 = some (if ((nI (r 5 p) >>> (nI w &&& 31)) &&& 1) = 1 then 1 else 0) := by
    unfold fX5_isFor
    rw [fxG_t (tOk_L hT), fxG_t hin, fx_clN (by omega), qx, fxL_r]
    by_cases c : ((nI (r 5 p) >>> (nI w &&& 31)) &&& 1) = 1
    · rw [if_pos c, fxG_t bo1]
    · rw [if_neg c, fxG_t bo0]
  rw [if_neg (nI_nm1 (by omega)), hfor, fxBP_s] at ex0
  rw [c2, fxBI_s, if_neg (by decide), fxG_t hin9, fx_clN (by omega), si1s, si1n _ (by omega), qm] at em0
  have k2' : TJ t _ σx2 (fx_si σm2 0 35 (nI w)) := TJ_sm k2 (MK_w k2.2.2.2)
  by_cases cb : ((nI (r 5 p) >>> (nI w &&& 31)) &&& 1) = 1
  · obtain ⟨σx', σm', e1, e2, f⟩ := tj_fail k2' 3 (by decide) (by decide) (x := 3) rfl
    refine Or.inl (SF_FL hx2 (hM_tr hm2 (hM_fY fY_g)) f (xEnd_0 ?_) ?_)
    · rw [ex0, if_pos cb, io]
      dsimp only
      rw [x_named k2 nm2 (by omega), if_pos rfl, e1, fxBI_s, fxBI_s, if_pos rfl]
    · rw [em0, if_pos cb, e2, fxBI_s, fxG_t bo0]
  obtain ⟨bo1', bo2'⟩ := bit_or (r 5 p) (B6 p pl).2 w (by omega)
  have kw : TJ t (tkAt t (tkAt t τ.2.2.1).2.2.1) σx2 (fx_si (fx_si σm2 0 35 (nI w)) 9 (5 + p) (nI (r 5 p ||| 2 ^ w))) := TJ_sm k2' (MK_hM k2'.2.2.2 (fun b j z => si1n _ (by omega)) rfl)
  obtain ⟨σx5, σm5, a1, a2, k5, p5, gx5, gm5⟩ := tj_adv kw
  have hlt2 := (k2.2.1.2.2.2.1 (by rw [nmd_3 nm2]; decide)).2
  have qx5 : σx5.1 (T + 7) p = nI (r 5 p) := by rw [gx5.1 _ _ (by omega)]; exact qx
  rw [if_neg cb, iz] at ex0
  dsimp only at ex0
  rw [x_named k2 nm2 (by omega), if_neg (nI_nm1 (by omega)), a1, fxBV_s, fxBI_s, if_neg (nI_nm1 (by omega)), fxG_t hin, fxG_t hin, fx_clN (by omega), qx5, bo1', fxL_r] at ex0
  rw [if_neg cb, fxG_t hin9, fxG_t hin9, bo1', fxL_r, a2, fxBV_s] at em0
  generalize hsx : fx_si σx5 (T + 7) p (nI (r 5 p ||| 2 ^ w)) = σx6 at ex0
  have X6 : ∀ b j, σx6.1 b j = if b = T + 7 ∧ j = p then nI (r 5 p ||| 2 ^ w) else σx5.1 b j := fun b j => by rw [← hsx, si1]
  have X6l : σx6.2 = σx5.2 := by rw [← hsx]; rfl
  have k6 : TJ t _ σx6 σm5 := ⟨XT_hX k5.1 (fun b j z => by rw [X6, if_neg (by omega)]) (by rw [X6l]), k5.2.1, by rw [X6, if_neg (by omega)]; exact k5.2.2.1, k5.2.2.2⟩
  have hx6 : hX T σx σx6 := by
    rw [← hsx]
    exact hX_tr hx2 (hX_tr (hX_fA gx5) (hX_si (by omega) (by omega)))
  have hm6 : hM σm σm5 := hM_tr hm2 (hM_tr (hM_fY fY_g) (hM_tr (hM_si (by unfold pM; omega)) (hM_fN gm5)))
  rcases tj_sign k6 with ⟨σx7, σm7, a1, a2, f⟩ | ⟨σx7, σm7, τ7, a1, a2, k7, p7, gx7, gm7⟩
  · refine Or.inl (SF_FL hx6 hm6 f ?_ ?_)
    · rw [xEnd_1 ex0, a1]
    · rw [em0, a2, fxBI_s, fxG_t bo0]
  · refine Or.inr ⟨σx7, σm7, τ7, by rw [xEnd_1 ex0, a1], hX_tr hx6 (hX_fA gx7), by rw [em0, a2, fxBI_s, fxG_t bo1], hM_tr hm6 (hM_fN gm7), ⟨k7, ?_⟩, by omega⟩
    have XX : ∀ b j, b ≠ 3 → ¬ (b = T + 7 ∧ j = p) → σx7.1 b j = σx.1 b j := fun b j z1 z2 => by rw [gx7.1 b j (by omega), X6, if_neg (by omega), gx5.1 b j (by omega), gx2.1 b j (by omega), gx1.1 b j (by omega)]
    have XL : ∀ b j, b ≠ 3 → σx7.2.1 b j = σx.2.1 b j := fun b j z1 => by rw [gx7.2.1 b j (by omega), X6l, gx5.2.1 b j (by omega), gx2.2.1 b j (by omega), gx1.2.1 b j (by omega)]
    have MM : ∀ b j, ¬ (b = 0 ∧ ((4 ≤ j ∧ j ≤ 9) ∨ j = 35)) → ¬ (b = 9 ∧ j = 5 + p) → σm7.1 b j = σm.1 b j := fun b j z1 z2 => by rw [gm7.1 b j (by omega), gm5.1 b j (by omega), si1n _ (by omega), si1n _ (by omega), gm2.1 b j (by omega), si1n _ (by omega), gm1.1 b j (by omega)]
    have ML : ∀ b j, b ≠ 0 → σm7.2.1 b j = σm.2.1 b j := fun b j z1 => by rw [gm7.2.1 b j (by omega), gm5.2.1 b j (by omega), si2, si2, gm2.2.1 b j (by omega), si2, gm1.2.1 b j (by omega)]
    generalize hr' : upR r 5 p (r 5 p ||| 2 ^ w) = r'
    have r5p : r' 5 p = r 5 p ||| 2 ^ w := by rw [← hr']; exact upR_s _ _ _ _
    have ra : ∀ a i, ¬ (a = 5 ∧ i = p) → r' a i = r a i := fun a i z => by rw [← hr', upR_n _ z]
    refine ⟨r', wn, pn, ?_, ?_, ?_, ?_, ?_, ?_⟩
    · unfold RB rH
      rw [ra 0 0 (by omega), ra 0 1 (by omega), ra 0 2 (by omega)]
      refine ⟨B1, B2, B3, B4, fun i hi => by rw [ra 1 i (by omega), ra 2 i (by omega), ra 3 i (by omega)]; exact B5 i hi, fun q hq => ?_⟩
      rw [ra 4 q (by omega)]
      by_cases c : q = p
      · rw [c, r5p]; exact ⟨(B6 p pl).1, bo2'⟩
      · rw [ra 5 q (by omega)]; exact B6 q hq
    · obtain ⟨y1, y2, y3, y4, y5, y6⟩ := hX0
      unfold RX
      rw [ra 0 0 (by omega), ra 0 1 (by omega), ra 0 2 (by omega)]
      refine ⟨y1, (XX _ _ (by omega) (by omega)).trans y2, (XX _ _ (by omega) (by omega)).trans y3, (XX _ _ (by omega) (by omega)).trans y4, fun i hi => ?_, fun q hq => ?_⟩
      · rw [XX _ _ (by omega) (by omega), XX _ _ (by omega) (by omega), XX _ _ (by omega) (by omega), ra 1 i (by omega), ra 2 i (by omega), ra 3 i (by omega)]; exact y5 i hi
      · rw [XX _ _ (by omega) (by omega), ra 4 q (by omega)]
        refine ⟨(y6 q hq).1, ?_⟩
        by_cases c : q = p
        · rw [c, r5p, gx7.1 _ _ (by omega), X6, if_pos ⟨rfl, rfl⟩]
        · rw [XX _ _ (by omega) (by omega), ra 5 q (by omega)]; exact (y6 q hq).2
    · obtain ⟨y1, y2, y3, y4, y5⟩ := hM0
      unfold RM
      rw [ra 0 0 (by omega), ra 0 1 (by omega), ra 0 2 (by omega)]
      refine ⟨(MM _ _ (by omega) (by omega)).trans y1, (MM _ _ (by omega) (by omega)).trans y2, (MM _ _ (by omega) (by omega)).trans y3, fun i hi => ?_, fun q hq => ?_⟩
      · rw [MM _ _ (by omega) (by omega), MM _ _ (by omega) (by omega), MM _ _ (by omega) (by omega), ra 1 i (by omega), ra 2 i (by omega), ra 3 i (by omega)]; exact y4 i hi
      · rw [MM _ _ (by omega) (by omega), ra 4 q (by omega)]
        refine ⟨(y5 q hq).1, ?_⟩
        by_cases c : q = p
        · rw [c, r5p, gm7.1 _ _ (by omega), gm5.1 _ _ (by omega)]; exact si1s _ _ _ _
        · rw [MM _ _ (by omega) (by omega), ra 5 q (by omega)]; exact (y5 q hq).2
    · obtain ⟨y1, y2, y3, y4, y5, y6, y7, y8⟩ := hN
      rw [ra 0 0 (by omega), ra 0 1 (by omega)]
      refine ⟨y1, y2, (XX _ _ (by omega) (by omega)).trans y3, (XX _ _ (by omega) (by omega)).trans y4, (MM _ _ (by omega) (by omega)).trans y5, (MM _ _ (by omega) (by omega)).trans y6, fun i hi => ?_, fun q hq => ?_⟩
      · rw [XL _ _ (by omega), ML _ _ (by omega)]; exact y7 i hi
      · rw [XL _ _ (by omega), ML _ _ (by omega)]; exact y8 q hq
    · obtain ⟨f, f1, f2, f3⟩ := hF
      exact ⟨f, f1, (XX _ _ (by omega) (by omega)).trans f2, (MM _ _ (by omega) (by omega)).trans f3⟩
    · exact WD_fr hW (fun b j z => XX _ _ (by omega) (by omega)) (fun b j z => MM _ _ (by omega) (by omega)) (MM _ _ (by omega) (by omega))
end STN
