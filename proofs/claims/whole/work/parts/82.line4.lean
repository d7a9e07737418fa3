/-! ===== the lines of a term: join, lend ===== -/
section LN4
variable {t : TP} {τ : TK} {σx σm : FH} {T D : Nat} {r : AR} {wn pn : Nat → List Nat}
set_option maxHeartbeats 1000000 in
theorem ln_2 (hT : tOk T) (hD : D = 39 ∨ D = 44) (h : DT T D r wn pn t τ σx σm) {tt : AT} (hB : TB r tt) (hX : TX σx D tt) (hM : TM σm 5 tt) (hln : tt 0 0 < 40) (hd : dee τ = nI 2) (hk : τ.1 ≠ 1) : LF D σx σm (stL T D σx) (fX12_readsLine σm) ∨ LG T D r wn pn t τ σx σm (stL T D σx) (fX12_readsLine σm) := by
  have hT' : T = 17 ∨ T = 28 := hT
  obtain ⟨hJ, hN, -⟩ := h
  obtain ⟨σx1, σm1, k1, p1, gx1, gm1, ex, em⟩ := ln_head hT hD hJ hX hM hln (k := 2) (by decide) hd hk
  have n4 : ¬ nI 2 = 4 := by decide
  have n3 : ¬ nI 2 = 3 := by decide
  have y2 : nI 2 = 2 := rfl
  have hin : fx_in (nI (200 + tt 0 0)) 240 = true := fx_inN (by omega) (by decide)
  generalize hs2 : fx_si σm1 26 (200 + tt 0 0) (nI 2) = σm2 at k1 em
  have M2 : ∀ b j, ¬ (b = 26 ∧ j = 200 + tt 0 0) → σm2.1 b j = σm1.1 b j := fun b j z => by rw [← hs2, si1n _ z]
  have m26 : σm2.1 26 (200 + tt 0 0) = nI 2 := by rw [← hs2, si1s]
  have gm2 : kM σm σm2 := by rw [← hs2]; exact kM_tr (kM_fN gm1) (kM_si (by unfold pT; omega))
  have gxk : kX D σx σx1 := kX_fA gx1
  have hN1 := NXo_k hT hD hN gxk gm2
  rw [if_neg n4, if_neg n3, fxL_r, fxL_r, iz] at ex
  rw [fxL_r, if_neg n4, fxL_r, if_neg n3] at em
  obtain ⟨rn, b1', hp⟩ := tj_ware hT (o := 0) (by decide) k1 hN1 (y := 0) rfl
  rw [b1', fxBP_s] at ex
  dsimp only at ex
  rcases hp with ⟨e0, σx', σm', c1, c2, f⟩ | ⟨nm, p, pl, rfl, c2⟩
  · refine Or.inl (LF_FL gxk gm2 f (stL_0 ?_) ?_)
    · rw [ex, c1, fxBI_s, fxL_r, if_pos rfl]
      dsimp only
      rw [if_pos rfl]
    · rw [em, c2, fxBI_s, if_pos rfl]
  have k1w : TJ t (tkAt t τ.2.2.1) σx1 (fx_si (fx_si σm2 0 35 (nI p)) 27 (200 + tt 0 0) (nI p)) := TJ_sm k1 (MK_hM (MK_w k1.2.2.2) (fun b j z => si1n _ (by omega)) rfl)
  obtain ⟨σx3, σm3, a1, a2, k3, p3, gx3, gm3⟩ := tj_adv k1w
  have hlt1 := (k1.2.1.2.2.2.1 (by rw [nmd_3 nm]; decide)).2
  have B1 := hN1.1
  have npm : ¬ nI p = -1 := nI_nm1 (by omega)
  rw [x_named k1 nm (by omega), if_neg npm, a1, fxBV_s, fxBI_s, fxL_r, if_neg npm, fxL_r, iz, if_pos y2, fxL_r, iz] at ex
  rw [c2, fxBI_s, if_neg (by decide)] at em
  dsimp only at em
  rw [fxG_t hin, si1s, fxL_r, a2, fxBV_s] at em
  rw [fxL_r, fxL_r, if_pos y2, fxL_r, if_neg n3] at em
  have gxk3 : kX D σx σx3 := kX_tr gxk (kX_fA gx3)
  have gmk3 : kM σm σm3 := kM_tr gm2 (kM_tr (kM_fY fY_g) (kM_tr (kM_si (by unfold pT; omega)) (kM_fN gm3)))
  have hN3 := NXo_k hT hD hN gxk3 gmk3
  have m27 : σm3.1 27 (200 + tt 0 0) = nI p := by rw [gm3.1 _ _ (by omega), si1s]
  obtain ⟨rn2, b2', hp2⟩ := tj_ware hT (o := 0) (by decide) k3 hN3 (y := 0) rfl
  rw [b2', fxBP_s] at ex
  dsimp only at ex
  rcases hp2 with ⟨e0, σx', σm', c1, c2, f⟩ | ⟨nm2, q, ql, rfl, c2⟩
  · refine Or.inl (LF_FL gxk3 gmk3 f (stL_0 ?_) ?_)
    · rw [ex, c1, fxBI_s, if_neg npm, if_pos rfl]
    · rw [em, c2, fxBI_s, if_pos rfl]
  have k3' : TJ t _ σx3 (fx_si σm3 0 35 (nI q)) := TJ_sm k3 (MK_w k3.2.2.2)
  rw [x_named k3 nm2 (by omega)] at ex
  rw [c2, fxBI_s, if_neg (by decide)] at em
  dsimp only at em
  rw [fxG_t hin, si1s, si1n _ (by omega), m27] at em
  by_cases cpq : q = p
  · obtain ⟨σx', σm', e1, e2, f⟩ := tj_fail k3' 3 (by decide) (by decide) (x := 3) rfl
    refine Or.inl (LF_FL gxk3 (kM_tr gmk3 (kM_fY fY_g)) f (stL_0 ?_) ?_)
    · rw [ex, if_pos (by rw [cpq]), e1, fxBI_s, fxBI_s, if_neg npm, if_pos rfl]
    · rw [em, if_pos (by rw [cpq]), e2, fxBI_s, fxG_t bo0]
  have npq : ¬ nI q = nI p := fun z => cpq (nI_inj (by omega) (by omega) z)
  have nqm : ¬ nI q = -1 := nI_nm1 (by omega)
  have k3w : TJ t (tkAt t (tkAt t τ.2.2.1).2.2.1) σx3 (fx_si (fx_si σm3 0 35 (nI q)) 28 (200 + tt 0 0) (nI q)) := TJ_sm k3 (MK_hM (MK_w k3.2.2.2) (fun b j z => si1n _ (by omega)) rfl)
  obtain ⟨σx4, σm4, a1, a2, k4, p4, gx4, gm4⟩ := tj_adv k3w
  have hlt2 := (k3.2.1.2.2.2.1 (by rw [nmd_3 nm2]; decide)).2
  rw [if_neg npq, a1, fxBV_s, fxBI_s, if_neg npm, if_neg nqm, fxL_r, if_pos y2] at ex
  dsimp only at ex
  rw [if_neg npq, fxG_t hin, fxL_r, a2, fxBV_s] at em
  rw [fxL_r, if_neg n4, if_pos y2] at em
  dsimp only at em
  have gxk4 : kX D σx σx4 := kX_tr gxk3 (kX_fA gx4)
  have gmk4 : kM σm σm4 := kM_tr gmk3 (kM_tr (kM_fY fY_g) (kM_tr (kM_si (by unfold pT; omega)) (kM_fN gm4)))
  have MMb : ∀ b j, 25 ≤ b → b ≤ 29 → j ≠ 200 + tt 0 0 → σm4.1 b j = σm.1 b j := fun b j b1 b2 b3 => by rw [gm4.1 b j (by omega), si1n _ (by omega), si1n _ (by omega), gm3.1 b j (by omega), si1n _ (by omega), si1n _ (by omega), M2 b j (by omega), gm1.1 b j (by omega)]
  obtain ⟨σxp, e, R⟩ := ln_end (σx0 := σx) (σm0 := σm) (τ0 := τ) hT hD hB hln (TX_w hX (fun b j b1 b2 => by rw [gx4.1 b j (by omega), gx3.1 b j (by omega), gx1.1 b j (by omega)])) (TM_w hM MMb (by omega)) (NXo_k hT hD hN gxk4 gmk4) k4 gxk4 gmk4 (by omega) 2 p q 0 (nI p) (nI q) 0 ⟨by decide, fun z => absurd z (by decide), fun _ => ⟨pl, ql, fun z => cpq z.symm⟩, fun z => absurd z (by decide)⟩ (fun _ => rfl) (fun _ => rfl) (fun z => absurd rfl z.1) (by rw [gm4.1 _ _ (by omega), si1n _ (by omega), si1n _ (by omega), gm3.1 _ _ (by omega), si1n _ (by omega), si1n _ (by omega)]; exact m26) (fun _ => by rw [gm4.1 _ _ (by omega), si1n _ (by omega), si1n _ (by omega)]; exact m27) (fun _ => by rw [gm4.1 _ _ (by omega), si1s]) (fun z => absurd rfl z.1)
  have ex' : fX4_readLine T D σx = some (1, σxp) := by rw [ex, e, fxBV_s, if_neg (by decide), fxL_r, fxG_t bo1]
  rw [stL_1 ex', em, j20 (n := tt 0 0) (by rw [MMb _ _ (by omega) (by omega) (by omega)]; exact hM.1)]
  exact R
set_option maxHeartbeats 1000000 in
theorem ln_3 (hT : tOk T) (hD : D = 39 ∨ D = 44) (h : DT T D r wn pn t τ σx σm) {tt : AT} (hB : TB r tt) (hX : TX σx D tt) (hM : TM σm 5 tt) (hln : tt 0 0 < 40) (hd : dee τ = nI 3) (hk : τ.1 ≠ 1) : LF D σx σm (stL T D σx) (fX12_readsLine σm) ∨ LG T D r wn pn t τ σx σm (stL T D σx) (fX12_readsLine σm) := by
  have hT' : T = 17 ∨ T = 28 := hT
  obtain ⟨hJ, hN, -⟩ := h
  obtain ⟨σx1, σm1, k1, p1, gx1, gm1, ex, em⟩ := ln_head hT hD hJ hX hM hln (k := 3) (by decide) hd hk
  have n4 : ¬ nI 3 = 4 := by decide
  have y3 : nI 3 = 3 := rfl
  have n2 : ¬ nI 3 = 2 := by decide
  have hin : fx_in (nI (200 + tt 0 0)) 240 = true := fx_inN (by omega) (by decide)
  generalize hs2 : fx_si σm1 26 (200 + tt 0 0) (nI 3) = σm2 at k1 em
  have M2 : ∀ b j, ¬ (b = 26 ∧ j = 200 + tt 0 0) → σm2.1 b j = σm1.1 b j := fun b j z => by rw [← hs2, si1n _ z]
  have m26 : σm2.1 26 (200 + tt 0 0) = nI 3 := by rw [← hs2, si1s]
  have gm2 : kM σm σm2 := by rw [← hs2]; exact kM_tr (kM_fN gm1) (kM_si (by unfold pT; omega))
  have gxk : kX D σx σx1 := kX_fA gx1
  have hN1 := NXo_k hT hD hN gxk gm2
  rw [if_neg n4, if_pos y3, fxL_r, fxL_r, io] at ex
  rw [fxL_r, if_neg n4, fxL_r, if_pos y3] at em
  obtain ⟨rn, b1', hp⟩ := tj_party hT (o := 0) (by decide) k1 hN1 (y := 0) rfl
  rw [b1', fxBP_s] at ex
  dsimp only at ex
  rcases hp with ⟨e0, σx', σm', c1, c2, f⟩ | ⟨nm, p, pl, rfl, c2⟩
  · refine Or.inl (LF_FL gxk gm2 f (stL_0 ?_) ?_)
    · rw [ex, c1, fxBI_s, fxL_r, if_pos rfl]
      dsimp only
      rw [if_pos rfl]
    · rw [em, c2, fxBI_s, if_pos rfl]
  have k1w : TJ t (tkAt t τ.2.2.1) σx1 (fx_si (fx_si σm2 0 35 (nI p)) 27 (200 + tt 0 0) (nI p)) := TJ_sm k1 (MK_hM (MK_w k1.2.2.2) (fun b j z => si1n _ (by omega)) rfl)
  obtain ⟨σx3, σm3, a1, a2, k3, p3, gx3, gm3⟩ := tj_adv k1w
  have hlt1 := (k1.2.1.2.2.2.1 (by rw [nmd_3 nm]; decide)).2
  have B1 := hN1.2.1
  have npm : ¬ nI p = -1 := nI_nm1 (by omega)
  rw [x_named k1 nm (by omega), if_neg npm, a1, fxBV_s, fxBI_s, fxL_r, if_neg npm, fxL_r, io, fxL_r, io] at ex
  rw [c2, fxBI_s, if_neg (by decide)] at em
  dsimp only at em
  rw [fxG_t hin, si1s, fxL_r, a2, fxBV_s] at em
  rw [fxL_r, fxL_r, if_neg n2, if_pos y3, fxL_r, if_pos y3] at em
  have gxk3 : kX D σx σx3 := kX_tr gxk (kX_fA gx3)
  have gmk3 : kM σm σm3 := kM_tr gm2 (kM_tr (kM_fY fY_g) (kM_tr (kM_si (by unfold pT; omega)) (kM_fN gm3)))
  have hN3 := NXo_k hT hD hN gxk3 gmk3
  have m27 : σm3.1 27 (200 + tt 0 0) = nI p := by rw [gm3.1 _ _ (by omega), si1s]
  obtain ⟨rn2, b2', hp2⟩ := tj_party hT (o := 0) (by decide) k3 hN3 (y := 0) rfl
  rw [b2', fxBP_s] at ex
  dsimp only at ex
  rcases hp2 with ⟨e0, σx', σm', c1, c2, f⟩ | ⟨nm2, q, ql, rfl, c2⟩
  · refine Or.inl (LF_FL gxk3 gmk3 f (stL_0 ?_) ?_)
    · rw [ex, c1, fxBI_s, if_neg npm, if_pos rfl]
    · rw [em, c2, fxBI_s, if_pos rfl]
  have k3' : TJ t _ σx3 (fx_si σm3 0 35 (nI q)) := TJ_sm k3 (MK_w k3.2.2.2)
  rw [x_named k3 nm2 (by omega)] at ex
  rw [c2, fxBI_s, if_neg (by decide)] at em
  dsimp only at em
  rw [fxG_t hin, si1s, si1n _ (by omega), m27] at em
  by_cases cpq : q = p
  · obtain ⟨σx', σm', e1, e2, f⟩ := tj_fail k3' 3 (by decide) (by decide) (x := 3) rfl
    refine Or.inl (LF_FL gxk3 (kM_tr gmk3 (kM_fY fY_g)) f (stL_0 ?_) ?_)
    · rw [ex, if_pos (by rw [cpq]), e1, fxBI_s, fxBI_s, if_neg npm, if_pos rfl]
    · rw [em, if_pos (by rw [cpq]), e2, fxBI_s, fxG_t bo0]
  have npq : ¬ nI q = nI p := fun z => cpq (nI_inj (by omega) (by omega) z)
  have nqm : ¬ nI q = -1 := nI_nm1 (by omega)
  have k3w : TJ t (tkAt t (tkAt t τ.2.2.1).2.2.1) σx3 (fx_si (fx_si σm3 0 35 (nI q)) 28 (200 + tt 0 0) (nI q)) := TJ_sm k3 (MK_hM (MK_w k3.2.2.2) (fun b j z => si1n _ (by omega)) rfl)
  obtain ⟨σx4, σm4, a1, a2, k4, p4, gx4, gm4⟩ := tj_adv k3w
  have hlt2 := (k3.2.1.2.2.2.1 (by rw [nmd_3 nm2]; decide)).2
  rw [if_neg npq, a1, fxBV_s, fxBI_s, if_neg npm, if_neg nqm, fxL_r, if_neg n2] at ex
  dsimp only at ex
  rw [if_neg npq, fxG_t hin, fxL_r, a2, fxBV_s] at em
  rw [fxL_r, if_neg n4, if_neg n2] at em
  dsimp only at em
  have gxk4 : kX D σx σx4 := kX_tr gxk3 (kX_fA gx4)
  have gmk4 : kM σm σm4 := kM_tr gmk3 (kM_tr (kM_fY fY_g) (kM_tr (kM_si (by unfold pT; omega)) (kM_fN gm4)))
  rcases tj_num k4 1 20 (by decide) (by decide) (x := 1) (y := 20) rfl rfl with ⟨σx5, σm5, d1, d2, f⟩ | ⟨σx5, σm5, τ5, v, d1, d2, v1, v2, g35, k5, p5, gx5, gm5, -⟩
  · obtain ⟨e, e0, e1, f3, f4, f5, f6⟩ := f
    obtain ⟨σxp, ep, gp, gp2⟩ := x_tput_any (dL hD) (nI 3) (nI p) (nI q) (-1) σx5
    refine Or.inl ⟨e, σxp, σm5, e0, e1, stL_0 ?_, ?_, ?_, ?_, f4, kM_tr gmk4 (kM_fY f6)⟩
    · rw [ex, d1, fxBI_s, ep, fxBV_s, if_pos rfl, fxL_r, fxG_t bo0]
    · rw [gp 3 8 (by omega)]; exact f3
    · exact kX_tr gxk4 (kX_tr (kX_fW f5) ⟨fun b j z => gp b j (by omega), fun b j z => by rw [gp2], by rw [gp2]⟩)
    · rw [em, d2, fxBI_s, if_pos rfl]
  rw [d1, fxBI_s] at ex
  rw [d2, fxBI_s, if_neg (by decide), fxG_t hin, g35, fxL_r] at em
  have kE : TJ t τ5 σx5 (fx_si σm5 29 (200 + tt 0 0) (nI v)) := TJ_sm k5 (MK_hM k5.2.2.2 (fun b j z => si1n _ (by omega)) rfl)
  have gxk5 : kX D σx σx5 := kX_tr gxk4 (kX_fA gx5)
  have gmk5 : kM σm (fx_si σm5 29 (200 + tt 0 0) (nI v)) := kM_tr gmk4 (kM_tr (kM_fY gm5) (kM_si (by unfold pT; omega)))
  have MMb : ∀ b j, 25 ≤ b → b ≤ 29 → j ≠ 200 + tt 0 0 → (fx_si σm5 29 (200 + tt 0 0) (nI v)).1 b j = σm.1 b j := fun b j b1 b2 b3 => by rw [si1n _ (by omega), gm5.1 b j (by omega), gm4.1 b j (by omega), si1n _ (by omega), si1n _ (by omega), gm3.1 b j (by omega), si1n _ (by omega), si1n _ (by omega), M2 b j (by omega), gm1.1 b j (by omega)]
  obtain ⟨σxp, e, R⟩ := ln_end (σx0 := σx) (σm0 := σm) (τ0 := τ) hT hD hB hln (TX_w hX (fun b j b1 b2 => by rw [gx5.1 b j (by omega), gx4.1 b j (by omega), gx3.1 b j (by omega), gx1.1 b j (by omega)])) (TM_w hM MMb (by omega)) (NXo_k hT hD hN gxk5 gmk5) kE gxk5 gmk5 (by omega) 3 p q v (nI p) (nI q) (nI v) ⟨by decide, fun z => absurd z (by decide), fun z => absurd z (by decide), fun _ => ⟨pl, ql, fun z => cpq z.symm, v1, v2⟩⟩ (fun _ => rfl) (fun _ => rfl) (fun _ => rfl) (by rw [si1n _ (by omega), gm5.1 _ _ (by omega), gm4.1 _ _ (by omega), si1n _ (by omega), si1n _ (by omega), gm3.1 _ _ (by omega), si1n _ (by omega), si1n _ (by omega)]; exact m26) (fun _ => by rw [si1n _ (by omega), gm5.1 _ _ (by omega), gm4.1 _ _ (by omega), si1n _ (by omega), si1n _ (by omega)]; exact m27) (fun _ => by rw [si1n _ (by omega), gm5.1 _ _ (by omega), gm4.1 _ _ (by omega), si1s]) (fun _ => si1s _ _ _ _)
  have nvm : ¬ nI v = -1 := nI_nm1 (by omega)
  have ex' : fX4_readLine T D σx = some (1, σxp) := by rw [ex, e, fxBV_s, if_neg nvm, fxL_r, fxG_t bo1]
  rw [stL_1 ex', em, j20 (n := tt 0 0) (by rw [MMb _ _ (by omega) (by omega) (by omega)]; exact hM.1)]
  exact R
theorem ln_all (hT : tOk T) (hD : D = 39 ∨ D = 44) (h : DT T D r wn pn t τ σx σm) (hk : τ.1 ≠ 1) : LF D σx σm (stL T D σx) (fX12_readsLine σm) ∨ LG T D r wn pn t τ σx σm (stL T D σx) (fX12_readsLine σm) := by
  obtain ⟨hJ, hN, tt, hB, hX, hM⟩ := id h
  have hx0 : fX4_readLine T D σx = _ := rfl
  rcases dee_s τ with hd | ⟨k, hk4, hd, -⟩
  · obtain ⟨σx', σm', e1, e2, f⟩ := tj_fail hJ 1 (by decide) (by decide) (x := 1) rfl
    refine Or.inl (LF_FL (kX_rf D σx) (kM_rf σm) f (stL_0 ?_) ?_)
    · unfold fX4_readLine
      rw [fxG_t (tOk_L hT), fxG_t (dL hD), x_deed hJ, fxBP_s, hd, if_pos rfl, e1, fxBI_s, fxG_t bo0]
    · unfold fX12_readsLine
      rw [m_isWord hJ.2.2.2 hJ.2.1 (a := 8) (by decide) (x := 464141) rfl, m_isWord hJ.2.2.2 hJ.2.1 (a := 9) (by decide) (x := 388978) rfl, m_isWord hJ.2.2.2 hJ.2.1 (a := 10) (by decide) (x := 208022) rfl, m_isWord hJ.2.2.2 hJ.2.1 (a := 11) (by decide) (x := 240223) rfl, m_isWord hJ.2.2.2 hJ.2.1 (a := 12) (by decide) (x := 456500) rfl, fxBP_s, dee_ch]
      rw [hd, if_neg (by decide), e2, fxBI_s, fxG_t bo0]
  · by_cases hln : tt 0 0 < 40
    · rcases (show k ≤ 1 ∨ k = 2 ∨ k = 3 ∨ k = 4 by omega) with z | rfl | rfl | rfl
      · exact ln_01 hT hD h hB hX hM hln z hd hk
      · exact ln_2 hT hD h hB hX hM hln hd hk
      · exact ln_3 hT hD h hB hX hM hln hd hk
      · exact ln_4 hT hD h hB hX hM hln hd hk
    · have h40 : tt 0 0 = 40 := by have := hB.1; omega
      obtain ⟨σx', σm', e1, e2, f⟩ := tj_fail hJ 5 (by decide) (by decide) (x := 5) rfl
      refine Or.inl (LF_FL (kX_rf D σx) (kM_rf σm) f (stL_0 ?_) ?_)
      · unfold fX4_readLine
        rw [fxG_t (tOk_L hT), fxG_t (dL hD), x_deed hJ, fxBP_s, hd, if_neg (nI_nm1 (by omega)), hX.2.1, h40, if_neg (by decide), e1, fxBI_s, fxG_t bo0]
      · unfold fX12_readsLine
        rw [m_isWord hJ.2.2.2 hJ.2.1 (a := 8) (by decide) (x := 464141) rfl, m_isWord hJ.2.2.2 hJ.2.1 (a := 9) (by decide) (x := 388978) rfl, m_isWord hJ.2.2.2 hJ.2.1 (a := 10) (by decide) (x := 208022) rfl, m_isWord hJ.2.2.2 hJ.2.1 (a := 11) (by decide) (x := 240223) rfl, m_isWord hJ.2.2.2 hJ.2.1 (a := 12) (by decide) (x := 456500) rfl, fxBP_s, dee_ch]
        rw [hd, if_pos (nI_pos' (by omega)), fxG_t (show fx_in 5 6 = true from by decide), show Int32.toNatClampNeg 5 = 5 from by decide, show σm.1 25 5 = nI (tt 0 0) from hM.1, h40, if_pos (show nI 40 = 40 from rfl), e2, fxBI_s, fxG_t bo0]
end LN4
