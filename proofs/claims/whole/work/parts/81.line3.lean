/-! ===== the lines of a term, deed by deed ===== -/
section LN3
variable {t : TP} {τ : TK} {σx σm : FH} {T D : Nat} {r : AR} {wn pn : Nat → List Nat}
theorem j20 {σ : FH} {n : Nat} (h : σ.1 25 5 = nI n) : (fxG (fx_in 5 6 = true) (fxG (fx_in 5 6 = true) (fxL (fx_si σ 25 5 ((σ.1 25 5) + 1)) fun (σ24 : FH) => fxBI (fX12_closes σ24) fun (r26 : Int32) (σ27 : FH) => fxG (fx_bo r26 = true) (some (r26, σ27))))) = rEnd (n + 1) σ := by
  rw [fxG_t (by decide), fxG_t (by decide), h, nI_1, fxL_r, rEnd]
theorem kne {k m : Nat} (hk : k ≤ 4) (hm : m ≤ 4) (h : k ≠ m) {x : Int32} (hx : x = nI m) : ¬ nI k = x := fun z => h (nI_inj (by omega) (by omega) (z.trans hx))
/-- a week -/
theorem ln_4 (hT : tOk T) (hD : D = 39 ∨ D = 44) (h : DT T D r wn pn t τ σx σm) {tt : AT} (hB : TB r tt) (hX : TX σx D tt) (hM : TM σm 5 tt) (hln : tt 0 0 < 40) (hd : dee τ = nI 4) (hk : τ.1 ≠ 1) : LF D σx σm (stL T D σx) (fX12_readsLine σm) ∨ LG T D r wn pn t τ σx σm (stL T D σx) (fX12_readsLine σm) := by
  have hT' : T = 17 ∨ T = 28 := hT
  obtain ⟨hJ, hN, -⟩ := h
  obtain ⟨σx1, σm1, k1, p1, gx1, gm1, ex, em⟩ := ln_head hT hD hJ hX hM hln (k := 4) (by decide) hd hk
  have gm2 : kM σm (fx_si σm1 26 (200 + tt 0 0) (nI 4)) := kM_tr (kM_fN gm1) (kM_si (by unfold pT; omega))
  obtain ⟨σxp, e, R⟩ := ln_end (σx0 := σx) (σm0 := σm) (τ0 := τ) hT hD hB hln (TX_w hX (fun b j b1 b2 => gx1.1 b j (by omega))) (TM_w (σ' := fx_si σm1 26 (200 + tt 0 0) (nI 4)) hM (fun b j b1 b2 b3 => by rw [si1n _ (by omega), gm1.1 b j (by omega)]) (by omega)) (NXo_k hT hD hN (kX_fA (D := D) gx1) gm2) k1 (kX_fA gx1) gm2 p1 4 0 0 0 0 0 0 ⟨by decide, fun z => absurd z (by decide), fun z => absurd z (by decide), fun z => absurd z (by decide)⟩ (fun z => absurd rfl z) (fun z => absurd z (by decide)) (fun z => absurd rfl z.2) (si1s _ _ _ _) (fun z => absurd rfl z) (fun z => absurd z (by decide)) (fun z => absurd rfl z.2)
  have ex' : fX4_readLine T D σx = some (1, σxp) := by rw [ex, if_pos (by decide), e, fxBV_s]
  have em' : fX12_readsLine σm = rEnd (tt 0 0 + 1) (fx_si σm1 26 (200 + tt 0 0) (nI 4)) := by
    rw [em, fxL_r, if_pos (by decide)]
    dsimp only
    rw [fxL_r, fxL_r, if_neg (by decide), if_neg (by decide)]
    dsimp only
    rw [fxL_r, if_pos (by decide)]
    exact j20 (by rw [si1n _ (by omega), gm1.1 25 5 (by omega)]; exact hM.1)
  rw [stL_1 ex', em']
  exact R
set_option maxHeartbeats 1000000 in
/-- work, stop -/
theorem ln_01 (hT : tOk T) (hD : D = 39 ∨ D = 44) (h : DT T D r wn pn t τ σx σm) {tt : AT} (hB : TB r tt) (hX : TX σx D tt) (hM : TM σm 5 tt) (hln : tt 0 0 < 40) {k : Nat} (hk1 : k ≤ 1) (hd : dee τ = nI k) (hk : τ.1 ≠ 1) : LF D σx σm (stL T D σx) (fX12_readsLine σm) ∨ LG T D r wn pn t τ σx σm (stL T D σx) (fX12_readsLine σm) := by
  have hT' : T = 17 ∨ T = 28 := hT
  obtain ⟨hJ, hN, -⟩ := h
  obtain ⟨σx1, σm1, k1, p1, gx1, gm1, ex, em⟩ := ln_head hT hD hJ hX hM hln (k := k) (by omega) hd hk
  have n4 : ¬ nI k = 4 := kne (m := 4) (by omega) (by decide) (by omega) rfl
  have n3 : ¬ nI k = 3 := kne (m := 3) (by omega) (by decide) (by omega) rfl
  have n2 : ¬ nI k = 2 := kne (m := 2) (by omega) (by decide) (by omega) rfl
  have hin : fx_in (nI (200 + tt 0 0)) 240 = true := fx_inN (by omega) (by decide)
  generalize hs2 : fx_si σm1 26 (200 + tt 0 0) (nI k) = σm2 at k1 em
  have M2 : ∀ b j, ¬ (b = 26 ∧ j = 200 + tt 0 0) → σm2.1 b j = σm1.1 b j := fun b j z => by rw [← hs2, si1n _ z]
  have m26 : σm2.1 26 (200 + tt 0 0) = nI k := by rw [← hs2, si1s]
  have gm2 : kM σm σm2 := by rw [← hs2]; exact kM_tr (kM_fN gm1) (kM_si (by unfold pT; omega))
  have gxk : kX D σx σx1 := kX_fA gx1
  have hN1 := NXo_k hT hD hN gxk gm2
  rw [if_neg n4, if_neg n3, fxL_r, fxL_r, iz] at ex
  rw [fxL_r, if_neg n4, fxL_r, if_neg n3] at em
  obtain ⟨rn, b1', hp⟩ := tj_ware hT (o := 0) (by decide) k1 hN1 (y := 0) rfl
  rw [b1', fxBP_s] at ex
  dsimp only at ex
  rcases hp with ⟨e0, σx', σm', c1, c2, f⟩ | ⟨nm, p, pl, rfl, c2⟩
  · refine Or.inl (LF_FL gxk gm2 f (stL_0 ?_) ?_)
    · rw [ex, c1, fxBI_s, fxL_r, if_pos rfl]
      dsimp only
      rw [if_pos rfl]
    · rw [em, c2, fxBI_s, if_pos rfl]
  have k1w : TJ t (tkAt t τ.2.2.1) σx1 (fx_si (fx_si σm2 0 35 (nI p)) 27 (200 + tt 0 0) (nI p)) := TJ_sm k1 (MK_hM (MK_w k1.2.2.2) (fun b j z => si1n _ (by omega)) rfl)
  obtain ⟨σx3, σm3, a1, a2, k3, p3, gx3, gm3⟩ := tj_adv k1w
  have hlt1 := (k1.2.1.2.2.2.1 (by rw [nmd_3 nm]; decide)).2
  have B1 := hN1.1
  have npm : ¬ nI p = -1 := nI_nm1 (by omega)
  rw [x_named k1 nm (by omega), if_neg npm, a1, fxBV_s, fxBI_s, fxL_r, if_neg npm, fxL_r, iz, if_neg n2] at ex
  dsimp only at ex
  rw [if_neg npm, if_neg (by decide), fxL_r, if_neg n2] at ex
  dsimp only at ex
  rw [c2, fxBI_s, if_neg (by decide)] at em
  dsimp only at em
  rw [fxG_t hin, si1s, fxL_r, a2, fxBV_s] at em
  rw [fxL_r, fxL_r, if_neg n2, if_neg n3] at em
  dsimp only at em
  rw [fxL_r, if_neg n4, if_neg n2] at em
  dsimp only at em
  have gxk3 : kX D σx σx3 := kX_tr gxk (kX_fA gx3)
  have gmk3 : kM σm σm3 := kM_tr gm2 (kM_tr (kM_fY fY_g) (kM_tr (kM_si (by unfold pT; omega)) (kM_fN gm3)))
  rcases tj_num k3 1 20 (by decide) (by decide) (x := 1) (y := 20) rfl rfl with ⟨σx4, σm4, d1, d2, f⟩ | ⟨σx4, σm4, τ4, v, d1, d2, v1, v2, g35, k4, p4, gx4, gm4, -⟩
  · obtain ⟨e, e0, e1, f3, f4, f5, f6⟩ := f
    obtain ⟨σxp, ep, gp, gp2⟩ := x_tput_any (dL hD) (nI k) (nI p) 0 (-1) σx4
    refine Or.inl ⟨e, σxp, σm4, e0, e1, stL_0 ?_, ?_, ?_, ?_, f4, kM_tr gmk3 (kM_fY f6)⟩
    · rw [ex, d1, fxBI_s, ep, fxBV_s, if_pos rfl, fxL_r, fxG_t bo0]
    · rw [gp 3 8 (by omega)]; exact f3
    · exact kX_tr gxk3 (kX_tr (kX_fW f5) ⟨fun b j z => gp b j (by omega), fun b j z => by rw [gp2], by rw [gp2]⟩)
    · rw [em, d2, fxBI_s, if_pos rfl]
  · rw [d1, fxBI_s] at ex
    rw [d2, fxBI_s, if_neg (by decide), fxG_t hin, g35, fxL_r] at em
    have kE : TJ t τ4 σx4 (fx_si σm4 29 (200 + tt 0 0) (nI v)) := TJ_sm k4 (MK_hM k4.2.2.2 (fun b j z => si1n _ (by omega)) rfl)
    have gxk4 : kX D σx σx4 := kX_tr gxk3 (kX_fA gx4)
    have gmk4 : kM σm (fx_si σm4 29 (200 + tt 0 0) (nI v)) := kM_tr gmk3 (kM_tr (kM_fY gm4) (kM_si (by unfold pT; omega)))
    have MMa : ∀ b j, 25 ≤ b → b ≤ 28 → ¬ (b = 27 ∧ j = 200 + tt 0 0) → σm4.1 b j = σm2.1 b j := fun b j b1 b2 b3 => by rw [gm4.1 b j (by omega), gm3.1 b j (by omega), si1n _ (by omega), si1n _ (by omega)]
    have MMb : ∀ b j, 25 ≤ b → b ≤ 29 → j ≠ 200 + tt 0 0 → (fx_si σm4 29 (200 + tt 0 0) (nI v)).1 b j = σm.1 b j := fun b j b1 b2 b3 => by rw [si1n _ (by omega), gm4.1 b j (by omega), gm3.1 b j (by omega), si1n _ (by omega), si1n _ (by omega), M2 b j (by omega), gm1.1 b j (by omega)]
    have m27 : σm4.1 27 (200 + tt 0 0) = nI p := by rw [gm4.1 _ _ (by omega), gm3.1 _ _ (by omega), si1s]
    obtain ⟨σxp, e, R⟩ := ln_end (σx0 := σx) (σm0 := σm) (τ0 := τ) hT hD hB hln (TX_w hX (fun b j b1 b2 => by rw [gx4.1 b j (by omega), gx3.1 b j (by omega), gx1.1 b j (by omega)])) (TM_w hM MMb (by omega)) (NXo_k hT hD hN gxk4 gmk4) kE gxk4 gmk4 (by omega) k p 0 v (nI p) 0 (nI v) ⟨by omega, fun _ => ⟨pl, v1, v2⟩, fun z => absurd z (by omega), fun z => absurd z (by omega)⟩ (fun _ => rfl) (fun z => absurd z (by omega)) (fun _ => rfl) (by rw [si1n _ (by omega), MMa _ _ (by omega) (by omega) (by omega)]; exact m26) (fun _ => by rw [si1n _ (by omega)]; exact m27) (fun z => absurd z (by omega)) (fun _ => si1s _ _ _ _)
    have nvm : ¬ nI v = -1 := nI_nm1 (by omega)
    have ex' : fX4_readLine T D σx = some (1, σxp) := by rw [ex, e, fxBV_s, if_neg nvm, fxL_r, fxG_t bo1]
    rw [stL_1 ex', em, j20 (n := tt 0 0) (by rw [MMb _ _ (by omega) (by omega) (by omega)]; exact hM.1)]
    exact R
end LN3
