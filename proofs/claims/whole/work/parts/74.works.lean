/-! ===== telling a republic: the law of how one works; any statement; all of them ===== -/
theorem s0_ne {d : Nat} {I : List Int32} {v : EVV} (h : S0 d I v) : 0 < I.length := by
  cases I with
  | nil =>
    let φ : Nat → RW := fun _ f => if f = 5 then 20 else if f = 6 then v (fun _ => 0) + 1 else 0
    obtain ⟨φ1, h1, -, h3, -⟩ := h (fun _ => 0) φ (Or.inr (by show ¬ (0 : Int32) = 1; decide)) ⟨rfl, rfl, rfl, rfl, rfl⟩
    have e : φ1 = φ := by
      have := Option.some.inj h1
      exact (congrArg Prod.snd this).symm
    rw [e] at h3
    have h4 : chV (φ d) = v (fun _ => 0) + 1 := by
      show (0 : Int32) + (v (fun _ => 0) + 1) = _
      exact i0_add _
    rw [h4] at h3
    have h5 : v (fun _ => 0) + 1 - v (fun _ => 0) = v (fun _ => 0) - v (fun _ => 0) := by rw [h3]
    rw [Int32.sub_self, Int32.add_comm, Int32.add_sub_cancel] at h5
    exact absurd h5 (by decide)
  | cons c l => exact Nat.succ_pos _
section STW
variable {t : TP} {τ : TK} {σx σm : FH} {T : Nat}
set_option maxHeartbeats 1000000 in
theorem st_works (hT : tOk T) (h : DR T t τ σx σm) (hk : τ.1 ≠ 1) : SF T σx σm (xEnd (fX4_readWorks T σx)) (fX12_readsWorks σm) ∨ SG T t τ σx σm (xEnd (fX4_readWorks T σx)) (fX12_readsWorks σm) := by
  have hT' : T = 17 ∨ T = 28 := hT
  have hq : qOK (T + 8) := by unfold qOK; omega
  obtain ⟨hJ, r, wn, pn, hB, hX0, hM0, hN, hF, hW⟩ := h
  obtain ⟨f0, f1, f2, f3⟩ := hF
  obtain ⟨w1, w2⟩ := hW
  generalize hrx : fX4_readWorks T σx = rx
  generalize hrm : fX12_readsWorks σm = rm
  have ex0 := hrx.symm
  have em0 := hrm.symm
  unfold fX4_readWorks at ex0
  unfold fX12_readsWorks at em0
  have c1n : Int32.toNatClampNeg 1 = 1 := by decide
  have in12 : fx_in 1 2 = true := by decide
  rw [fxG_t (tOk_L hT)] at ex0
  rw [fxG_t in12, fxG_t in12, c1n, w1] at em0
  rcases w2 with ⟨a1, a2, a3, a4⟩ | ⟨a1, C, I, v, d1, d2, d3, d4, d5, d6, d7, d8, d9⟩
  rotate_left
  · obtain ⟨σx', σm', e1, e2, f⟩ := tj_fail hJ 3 (by decide) (by decide) (x := 3) rfl
    refine Or.inl (SF_FL (hX_rf T σx) (hM_rf σm) f (xEnd_0 ?_) ?_)
    · rw [ex0, if_neg (by rw [a1]; decide), e1, fxBI_s, fxG_t bo0]
    · rw [em0, d7, if_neg (le_no (by omega) (by omega)), e2, fxBI_s, fxG_t bo0]
  rw [if_pos a1, fxL_r] at ex0
  rw [a3, if_pos (nI_le (Nat.le_refl _) (by decide))] at em0
  have hJ1 : TJ t τ (fx_si σx T 11 1) σm := ⟨XT_hX hJ.1 (fun b j z => si1n _ (by omega)) rfl, hJ.2.1, by rw [si1n _ (by omega)]; exact hJ.2.2.1, hJ.2.2.2⟩
  obtain ⟨σx1, σm1, b1', b2', k1, p1, gx1, gm1⟩ := tj_adv hJ1
  have hlt0 := (hJ.2.1.2.2.2.1 hk).2
  have q21 : σm1.1 0 21 = nI 1000 := by rw [gm1.1 0 21 (by omega)]; exact a4
  rw [b1', fxBV_s] at ex0
  rw [b2', fxBV_s, fxG_t in12, q21, fxL_r] at em0
  unfold fX12_reads at em0
  rw [fxG_t (show fx_in 0 7 = true from by decide), show Int32.toNatClampNeg 0 = 0 from by decide, nar0, fxL_r] at em0
  have hx1 : hX T σx σx1 := hX_tr (hX_si (by omega) (by omega)) (hX_fA gx1)
  generalize hs3 : fx_si (fx_si σm1 10 1 (nI 1000)) 14 0 0 = σm3 at em0
  have M3 : ∀ b j, σm3.1 b j = if b = 14 ∧ j = 0 then 0 else if b = 10 ∧ j = 1 then nI 1000 else σm1.1 b j := fun b j => by rw [← hs3, si1, si1]
  have M3l : σm3.2 = σm1.2 := by rw [← hs3]; rfl
  have hm3 : hM σm σm3 := by
    rw [← hs3]
    exact hM_tr (hM_fN gm1) (hM_tr (hM_si (by unfold pM; omega)) (hM_si (by unfold pM; omega)))
  have hxc : XC σx1 t (tkAt t τ.2.2.1) (T + 8) [] := ⟨k1.1, k1.2.1, k1.2.2.1, by rw [gx1.1 _ _ (by omega), si1n _ (by omega)]; exact a2, trivial, Nat.zero_le _⟩
  have hmc : MC σm3 t (tkAt t τ.2.2.1) [] := ⟨MK_hM k1.2.2.2 (fun b j z => by rw [M3, if_neg (by omega), if_neg (by omega)]) (by rw [M3l]), k1.2.1, by rw [M3, if_neg (by omega), if_neg (by omega)]; exact q21, trivial, Nat.zero_le _⟩
  have hL0 := k1.1.1.1
  have LL := lp_0 40 (T + 8) t (tkAt t τ.2.2.1) [] [] σx1 σm3 FU hq (by decide) hxc hmc (Or.inl rfl) (fun _ => by rw [M3, if_pos ⟨rfl, rfl⟩]) (by unfold FU; omega)
  rw [nI_0] at LL
  rcases LL with J | J
  · obtain ⟨e, σx', σm', e0, e1, r1, r2, r3, r4, r5, r6⟩ := J
    refine Or.inl ⟨e, σx', σm', e0, e1, xEnd_0 ?_, r2, hX_tr hx1 (hX_gX r3), ?_, r5, hM_tr hm3 (hM_gM r6)⟩
    · rw [ex0, r1, fxBI_s, fxG_t bo0]
    · rw [em0, r4, fxBI_s, if_pos rfl]
  · obtain ⟨C, I, v, τ2, σx2, σm2, n2, ⟨g1, g2, g3, g4, g5, g6, g7, g8, g9, g10, g11⟩, r1, r2, r3, r4⟩ := J
    rw [nI_0, List.nil_append] at *
    have t1 := g2.2.1.2.1
    have t2 := g2.2.1.2.2.1
    obtain ⟨n2, rfl⟩ : ∃ n', n2 = n' + 1 := ⟨n2 - 1, by omega⟩
    have exr : rx = some (1, σx2) := by rw [ex0, r1, fxBI_s, fxG_t bo1]
    have hx2 : hX T σx σx2 := hX_tr hx1 (hX_gX g3)
    by_cases c59 : sx t τ2 = 59
    · have hk2 : τ2.1 ≠ 1 := by rw [sx_1 (t := t) (τ := τ2) (by omega)]; decide
      have hlt2 := (g2.2.1.2.2.2.1 hk2).2
      obtain ⟨σx7, ea, kx, ox, px, gx7⟩ := x_adv g2.1 g2.2.1
      obtain ⟨σm6, em6, k6, o6, p6, l6, c6, gm6⟩ := m_end (n := n2) g4 c59
      have in11 : σm6.1 11 1 = nI 1000 := by rw [gm6.1 11 1 (by omega) (by omega) (by omega) (by omega), g5.1 11 1 (by omega) (by omega) (by omega) (by omega), M3, if_neg (by omega), if_neg (by omega), gm1.1 11 1 (by omega)]; exact a3
      rw [r2, em6, fxBI_s, if_neg (by decide), fxG_t in12, l6, fxL_r] at em0
      have hgm := gM_tr g5 gm6
      refine Or.inr ⟨σx7, _, _, ?_, hX_tr hx2 (hX_fA gx7), em0, hM_tr hm3 (hM_tr (hM_gM hgm) (hM_si (by unfold pM; omega))), ⟨⟨kx, ox, by rw [gx7.1 3 8 (by omega)]; exact g2.2.2.1, MK_hM k6 (fun b j z => si1n _ (by omega)) rfl⟩, r, wn, pn, hB, ?_, ?_, ?_, ?_, ?_⟩, by omega⟩
      · rw [xEnd_1 exr]
        unfold fX9_takeSign
        rw [x_isSign g2.1 g2.2.1 59 (by decide) (by decide) (x := 59) rfl, fxBP_s, b1 c59, io, ea, fxBV_s]
      all_goals
        have XX : ∀ b j, b ≠ 3 → b ≠ T + 8 → b ≠ T + 9 → ¬ (b = T ∧ j = 11) → σx7.1 b j = σx.1 b j := fun b j z1 z2 z3 z4 => by rw [gx7.1 b j (by omega), g3.1 b j (by omega) (by omega) (by omega), gx1.1 b j (by omega), si1n _ (by omega)]
        have XL : ∀ b j, b ≠ 3 → σx7.2.1 b j = σx.2.1 b j := fun b j z1 => by rw [gx7.2.1 b j (by omega), g3.2.1 b j (by omega), gx1.2.1 b j (by omega), si2]
        have MM : ∀ b j, b ≠ 0 → b ≠ 10 → b ≠ 11 → b ≠ 12 → b ≠ 13 → b ≠ 14 → (fx_si σm6 11 1 (nI (1000 + I.length))).1 b j = σm.1 b j := fun b j z1 z2 z3 z4 z5 z6 => by rw [si1n _ (by omega), hgm.1 b j (by omega) (by omega) (by omega) (by omega), M3, if_neg (by omega), if_neg (by omega), gm1.1 b j (by omega)]
        have ML : ∀ b j, b ≠ 0 → (fx_si σm6 11 1 (nI (1000 + I.length))).2.1 b j = σm.2.1 b j := fun b j z1 => by rw [si2, hgm.2.1 b j (by omega), M3l, gm1.2.1 b j (by omega)]
      · obtain ⟨y1, y2, y3, y4, y5, y6⟩ := hX0
        exact ⟨y1, (XX _ _ (by omega) (by omega) (by omega) (by omega)).trans y2, (XX _ _ (by omega) (by omega) (by omega) (by omega)).trans y3, (XX _ _ (by omega) (by omega) (by omega) (by omega)).trans y4, fun i hi => by rw [XX _ _ (by omega) (by omega) (by omega) (by omega), XX _ _ (by omega) (by omega) (by omega) (by omega), XX _ _ (by omega) (by omega) (by omega) (by omega)]; exact y5 i hi, fun p hp => by rw [XX _ _ (by omega) (by omega) (by omega) (by omega), XX _ _ (by omega) (by omega) (by omega) (by omega)]; exact y6 p hp⟩
      · obtain ⟨y1, y2, y3, y4, y5⟩ := hM0
        exact ⟨(MM _ _ (by omega) (by omega) (by omega) (by omega) (by omega) (by omega)).trans y1, (MM _ _ (by omega) (by omega) (by omega) (by omega) (by omega) (by omega)).trans y2, (MM _ _ (by omega) (by omega) (by omega) (by omega) (by omega) (by omega)).trans y3, fun i hi => by rw [MM _ _ (by omega) (by omega) (by omega) (by omega) (by omega) (by omega), MM _ _ (by omega) (by omega) (by omega) (by omega) (by omega) (by omega), MM _ _ (by omega) (by omega) (by omega) (by omega) (by omega) (by omega)]; exact y4 i hi, fun p hp => by rw [MM _ _ (by omega) (by omega) (by omega) (by omega) (by omega) (by omega), MM _ _ (by omega) (by omega) (by omega) (by omega) (by omega) (by omega)]; exact y5 p hp⟩
      · obtain ⟨y1, y2, y3, y4, y5, y6, y7, y8⟩ := hN
        exact ⟨y1, y2, (XX _ _ (by omega) (by omega) (by omega) (by omega)).trans y3, (XX _ _ (by omega) (by omega) (by omega) (by omega)).trans y4, (MM _ _ (by omega) (by omega) (by omega) (by omega) (by omega) (by omega)).trans y5, (MM _ _ (by omega) (by omega) (by omega) (by omega) (by omega) (by omega)).trans y6, fun i hi => by rw [XL _ _ (by omega), ML _ _ (by omega)]; exact y7 i hi, fun p hp => by rw [XL _ _ (by omega), ML _ _ (by omega)]; exact y8 p hp⟩
      · refine ⟨f0, f1, (XX _ _ (by omega) (by omega) (by omega) (by omega)).trans f2, ?_⟩
        rw [si1n _ (by omega), hgm.1 0 22 (by omega) (by omega) (by omega) (by omega), M3, if_neg (by omega), if_neg (by omega), gm1.1 0 22 (by omega)]; exact f3
      · have hl2 := g2.2.2.2.2.2
        have hi2 := g4.2.2.2.2
        refine ⟨?_, Or.inr ⟨?_, C, I, v, by omega, ?_, ?_, g7, by omega, s0_ne g8, si1s _ _ _ _, CD_fr _ _ c6 (fun i _ _ => si1n _ (by omega)), g8⟩⟩
        · rw [si1n _ (by omega), hgm.1 10 1 (by omega) (by omega) (by omega) (by omega), M3, if_neg (by omega), if_pos ⟨rfl, rfl⟩]
        · rw [gx7.1 _ _ (by omega), g3.1 _ _ (by omega) (by omega) (by omega), gx1.1 _ _ (by omega), si1s]
        · rw [gx7.1 _ _ (by omega)]; exact g2.2.2.2.1
        · exact CD_fr _ _ g2.2.2.2.2.1 (fun i _ _ => gx7.1 _ _ (by omega))
    · have fb := m_bad (n := n2) (d := 0) g4 (by decide) (r4.1 (by decide)) (r4.2.1 (by decide)) (r4.2.2.1 (by decide)) (r4.2.2.2 rfl) (fun _ => rfl) (fun z => absurd z c59)
      rw [nI_0] at fb
      refine Or.inl ⟨1 + 16 * τ2.2.1, fx_si σx2 3 8 (nI (1 + 16 * τ2.2.1)), _, by omega, by omega, ?_, si1s _ _ _ _, hX_tr hx2 (hX_fW fW_w), ?_, si1s _ _ _ _, hM_tr hm3 (hM_tr (hM_gM g5) (hM_fY fY_w))⟩
      · rw [xEnd_1 exr]
        unfold fX9_takeSign
        rw [x_isSign g2.1 g2.2.1 59 (by decide) (by decide) (x := 59) rfl, fxBP_s, b0 c59, iz, x_wrong g2.1 g2.2.2.1 1 (x := 1) rfl, fxBI_s, fxG_t bo0]
      · rw [em0, r2, fb, fxBI_s, if_pos rfl]
end STW
