/-! ===== mark ===== -/
theorem markL : ∀ j, j < 4 → LX[99 + 13 * j]? = some (3, 0) ∧ LX[99 + 13 * j + 1]? = some (7, 0) ∧ LX[99 + 13 * j + 4]? = some (8, 0) ∧ LX[99 + 13 * j + 9]? = some (6, 0) := by decide +kernel
theorem mul14 (o : Nat) : (14 : Int32) * nI o = nI (14 * o) := pk_mul 14 o
theorem oneN (o : Nat) : (1 : Int32) + nI o = nI (1 + o) := nI_add 1 o
theorem op_mark (x : Int32) {f : Nat} (hf : f ≤ 1) : OpI (fX11_mark x (nI f)) (fX12_mark x (nI f)) := by
  intro n σx σm hn h
  have h1 := Rel_th h
  unfold fX11_mark fX12_mark
  rw [fxL_r (fx_si σm 0 0 0)]
  generalize fx_si σm 0 0 0 = σ1 at h1 ⊢
  obtain ⟨r, ef, a, t, d, hA⟩ := id h1
  obtain ⟨hMV, hRB, hEB, hRX, hEX, hRM, hEM, hNX, hSX, hSM, hSB, hTX, hTM, hTB, hDX, hDM, hDB, hPX, hUX, hKX⟩ := id hA
  have hTT : σx.2.2 4 = 39 ∨ σx.2.2 4 = 44 := by rcases hMV.2 with z | z <;> omega
  rcases pk_ix x (n := 4) (by decide) with hx | hx | ⟨j, hj, rfl⟩
  · exact ⟨0, σx, σ1, by rw [if_pos hx], by rw [wi_f (Or.inl hx), fxBP_s, if_pos rfl], Rel_up h1 (by omega)⟩
  · have hx3 : 3 < x := nle_lt (a := 3) (by decide) hx (by decide)
    refine ⟨0, σx, σ1, ?_, by rw [wi_f (Or.inr hx3), fxBP_s, if_pos rfl], Rel_up h1 (by omega)⟩
    by_cases c : x < 0
    · rw [if_pos c]
    · rw [if_neg c, if_neg (show ¬ x < (4 : Int32) from Int32.not_lt.mpr hx)]
  · have h4 : nI j < 4 := nI_lt (b := 4) hj (by decide)
    have h3 : nI j ≤ 3 := nI_le (b := 3) (by omega) (by decide)
    have h0j : ¬ nI j < 0 := nI_pos (by omega)
    obtain ⟨l0, l1, l4, l9⟩ := markL j hj
    rw [if_neg h0j, if_pos h4, fxG_t (fx_inN hj (by decide)), fx_clN (by omega), wi_t h0j (Int32.not_lt.mpr h3), fxBP_s, if_neg (by decide : ¬ (1 : Int32) = 0), fxL_r]
    have en1 : vp_nar .boolean 1 = nI 1 := rfl
    rcases (show f = 0 ∨ f = 1 by omega) with rfl | rfl
    · -- laid
      rw [if_pos (show nI 0 = 0 from rfl), if_pos (show nI 0 = 0 from rfl), fxL_r]
      simp only [if_pos (show nI 0 = 0 from rfl)]
      rw [fxL_r, fxL_r, fxG_t hTX.1, oneN]
      obtain ⟨σa, ea, sa, ga⟩ := x_copyOf (t := 99 + 13 * j + 1) hSX l1 (by omega)
      have hTXa : TX σa (σx.2.2 4) t := TX_fr hTX (fun i hi => ga.1 _ (by omega))
      obtain ⟨σb, eb, tb, gb⟩ := x_tcopyOf (t := 99 + 13 * j + 4) hTXa hTB l4 (by omega)
      have hDXb : DX σb 13 d := DX_fr (DX_fr hDX (fun i hi => ga.1 _ (by omega))) (fun i hi => gb.1 _ (by omega))
      obtain ⟨σc, ec, dc, gc⟩ := x_dcopyOf (t := 99 + 13 * j + 9) hDXb hDB l9 (by omega)
      have gall : agr (fun b => 99 + 13 * j ≤ b ∧ b ≤ 99 + 13 * j + 12) σx (fx_si σc (99 + 13 * j) 0 1) := agr_sit ⟨by omega, by omega⟩ (agr_tr (agr_mono (fun q hq => by omega) ga) (agr_tr (agr_mono (fun q hq => by omega) gb) (agr_mono (fun q hq => by omega) gc)))
      -- the reference
      have hTM8 : TM (fx_si σ1 38 j (nI 1)) 0 t := TM_fr hTM hTB (by rw [fx_si_o (by decide)]) (fun b b1 b2 k hk => by rw [fx_si_o (by omega)])
      obtain ⟨τa, fa, ta, qa, qa25, qa26⟩ := m_laysLines (o1 := 0) (o2 := 1 + j) hTM8 hTB (by omega) (by omega) (by omega)
      have hDM8 : DM τa 0 d := DM_fr hDM hDB (by rw [qa.1 30 (by omega), fx_si_o (by decide)]) (fun b b1 b2 k hk => by rw [qa.1 b (by omega), fx_si_o (by omega)])
      obtain ⟨τb, fb, db, qb, qb30, qb31⟩ := m_laysSaid (o1 := 0) (o2 := 1 + j) hDM8 hDB (by omega) (by omega) (by omega)
      have hSMb : SM τb 33 0 a := fun k hk => by rw [qb.1 33 (by omega), qa.1 33 (by omega), fx_si_o (by decide)]; exact hSM k hk
      obtain ⟨τc, fc, qc, qc36, sc⟩ := m_copies (o1 := 0) (c2 := 36) (n2 := 56) (o2 := 14 * j) (n1 := 14) hSMb (by decide) (by omega) (by omega) (by omega) (by omega) rfl rfl
      have fr : ∀ b, b ≠ 38 → ¬ (25 ≤ b ∧ b ≤ 32) → b ≠ 36 → τc.1 b = σ1.1 b := fun b b1 b2 b3 => by rw [qc.1 b b3, qb.1 b (by omega), qa.1 b (by omega), fx_si_o b1]
      refine ⟨1, fx_si σc (99 + 13 * j) 0 1, τc, ?_, ?_, ⟨r, ef, a, t, d, RelA_stat hA (fun b hb _ => gall.1 b (by omega)) gall.2 (fun b hb => fr b (by omega) (by omega) (by omega)) (by rw [fr 0 (by omega) (by omega) (by omega)]) (fun b k _ => by rw [qc.2, qb.2, qa.2]; rfl) (SX_fr hSX (fun i hi => gall.1 _ (by omega))) (fun k hk => by rw [fr 33 (by omega) (by omega) (by omega)]; exact hSM k hk) (SB_up hSB (by omega)) (TX_fr hTX (fun i hi => gall.1 _ (by omega))) (TM_fr hTM hTB ?_ (fun b b1 b2 k hk => ?_)) hTB (DX_fr hDX (fun i hi => gall.1 _ (by omega))) (DM_fr hDM hDB ?_ (fun b b1 b2 k hk => ?_)) hDB (UX_fr hUX (fun b b1 b2 => gall.1 _ (by omega)) (gall.1 0 (by omega)) (fr 37 (by omega) (by omega) (by omega)) (by rw [fr 0 (by omega) (by omega) (by omega)]) (by omega)) (fun i hi => ?_)⟩⟩
      · unfold fX3_lay
        rw [fxG_t l0, fxG_t hSX.1, fxG_t hTX.1, fxG_t hDX.1, ea, fxBV_s, eb, fxBV_s, ec, fxBV_s, fxL_r, fxBV_s]
      · rw [show (0 : Int32) = nI 0 from rfl, en1]
        rw [fa, fxBV_s, fb, fxBV_s, mul14, fc, fxBV_s]
        exact fxG_t (fx_inN hj (by decide))
      · rw [qc.1 25 (by omega), qb.1 25 (by omega), qa25 0 (by omega), fx_si_o (by decide)]
      · rw [qc.1 b (by omega), qb.1 b (by omega), qa26 b _ b1 b2 (by omega), fx_si_o (by omega)]
      · rw [qc.1 30 (by omega), qb30 0 (by omega), qa.1 30 (by omega), fx_si_o (by decide)]
      · rw [qc.1 b (by omega), qb31 b _ b1 b2 (by omega), qa.1 b (by omega), fx_si_o (by omega)]
      · by_cases hij : i = j
        · subst hij
          refine ⟨1, Nat.le_refl 1, ?_, ?_, fun _ => ⟨a, t, d, ?_, ?_, SB_up hSB (by omega), ?_, ?_, hTB, ?_, ?_, hDB⟩⟩
          · rw [si1, if_pos ⟨rfl, rfl⟩]; rfl
          · rw [qc.1 38 (by omega), qb.1 38 (by omega), qa.1 38 (by omega), si1, if_pos ⟨rfl, rfl⟩]
          · exact SX_fr sa (fun k hk => by rw [fx_si_o (by omega), gc.1 _ (by omega), gb.1 _ (by omega)])
          · exact sc
          · exact TX_fr tb (fun k hk => by rw [fx_si_o (by omega), gc.1 _ (by omega)])
          · exact TM_fr ta hTB (by rw [qc.1 25 (by omega), qb.1 25 (by omega)]) (fun b b1 b2 k hk => by rw [qc.1 b (by omega), qb.1 b (by omega)])
          · exact DX_fr dc (fun k hk => by rw [fx_si_o (by omega)])
          · exact DM_fr db hDB (by rw [qc.1 30 (by omega)]) (fun b b1 b2 k hk => by rw [qc.1 b (by omega)])
        · refine KXj_fr (hKX i hi) (by omega) (fun k hk => gall.1 _ (by omega)) ?_ (fun k hk => ?_) ?_ (fun b b1 b2 k hk => ?_) ?_ (fun b b1 b2 k hk => ?_)
          · rw [qc.1 38 (by omega), qb.1 38 (by omega), qa.1 38 (by omega), si1, if_neg (by omega)]
          · rw [qc36 _ (by omega), qb.1 36 (by omega), qa.1 36 (by omega), fx_si_o (by decide)]
          · rw [qc.1 25 (by omega), qb.1 25 (by omega), qa25 _ (by omega), fx_si_o (by decide)]
          · rw [qc.1 b (by omega), qb.1 b (by omega), qa26 b _ b1 b2 (by omega), fx_si_o (by omega)]
          · rw [qc.1 30 (by omega), qb30 _ (by omega), qa.1 30 (by omega), fx_si_o (by decide)]
          · rw [qc.1 b (by omega), qb31 b _ b1 b2 (by omega), qa.1 b (by omega), fx_si_o (by omega)]
    · -- back
      have n10 : ¬ nI 1 = 0 := by decide
      rw [if_neg n10, if_neg n10, fxG_t (fx_inN hj (by decide))]
      simp only [if_neg n10]
      obtain ⟨f, f1, f2, f3, f4⟩ := hKX j hj
      rw [f2, f3]
      rcases (show f = 0 ∨ f = 1 by omega) with rfl | rfl
      · rw [if_pos (show nI 0 = 0 from rfl), if_pos (show nI 0 = 0 from rfl)]
        exact ⟨0, σx, σ1, rfl, rfl, Rel_up h1 (by omega)⟩
      · rw [if_neg n10, if_neg n10, fxG_t (fx_inN hj (by decide)), fxL_r, fxL_r, fxL_r, oneN, en1]
        obtain ⟨a', t', d', m1, m2, m3, m4, m5, m6, m7, m8, m9⟩ := f4 rfl
        obtain ⟨σa, ea, sa, ga⟩ := x_copyOf (t := 7) m1 rfl (by omega)
        have hva : σa.2.2 4 = σx.2.2 4 := by rw [ga.2]
        have hm4 : TX σa (99 + 13 * j + 4) t' := TX_fr m4 (fun i hi => ga.1 _ (by omega))
        obtain ⟨σb, eb, tb, gb⟩ := x_tcopyOf (t := σx.2.2 4) hm4 m6 hTX.1 (by omega)
        have hm7 : DX σb (99 + 13 * j + 9) d' := DX_fr (DX_fr m7 (fun i hi => ga.1 _ (by omega))) (fun i hi => gb.1 _ (by omega))
        obtain ⟨σc, ec, dc, gc⟩ := x_dcopyOf (t := 13) hm7 m9 rfl (by omega)
        have gall : agr (fun b => b = 0 ∨ (7 ≤ b ∧ b ≤ 9) ∨ (13 ≤ b ∧ b ≤ 15) ∨ (39 ≤ b ∧ b ≤ 48)) σx (fx_si σc 0 11 0) := agr_sit (by omega) (agr_tr (agr_mono (fun q hq => by omega) ga) (agr_tr (agr_mono (fun q hq => by omega) gb) (agr_mono (fun q hq => by omega) gc)))
        have e38 : ∀ k, (fx_si σ1 38 j (nI 1)).1 38 k = σ1.1 38 k := fun k => by
          rw [si1]
          by_cases q : k = j
          · subst q; rw [if_pos ⟨rfl, rfl⟩, f3]
          · rw [if_neg (by omega)]
        have hTM8 : TM (fx_si σ1 38 j (nI 1)) (1 + j) t' := TM_fr m5 m6 (by rw [fx_si_o (by decide)]) (fun b b1 b2 k hk => by rw [fx_si_o (by omega)])
        obtain ⟨τa, fa, ta, qa, qa25, qa26⟩ := m_laysLines (o1 := 1 + j) (o2 := 0) hTM8 m6 (by omega) (by omega) (by omega)
        have hDM8 : DM τa (1 + j) d' := DM_fr m8 m9 (by rw [qa.1 30 (by omega), fx_si_o (by decide)]) (fun b b1 b2 k hk => by rw [qa.1 b (by omega), fx_si_o (by omega)])
        obtain ⟨τb, fb, db, qb, qb30, qb31⟩ := m_laysSaid (o1 := 1 + j) (o2 := 0) hDM8 m9 (by omega) (by omega) (by omega)
        have hSMb : SM τb 36 (14 * j) a' := fun k hk => by rw [qb.1 36 (by omega), qa.1 36 (by omega), fx_si_o (by decide)]; exact m2 k hk
        obtain ⟨τc, fc, qc, qc33, sc⟩ := m_copies (o1 := 14 * j) (c2 := 33) (n2 := 14) (o2 := 0) (n1 := 56) hSMb (by decide) (by omega) (by omega) (by omega) (by omega) rfl rfl
        have fr : ∀ b, b ≠ 0 → b ≠ 38 → ¬ (25 ≤ b ∧ b ≤ 32) → b ≠ 33 → (fx_si τc 0 51 0).1 b = σ1.1 b := fun b b0 b1 b2 b3 => by rw [fx_si_o b0, qc.1 b b3, qb.1 b (by omega), qa.1 b (by omega), fx_si_o b1]
        refine ⟨1, fx_si σc 0 11 0, fx_si τc 0 51 0, ?_, ?_, ⟨r, ef, a', t', d', RelA_stat hA (fun b hb _ => gall.1 b (by omega)) gall.2 (fun b hb => fr b (by omega) (by omega) (by omega) (by omega)) ?_ (fun b k _ => by rw [si2, qc.2, qb.2, qa.2]; rfl) (SX_fr sa (fun i hi => by rw [fx_si_o (by omega), gc.1 _ (by omega), gb.1 _ (by omega)])) (fun k hk => by rw [fx_si_o (by omega)]; exact sc k hk) (SB_up m3 (by omega)) (TX_fr tb (fun i hi => by rw [fx_si_o (by omega), gc.1 _ (by omega)])) (TM_fr ta m6 ?_ (fun b b1 b2 k hk => ?_)) m6 (DX_fr dc (fun i hi => by rw [fx_si_o (by omega)])) (DM_fr db m9 ?_ (fun b b1 b2 k hk => ?_)) m9 ?_ (fun i hi => ?_)⟩⟩
        · rw [ea, fxBV_s, hva, fxG_t hTX.1, eb, fxBV_s, ec, fxBV_s, fxL_r]
        · rw [show (0 : Int32) = nI 0 from rfl]
          rw [fa, fxBV_s, fb, fxBV_s, mul14, fc, fxBV_s, fxL_r]
        · rw [si1, if_neg (by omega), qc.1 0 (by omega), qb.1 0 (by omega), qa.1 0 (by omega), fx_si_o (by decide)]
        · rw [fx_si_o (by omega), qc.1 25 (by omega), qb.1 25 (by omega)]
        · rw [fx_si_o (by omega), qc.1 b (by omega), qb.1 b (by omega)]
        · rw [fx_si_o (by omega), qc.1 30 (by omega)]
        · rw [fx_si_o (by omega), qc.1 b (by omega)]
        · obtain ⟨c, nx, us, u1, u2, u3, u4, u5, u6⟩ := hUX
          refine ⟨0, nx, us, by omega, u2, ?_, ?_, ?_, fun k hk => absurd hk (by omega)⟩
          · rw [si1, if_pos ⟨rfl, rfl⟩]; rfl
          · rw [si1, if_neg (by omega), gc.1 0 (by omega), gb.1 0 (by omega), ga.1 0 (by omega)]; exact u4
          · rw [si1, if_pos ⟨rfl, rfl⟩]; rfl
        · refine KXj_fr (hKX i hi) (by omega) (fun k hk => gall.1 _ (by omega)) ?_ (fun k hk => ?_) ?_ (fun b b1 b2 k hk => ?_) ?_ (fun b b1 b2 k hk => ?_)
          · rw [fx_si_o (by decide), qc.1 38 (by omega), qb.1 38 (by omega), qa.1 38 (by omega), e38]
          · rw [fx_si_o (by decide), qc.1 36 (by omega), qb.1 36 (by omega), qa.1 36 (by omega), fx_si_o (by decide)]
          · rw [fx_si_o (by decide), qc.1 25 (by omega), qb.1 25 (by omega), qa25 _ (by omega), fx_si_o (by decide)]
          · rw [fx_si_o (by omega), qc.1 b (by omega), qb.1 b (by omega), qa26 b _ b1 b2 (by omega), fx_si_o (by omega)]
          · rw [fx_si_o (by decide), qc.1 30 (by omega), qb30 _ (by omega), qa.1 30 (by omega), fx_si_o (by decide)]
          · rw [fx_si_o (by omega), qc.1 b (by omega), qb31 b _ b1 b2 (by omega), qa.1 b (by omega), fx_si_o (by omega)]
