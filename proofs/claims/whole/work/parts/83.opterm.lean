/-! ===== term ===== -/
section TR
variable {t : TP} {T D : Nat} {r : AR} {wn pn : Nat → List Nat}
theorem term_0 {K5 : FH → Option (Int32 × FH)} {k : Nat} {i : Int32} {σ : FH} : fX4_readTerm_17 T D K5 (k + 1) 0 i σ = K5 σ := by
  rw [fX4_readTerm_17]
  by_cases c : 1000 ≤ i
  · rw [if_pos c]
  · rw [if_neg c, if_pos rfl]
theorem term_loop (hT : tOk T) (hD : D = 39 ∨ D = 44) (K5 K7 : FH → Option (Int32 × FH)) : ∀ (m n k i : Nat) (τ : TK) (σx σm : FH), t.1 < m + τ.2.1 → m < n → m + 1 < k → i ≤ τ.2.1 → DT T D r wn pn t τ σx σm →
    (∃ (e : Nat) (σx' σm' : FH), 0 < e ∧ e < 100000 ∧ fX4_readTerm_17 T D K5 k 1 (nI i) σx = K5 σx' ∧ σx'.1 3 8 = nI e ∧ kX D σx σx' ∧ fX12_term_16 K7 n σm = some (nI e, σm') ∧ kM σm σm') ∨ (∃ (σx' σm' : FH) (τ' : TK), fX4_readTerm_17 T D K5 k 1 (nI i) σx = K5 σx' ∧ kX D σx σx' ∧ fX12_term_16 K7 n σm = K7 σm' ∧ kM σm σm' ∧ DT T D r wn pn t τ' σx' σm')
  | 0, n, k, i, τ, σx, σm, h, _, _, _, hD => absurd h (by have := hD.1.2.1.2.1; have := hD.1.2.1.2.2.1; omega)
  | m + 1, n, k, i, τ, σx, σm, h1, h2, h3, h4, hDT => by
    obtain ⟨n, rfl⟩ : ∃ n', n = n' + 1 := ⟨n - 1, by omega⟩
    obtain ⟨k, rfl⟩ : ∃ k', k = k' + 2 := ⟨k - 2, by omega⟩
    have hJ := hDT.1
    have hL0 := hJ.1.1.1
    have u1 := hJ.2.1.2.1
    have u2 := hJ.2.1.2.2.1
    by_cases c : τ.1 = 1
    · refine Or.inr ⟨σx, σm, τ, ?_, kX_rf D σx, ?_, kM_rf σm, hDT⟩
      · rw [fX4_readTerm_17]
        by_cases c2 : 1000 ≤ nI i
        · rw [if_pos c2]
        · rw [if_neg c2, if_neg (by decide), x_atEnd hJ.1 hJ.2.1, fxBP_s, b1 c, io]
      · rw [fX12_term_16, if_pos ((MK_k hJ.2.2.2 hJ.2.1 1 (by decide) (x := 0) rfl).mpr c)]
    · have hlt := (hJ.2.1.2.2.2.1 c).1
      have hi : i < 1000 := by omega
      have ex : fX4_readTerm_17 T D K5 (k + 2) 1 (nI i) σx = fxBI (fX4_readLine T D σx) fun r24 σ25 => if r24 = 0 then fX4_readTerm_17 T D K5 (k + 1) 0 (nI (i + 1)) σ25 else (fxBI (fX9_takeSign 59 σ25) fun r28 σ29 => if r28 = 0 then fX4_readTerm_17 T D K5 (k + 1) 0 (nI (i + 1)) σ29 else fX4_readTerm_17 T D K5 (k + 1) 1 (nI (i + 1)) σ29) := by
        rw [fX4_readTerm_17, if_neg (show ¬ (1000 : Int32) ≤ nI i from le_no (b := 1000) hi (by decide)), if_neg (by decide), x_atEnd hJ.1 hJ.2.1, fxBP_s, b0 c, iz, nI_1]
      have em : fX12_term_16 K7 (n + 1) σm = fxBI (fX12_readsLine σm) fun r17 σ18 => if r17 = 0 then some ((σ18.1 0 9), σ18) else fX12_term_16 K7 n σ18 := by
        rw [fX12_term_16, if_neg (fun z => c ((MK_k hJ.2.2.2 hJ.2.1 1 (by decide) (x := 0) rfl).mp z))]
      rcases ln_all hT hD hDT c with F | G
      · obtain ⟨e, σx', σm', e0, e1, r1, r2, r3, r4, r5, r6⟩ := F
        refine Or.inl ⟨e, σx', σm', e0, e1, ?_, r2, r3, ?_, r6⟩
        · rw [ex, st_turn r1, if_pos rfl, term_0]
        · rw [em, r4, fxBI_s, if_pos rfl, r5]
      · obtain ⟨σx', σm', τ', r1, r2, r3, r4, r5, r6⟩ := G
        have ex' : fX4_readTerm_17 T D K5 (k + 2) 1 (nI i) σx = fX4_readTerm_17 T D K5 (k + 1) 1 (nI (i + 1)) σx' := by rw [ex, st_turn r1, if_neg (by decide)]
        have em' : fX12_term_16 K7 (n + 1) σm = fX12_term_16 K7 n σm' := by rw [em, r3, fxBI_s, if_neg (by decide)]
        rw [ex', em']
        rcases term_loop hT hD K5 K7 m n (k + 1) (i + 1) τ' σx' σm' (by omega) (by omega) (by omega) (by omega) r5 with ⟨e, σx2, σm2, e0, e1, s1, s2, s3, s4, s5⟩ | ⟨σx2, σm2, τ2, s1, s2, s3, s4, s5⟩
        · exact Or.inl ⟨e, σx2, σm2, e0, e1, s1, s2, kX_tr r2 s3, s4, kM_tr r4 s5⟩
        · exact Or.inr ⟨σx2, σm2, τ2, s1, kX_tr r2 s2, s3, kM_tr r4 s4, s5⟩
end TR
set_option maxHeartbeats 1000000 in
theorem op_term : OpI fX11_term fX12_term := by
  intro n σx σm hn h
  have h1 := Rel_th h
  unfold fX11_term fX12_term
  rw [fxL_r (fx_si σm 0 0 0)]
  generalize fx_si σm 0 0 0 = σ1 at h1 ⊢
  obtain ⟨r, ef, a, t, d, hA⟩ := id h1
  obtain ⟨hMV, hRB, hEB, hRX, hEX, hRM, hEM, hNX, hSX, hSM, hSB, hTX, hTM, hTB, hDX, hDM, hDB, hPX, hUX, hKX⟩ := id hA
  have hT : tOk (σx.2.2 2) := by rcases hMV.1 with z | z <;> unfold tOk <;> omega
  have hT' : σx.2.2 2 = 17 ∨ σx.2.2 2 = 28 := hT
  have hD : σx.2.2 5 = 39 ∨ σx.2.2 5 = 44 := by rcases hMV.2 with z | z <;> omega
  have hE : σx.2.2 4 = 39 ∨ σx.2.2 4 = 44 := by rcases hMV.2 with z | z <;> omega
  have hDE : σx.2.2 4 ≠ σx.2.2 5 := by rcases hMV.2 with z | z <;> omega
  rw [fxG_t (tOk_L hT), fxG_t (dL hD), fxG_t (show fx_in 5 6 = true from by decide), show Int32.toNatClampNeg 5 = 5 from by decide, fxL_r (fx_si σ1 25 5 0)]
  obtain ⟨L, tp, p1, p2, p3, p4⟩ := hPX
  obtain ⟨wn, pn, nx1, nx2⟩ := hNX
  obtain ⟨σx1, a1, k1, f1, g1⟩ := x_beg (σ := σx) (t := (L, tp)) ⟨p1, p2, fun j hj => ⟨(p4 j hj).1, (p4 j hj).2.1⟩⟩
  obtain ⟨σm2, b2, k2, z2, g2⟩ := m_beg (σ := fx_si σ1 25 5 0) (t := (L, tp)) p1 (by rw [si1n _ (by omega)]; exact p3) (fun j hj => ⟨(p4 j hj).1, by rw [si1n _ (by omega)]; exact (p4 j hj).2.2⟩)
  rw [b2, fxBV_s, fxL_r (fun (σ8 : FH) => fxBV (fX12_laysLines 5 0 σ8) fun (σ11 : FH) => some ((0 : Int32), σ11))]
  have hko := tkAt_ok (t := (L, tp)) p1 (q := 0) (Nat.zero_le _)
  have hJ : TJ (L, tp) (tkAt (L, tp) 0) (fx_si σx1 (σx.2.2 5) 0 0) σm2 := ⟨XT_hX k1 (fun b j z => si1n _ (by omega)) rfl, hko.1, by rw [si1n _ (by omega)]; exact f1, k2⟩
  have gx2 : ∀ b j, ¬ ((b = 3 ∧ 2 ≤ j ∧ j ≤ 8) ∨ (b = σx.2.2 5 ∧ j = 0)) → (fx_si σx1 (σx.2.2 5) 0 0).1 b j = σx.1 b j := fun b j z => by rw [si1n _ (by omega), g1.1 b j (by omega)]
  have gm2 : ∀ b j, ¬ ((b = 0 ∧ (j = 1 ∨ (3 ≤ j ∧ j ≤ 8))) ∨ (b = 25 ∧ j = 5)) → σm2.1 b j = σ1.1 b j := fun b j z => by rw [g2.1 b j (by omega), si1n _ (by omega)]
  have hDT : DT (σx.2.2 2) (σx.2.2 5) r wn pn (L, tp) (tkAt (L, tp) 0) (fx_si σx1 (σx.2.2 5) 0 0) σm2 := by
    refine ⟨hJ, ⟨hRB.1, hRB.2.1, ?_, ?_, ?_, ?_, fun i hi => ?_, fun p hp => ?_⟩, fun _ _ => 0, ⟨(by decide : 0 ≤ 40), fun i hi => absurd hi (Nat.not_lt_zero i)⟩, ⟨dL hD, si1s _ _ _ _, fun i hi => absurd hi (Nat.not_lt_zero i)⟩, ⟨?_, fun i hi => absurd hi (Nat.not_lt_zero i)⟩⟩
    · rw [gx2 _ _ (by omega)]; exact hRX.2.1
    · rw [gx2 _ _ (by omega)]; exact hRX.2.2.1
    · rw [gm2 _ _ (by omega)]; exact hRM.1
    · rw [gm2 _ _ (by omega)]; exact hRM.2.1
    · rw [si2, g1.2.1 _ _ (by omega), g2.2.1 _ _ (by omega), si2, show 6 * 0 + i = i by omega]; exact nx1 i hi
    · rw [si2, g1.2.1 _ _ (by omega), g2.2.1 _ _ (by omega), si2, show 5 * 0 + p = p by omega]; exact nx2 p hp
    · rw [g2.1 25 5 (by omega), si1s]; rfl
  have ex : ∀ σ3 : FH, fX4_readTerm_17 (σx.2.2 2) (σx.2.2 5) (fun σ6 => fxBV (fX9_clear σ6) fun σ9 => some ((σ9.1 3 8), σ9)) FU 1 (nI 0) (fx_si σx1 (σx.2.2 5) 0 0) = (fun σ6 => fxBV (fX9_clear σ6) fun σ9 => some ((σ9.1 3 8), σ9)) σ3 → fX4_readTerm (σx.2.2 2) (σx.2.2 5) σx = some (σ3.1 3 8, fx_si σ3 3 1 0) := by
    intro σ3 h3
    unfold fX4_readTerm
    rw [fxG_t (tOk_L hT), fxG_t (dL hD), a1, fxBV_s, fxL_r, fxL_r]
    rw [nI_0] at h3
    rw [h3]
    dsimp only
    unfold fX9_clear
    rw [fxL_r, fxBV_s, si1n _ (by omega)]
  have fin : ∀ (σ3 σm3 : FH), kX (σx.2.2 5) (fx_si σx1 (σx.2.2 5) 0 0) σ3 → kM σm2 σm3 → Rel n (fx_si σ3 3 1 0) σm3 := by
    intro σ3 σm3 q1 q2
    refine Rel_fr h1 (fun b j z => ?_) (fun b j z => ?_) ?_ (fun b j z => ?_) (fun b j z => ?_) (PX_0 (si1s _ _ _ _) ?_)
    · rw [si1n _ (by omega), q1.1 b j (by omega), gx2 b j (by omega)]
    · rw [si2, q1.2.1 b j (by omega), si2, g1.2.1 b j (by omega)]
    · rw [si2, q1.2.2, si2, g1.2.2]
    · unfold relM at z
      rw [q2.1 b j (by unfold pT; omega), gm2 b j (by omega)]
    · rw [q2.2.1 b j (by omega), g2.2.1 b j (by omega), si2]
    · rw [q2.1 0 1 (by unfold pT; omega)]; exact z2
  rcases term_loop (t := (L, tp)) (r := r) (wn := wn) (pn := pn) hT hD (fun σ6 => fxBV (fX9_clear σ6) fun σ9 => some ((σ9.1 3 8), σ9)) (fun (σ8 : FH) => fxBV (fX12_laysLines 5 0 σ8) fun (σ11 : FH) => some ((0 : Int32), σ11)) 1001 FU FU 0 _ _ σm2 (by show L < _; omega) (by decide) (by decide) (Nat.zero_le _) hDT with ⟨e, σx', σm', e0, e1, s1, s2, s3, s4, s5⟩ | ⟨σx', σm', τ', s1, s2, s3, s4, hJ', hN', tt, hB', hX', hM'⟩
  · refine ⟨nI e, fx_si σx' 3 1 0, σm', ?_, s4, Rel_up (fin σx' σm' s3 s5) (by omega)⟩
    rw [ex _ s1, fxBI_s, s2, if_neg (nI_ne0 e0 (by omega))]
  · have R0 := fin σx' σm' s2 s4
    generalize hsy : fx_si σx' 3 1 0 = σy at R0
    have hy2 : σy.2.2 = σx.2.2 := by rw [← hsy, si2, s2.2.2, si2, g1.2.2]
    have hyo : ∀ b j, b ≠ 3 → σy.1 b j = σx'.1 b j := fun b j z => by rw [← hsy, si1n _ (by omega)]
    obtain ⟨r2, ef2, a2, t2, d2, hA2⟩ := R0
    obtain ⟨zMV, zRB, zEB, zRX, zEX, zRM, zEM, zNX, zSX, zSM, zSB, zTX, zTM, zTB, zDX, zDM, zDB, zPX, zUX, zKX⟩ := hA2
    have hr0 : r2 0 0 = r 0 0 := by
      have e1 : σy.1 (σx.2.2 2) 0 = σx.1 (σx.2.2 2) 0 := by rw [hyo _ _ (by omega), s2.1 _ _ (by omega), gx2 _ _ (by omega)]
      have e2 := zRX.2.1
      rw [hy2, e1, hRX.2.1] at e2
      have := hRB.1
      have := zRB.1
      exact (nI_inj (by omega) (by omega) e2).symm
    have hr1 : r2 0 1 = r 0 1 := by
      have e1 : σy.1 (σx.2.2 2) 5 = σx.1 (σx.2.2 2) 5 := by rw [hyo _ _ (by omega), s2.1 _ _ (by omega), gx2 _ _ (by omega)]
      have e2 := zRX.2.2.1
      rw [hy2, e1, hRX.2.2.1] at e2
      have := hRB.2.1
      have := zRB.2.1
      exact (nI_inj (by omega) (by omega) e2).symm
    have hB2 : TB r2 tt := by unfold TB; rw [hr0, hr1]; exact hB'
    obtain ⟨ρ, d1, tm0, ga, ga25, ga26⟩ := m_laysLines (o1 := 5) (o2 := 0) hM' hB2 (by decide) (by decide) (by decide)
    have d1' : fX12_laysLines 5 0 σm' = some ρ := d1
    refine ⟨0, fx_sr (fx_sr σy 4 (σx.2.2 5)) 5 (σx.2.2 4), ρ, ?_, by rw [s3, d1', fxBV_s], ?_⟩
    · rw [ex _ s1, fxBI_s, hJ'.2.2.1, if_pos rfl, hsy, hy2, fxG_t (dL hE), fxG_t (dL hD), fxL_r, fxL_r]
    · generalize hsw : fx_sr (fx_sr σy 4 (σx.2.2 5)) 5 (σx.2.2 4) = σw
      have w1 : σw.1 = σy.1 := by rw [← hsw]; rfl
      have w2 : σw.2.1 = σy.2.1 := by rw [← hsw]; rfl
      have w3 : ∀ j, σw.2.2 j = if j = 5 then σx.2.2 4 else if j = 4 then σx.2.2 5 else σx.2.2 j := fun j => by rw [← hsw, sr22, sr22, hy2]
      have v2 : σw.2.2 2 = σx.2.2 2 := by rw [w3, if_neg (by decide), if_neg (by decide)]
      have v3 : σw.2.2 3 = σx.2.2 3 := by rw [w3, if_neg (by decide), if_neg (by decide)]
      have v4 : σw.2.2 4 = σx.2.2 5 := by rw [w3, if_neg (by decide), if_pos rfl]
      have v5 : σw.2.2 5 = σx.2.2 4 := by rw [w3, if_pos rfl]
      have e : ∀ b, ¬ (25 ≤ b ∧ b ≤ 29) → ρ.1 b = σm'.1 b := fun b z => ga.1 b z
      have hSMk : ∀ c o a', c = 33 ∨ c = 36 ∨ c = 37 → SM σm' c o a' → SM ρ c o a' := fun c o a' hc hh k hk => by rw [e c (by omega)]; exact hh k hk
      have hDMk : ∀ o d', DM σm' o d' → DM ρ o d' := fun o d' hh => by unfold DM; rw [e 30 (by omega), e 31 (by omega), e 32 (by omega)]; exact hh
      have hSXk : ∀ c a', SX σy c a' → SX σw c a' := fun c a' hh => by unfold SX; rw [w1]; exact hh
      have hTXk : ∀ c t', TX σy c t' → TX σw c t' := fun c t' hh => by unfold TX; rw [w1]; exact hh
      have hDXk : ∀ c t', DX σy c t' → DX σw c t' := fun c t' hh => by unfold DX; rw [w1]; exact hh
      rw [hy2] at zRX zEX zNX
      refine ⟨r2, ef2, a2, tt, d2, ?_, zRB, zEB, ?_, ?_, ?_, ?_, ?_, hSXk _ _ zSX, hSMk _ _ _ (by omega) zSM, SB_up zSB (by omega), ?_, tm0, hB2, hDXk _ _ zDX, hDMk _ _ zDM, zDB, ?_, ?_, ?_⟩
      · unfold MV
        rw [v2, v3, v4, v5]
        refine ⟨hMV.1, ?_⟩
        rcases hMV.2 with z | z
        · exact Or.inr ⟨z.2, z.1⟩
        · exact Or.inl ⟨z.2, z.1⟩
      · rw [v2]; unfold RX; rw [w1]; exact zRX
      · rw [v2]; exact EX_pt zEX (fun b j _ => by rw [w1])
      · unfold RM; rw [e 2 (by omega), e 5 (by omega), e 6 (by omega), e 7 (by omega), e 8 (by omega), e 9 (by omega)]; exact zRM
      · intro so half votes date σ0 u1 u2 u3 u4 q1 q2 q3
        rw [e 10 (by omega)] at q1
        rw [e 11 (by omega)] at q2
        exact zEM so half votes date σ0 u1 u2 u3 u4 q1 q2 (fun k hk => by rw [q3 k hk, e 12 (by omega)])
      · obtain ⟨wn', pn', n1', n2'⟩ := zNX
        rw [v2]
        refine ⟨wn', pn', fun i hi => ?_, fun p hp => ?_⟩
        · rw [w2, ga.2]; exact n1' i hi
        · rw [w2, ga.2]; exact n2' p hp
      · rw [v4]
        exact hTXk _ _ (TX_fr hX' (fun i hi => funext fun j => hyo _ _ (by omega)))
      · obtain ⟨L', tp', q1, q2, q3, q4⟩ := zPX
        refine ⟨L', tp', q1, by rw [w1]; exact q2, by rw [e 0 (by omega)]; exact q3, fun j hj => ?_⟩
        rw [w1, e 1 (by omega)]; exact q4 j hj
      · obtain ⟨c, nx, us, u1, u2, u3, u4, u5, u6⟩ := zUX
        refine ⟨c, nx, us, u1, u2, by rw [w1]; exact u3, by rw [w1]; exact u4, by rw [e 0 (by omega)]; exact u5, fun k hk => ?_⟩
        exact ⟨hSXk _ _ (u6 k hk).1, hSMk _ _ _ (by omega) (u6 k hk).2.1, SB_up (u6 k hk).2.2 (by omega)⟩
      · intro j hj
        obtain ⟨f, q1, q2, q3, q4⟩ := zKX j hj
        refine ⟨f, q1, by rw [w1]; exact q2, by rw [e 38 (by omega)]; exact q3, fun hf => ?_⟩
        obtain ⟨a', t', d', m1, m2, m3, m4, m5, m6, m7, m8, m9⟩ := q4 hf
        exact ⟨a', t', d', hSXk _ _ m1, hSMk _ _ _ (by omega) m2, SB_up m3 (by omega), hTXk _ _ m4, TM_fr m5 m6 (ga25 _ (by omega)) (fun b b1 b2 k hk => ga26 b _ b1 b2 (by omega)), m6, hDXk _ _ m7, hDMk _ _ m8, m9⟩
