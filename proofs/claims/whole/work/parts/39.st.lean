/-! ===== the relation when a state changes ===== -/
theorem RelA_gen {r : AR} {ef : EF} {a a' : AS} {t d : AT} {n m : Nat} {σx σm σx' σm' : FH} (h : RelA r ef a t d n σx σm) (gx : ∀ b, b ≠ 0 → ¬ (7 ≤ b ∧ b ≤ 12) → ¬ (51 ≤ b ∧ b ≤ 98) → ¬ scX b → σx'.1 b = σx.1 b) (gx2 : σx'.2 = σx.2)
    (gm : ∀ b, b ≠ 0 → b ≠ 33 → b ≠ 37 → ¬ scQ b → σm'.1 b = σm.1 b) (gm0 : σm'.1 0 1 = σm.1 0 1) (gm2 : ∀ b j, ¬ (b = 0 ∧ j = 54) → σm'.2.1 b j = σm.2.1 b j) (hs : SX σx' 7 a') (hm : SM σm' 33 0 a') (hb : SB r a' m) (hu : UX σx' σm' r m) (hnm : n ≤ m) : RelA r ef a' t d m σx' σm' := by
  obtain ⟨h1, h2, h3, h4, h5, h6, h7, h8, h9, h10, h11, h12, h13, h14, h15, h16, h17, h18, h19, h20⟩ := h
  have hT : σx.2.2 2 = 17 ∨ σx.2.2 2 = 28 := by rcases h1.1 with x | x <;> omega
  have hTT : σx.2.2 4 = 39 ∨ σx.2.2 4 = 44 := by rcases h1.2 with x | x <;> omega
  have e : ∀ b, b = 2 ∨ (5 ≤ b ∧ b ≤ 12) ∨ (25 ≤ b ∧ b ≤ 32) ∨ b = 36 ∨ b = 38 ∨ b = 1 → σm'.1 b = σm.1 b := fun b hb => gm b (by omega) (by omega) (by omega) (by unfold scQ scrM; omega)
  have g : agr (fun b => b = 0 ∨ (7 ≤ b ∧ b ≤ 12) ∨ (51 ≤ b ∧ b ≤ 98) ∨ scX b) σx σx' := ⟨fun b hb => gx b (fun q => hb (Or.inl q)) (fun q => hb (Or.inr (Or.inl q))) (fun q => hb (Or.inr (Or.inr (Or.inl q)))) (fun q => hb (Or.inr (Or.inr (Or.inr q)))), gx2⟩
  have hTM : ∀ o t, TM σm o t → TM σm' o t := fun o t hh => by
    unfold TM
    rw [e 25 (by omega), e 26 (by omega), e 27 (by omega), e 28 (by omega), e 29 (by omega)]
    exact hh
  have hDM : ∀ o t, DM σm o t → DM σm' o t := fun o t hh => by
    unfold DM
    rw [e 30 (by omega), e 31 (by omega), e 32 (by omega)]
    exact hh
  have hTX : ∀ c t, 39 ≤ c → (c + 4 < 51 ∨ 98 < c) → TX σx c t → TX σx' c t := fun c t hc hc2 hh => by
    have e : ∀ i, i < 5 → σx'.1 (c + i) = σx.1 (c + i) := fun i hi => g.1 _ (by unfold scX; omega)
    have e0 := e 0 (by omega)
    rw [Nat.add_zero] at e0
    unfold TX
    rw [e0, e 1 (by omega), e 2 (by omega), e 3 (by omega), e 4 (by omega)]
    exact hh
  have hDX : ∀ c t, (c = 13 ∨ 98 < c) → DX σx c t → DX σx' c t := fun c t hc hh => by
    have e : ∀ i, i < 3 → σx'.1 (c + i) = σx.1 (c + i) := fun i hi => g.1 _ (by unfold scX; omega)
    have e0 := e 0 (by omega)
    rw [Nat.add_zero] at e0
    unfold DX
    rw [e0, e 1 (by omega), e 2 (by omega)]
    exact hh
  unfold RelA MV
  rw [gx2]
  refine ⟨h1, h2, h3, RX_agr h4 g (fun i hi => by unfold scX; omega), EX_agr h5 g (by unfold scX; omega) (by unfold scX; omega), ?_, ?_, ?_, hs, hm, hb, hTX _ _ (by omega) (by omega) h12, hTM 0 t h13, h14, hDX _ _ (Or.inl rfl) h15, hDM 0 d h16, h17, ?_, hu, ?_⟩
  · rw [RM, e 2 (by omega), e 5 (by omega), e 6 (by omega), e 7 (by omega), e 8 (by omega), e 9 (by omega)]
    exact h6
  · intro so half votes date σ0 a1 a2 a3 a4 e1 e2 e3
    rw [e 10 (by omega)] at e1
    rw [e 11 (by omega)] at e2
    exact h7 so half votes date σ0 a1 a2 a3 a4 e1 e2 (fun k hk => by rw [e3 k hk, e 12 (by omega)])
  · obtain ⟨wn, pn, n1, n2⟩ := h8
    refine ⟨wn, pn, fun i hi => ?_, fun p hp => ?_⟩
    · rw [gx2, gm2 3 i (by omega)]; exact n1 i hi
    · rw [gx2, gm2 4 p (by omega)]; exact n2 p hp
  · obtain ⟨L, tp, p1, p2, p3, p4⟩ := h18
    refine ⟨L, tp, p1, by rw [g.1 3 (by unfold scX; omega)]; exact p2, by rw [gm0]; exact p3, fun j hj => ?_⟩
    rw [g.1 4 (by unfold scX; omega), e 1 (by omega)]
    exact p4 j hj
  · intro j hj
    obtain ⟨f, f1, f2, f3, f4⟩ := h20 j hj
    refine ⟨f, f1, by rw [g.1 _ (by unfold scX; omega)]; exact f2, by rw [e 38 (by omega)]; exact f3, fun hf => ?_⟩
    obtain ⟨a', t', d', m1, m2, m3, m4, m5, m6, m7, m8, m9⟩ := f4 hf
    exact ⟨a', t', d', SX_agr m1 g (fun i hi => by unfold scX; omega), fun k hk => by rw [e 36 (by omega)]; exact m2 k hk, SB_up m3 hnm, hTX _ _ (by omega) (by omega) m4, hTM _ _ m5, m6, hDX _ _ (by omega) m7, hDM _ _ m8, m9⟩
theorem UX_fr {r : AR} {n m : Nat} {σx σm σx' σm' : FH} (h : UX σx σm r n) (g1 : ∀ b, 51 ≤ b → b ≤ 98 → σx'.1 b = σx.1 b) (g2 : σx'.1 0 = σx.1 0) (g3 : σm'.1 37 = σm.1 37) (g4 : σm'.1 0 51 = σm.1 0 51) (hnm : n ≤ m) : UX σx' σm' r m := by
  obtain ⟨c, nx, us, u1, u2, u3, u4, u5, u6⟩ := h
  refine ⟨c, nx, us, u1, u2, by rw [g2]; exact u3, by rw [g2]; exact u4, by rw [g4]; exact u5, fun k hk => ⟨?_, fun j hj => by rw [g3]; exact (u6 k hk).2.1 j hj, SB_up (u6 k hk).2.2 hnm⟩⟩
  obtain ⟨s1, s2, s3, s4, s5, s6⟩ := (u6 k hk).1
  have e : ∀ i, i < 3 → σx'.1 (51 + 3 * ((nx + 16 - c + k) % 16) + i) = σx.1 (51 + 3 * ((nx + 16 - c + k) % 16) + i) := fun i hi => g1 _ (by omega) (by omega)
  have e0 := e 0 (by omega)
  rw [Nat.add_zero] at e0
  exact ⟨s1, by rw [e0]; exact s2, by rw [e0]; exact s3, by rw [e0]; exact s4, by rw [e 1 (by omega)]; exact s5, by rw [e 2 (by omega)]; exact s6⟩
/-- the reference, but for its state and what only serves a call -/
def agS (σ σ' : FH) : Prop := (∀ b, b ≠ 0 → b ≠ 33 → ¬ scQ b → σ'.1 b = σ.1 b) ∧ (∀ k, k ≠ 0 → k ≠ 52 → σ'.1 0 k = σ.1 0 k) ∧ (∀ b j, ¬ (b = 0 ∧ j = 54) → σ'.2.1 b j = σ.2.1 b j) ∧ σ'.2.2 = σ.2.2
theorem agS_M {σ σ' : FH} (h : agrM σ σ') : agS σ σ' := ⟨fun b h1 h2 h3 => h.1 b h2 h1 (fun q => h3 (Or.inl q)), fun k _ h2 => h.2.1 k h2, fun b j _ => by rw [h.2.2], by rw [h.2.2]⟩
theorem agS_33 {σ σ' : FH} (h : agr (fun b => b = 33) σ σ') : agS σ σ' := agS_M (agrM_33 h)
theorem agS_rf (σ : FH) : agS σ σ := ⟨fun _ _ _ _ => rfl, fun _ _ _ => rfl, fun _ _ _ => rfl, rfl⟩
theorem agS_tr {a b c : FH} (h : agS a b) (h' : agS b c) : agS a c := ⟨fun q h1 h2 h3 => (h'.1 q h1 h2 h3).trans (h.1 q h1 h2 h3), fun k h1 h2 => (h'.2.1 k h1 h2).trans (h.2.1 k h1 h2), fun b j h1 => (h'.2.2.1 b j h1).trans (h.2.2.1 b j h1), h'.2.2.2.trans h.2.2.2⟩
theorem RelA_st {r : AR} {ef : EF} {a a' : AS} {t d : AT} {n m : Nat} {σx σm σx' σm' : FH} (h : RelA r ef a t d n σx σm) (gx : agr (fun b => b = 7 ∨ b = 8 ∨ b = 9 ∨ scX b) σx σx') (gm : agS σm σm') (hs : SX σx' 7 a') (hm : SM σm' 33 0 a') (hb : SB r a' m) (hnm : n ≤ m) : RelA r ef a' t d m σx' σm' := by
  refine RelA_gen h (fun b h1 h2 h3 h4 => gx.1 b (by unfold scX at h4 ⊢; omega)) gx.2 (fun b h1 h2 h3 h4 => gm.1 b h1 h2 h4) (gm.2.1 1 (by omega) (by omega)) gm.2.2.1 hs hm hb ?_ hnm
  obtain ⟨-, -, -, -, -, -, -, -, -, -, -, -, -, -, -, -, -, -, h19, -⟩ := h
  exact UX_fr h19 (fun b h1 h2 => gx.1 b (by unfold scX; omega)) (gx.1 0 (by unfold scX; omega)) (gm.1 37 (by omega) (by omega) (by unfold scQ scrM; omega)) (gm.2.1 51 (by omega) (by omega)) hnm
theorem pastL : ∀ j, j < 16 → LX[51 + 3 * j]? = some (7, 0) := by decide +kernel
theorem keepA {r : AR} {ef : EF} {a : AS} {t d : AT} {n : Nat} {σx σm : FH} (h : RelA r ef a t d n σx σm) : ∃ σx1 σm1, fX11_keepPast σx = some σx1 ∧ fX12_keeps σm = some σm1 ∧ RelA r ef a t d n σx1 σm1 ∧ σx1.2 = σx.2 := by
  obtain ⟨h1, h2, h3, h4, h5, h6, h7, h8, h9, h10, h11, h12, h13, h14, h15, h16, h17, h18, ⟨c, nx, us, u1, u2, u3, u4, u5, u6⟩, h20⟩ := id h
  -- the class
  obtain ⟨σx1, e1, hs1, g1⟩ := x_copyOf h9 (pastL nx u2) (by omega)
  have hx : fX11_keepPast σx = some (fx_si (fx_si σx1 0 12 (nI ((nx + 1) % 16))) 0 11 (nI (min (c + 1) 16))) := by
    have e11 : (fx_si σx1 0 12 (nI ((nx + 1) % 16))).1 0 11 = nI c := by rw [si1, if_neg (by omega), g1.1 0 (by omega)]; exact u3
    unfold fX11_keepPast
    rw [u4, fxG_t (fx_inN u2 (by decide)), fx_clN (by omega), e1, fxBV_s, g1.1 0 (by omega), u4, nI_1, flN _ (by omega), fxBP_s, fxL_r, e11, nI_1, fxL_r, show (16 : Int32) = nI 16 from rfl, minN (by omega) (by omega)]
  have gx : agr (fun b => b = 0 ∨ (51 + 3 * nx ≤ b ∧ b ≤ 51 + 3 * nx + 2)) σx (fx_si (fx_si σx1 0 12 (nI ((nx + 1) % 16))) 0 11 (nI (min (c + 1) 16))) := agr_sit (Or.inl rfl) (agr_sit (Or.inl rfl) (agr_mono (fun q hq => Or.inr hq) g1))
  have hsN : SX (fx_si (fx_si σx1 0 12 (nI ((nx + 1) % 16))) 0 11 (nI (min (c + 1) 16))) (51 + 3 * nx) a := SX_agr (P := fun b => b = 0) hs1 (agr_sit rfl (agr_si rfl)) (fun i hi => by omega)
  -- the reference
  have hm : ∃ (σm1 : FH) (us' : Nat → AS), fX12_keeps σm = some σm1 ∧ agr (fun b => b = 37 ∨ b = 0) σm σm1 ∧ (∀ k, k ≠ 51 → σm1.1 0 k = σm.1 0 k) ∧ σm1.1 0 51 = nI (min (c + 1) 16) ∧ (∀ k, k < min (c + 1) 16 → SM σm1 37 (14 * k) (us' k) ∧ (k + 1 = min (c + 1) 16 → us' k = a) ∧ (k + 1 < min (c + 1) 16 → us' k = us (if c = 16 then k + 1 else k))) := by
    unfold fX12_keeps
    rw [fxL_r, u5]
    by_cases c16 : c = 16
    · subst c16
      rw [if_pos (by decide), fxL_r]
      obtain ⟨σ2, e2, g2, d2⟩ := m_shift (σ := σm) (fun σ9 => fxL (fx_si σ9 0 51 ((σ9.1 0 51) - 1)) <| fun σ10 => (fun σ2 => fxBV (fX12_copies 33 14 0 37 224 (14 * (σ2.1 0 51)) σ2) <| fun σ5 => fxL (fx_si σ5 0 51 ((σ5.1 0 51) + 1)) <| fun σ6 => some σ6) σ10) 210 FU 0 σm (by omega) (by decide) (agr_rf _ _) (fun _ _ => rfl) (fun k hk => absurd hk (by omega))
      have e51 : σ2.1 0 51 = nI 16 := by rw [g2.1 0 (by decide)]; exact u5
      have hsm : SM (fx_si σ2 0 51 (nI 15)) 33 0 a := fun k hk => by rw [fx_si_o (by decide), g2.1 33 (by decide)]; exact h10 k hk
      obtain ⟨σ3, e3, g3, o3, d3⟩ := m_copies (c2 := 37) (n1 := 14) (n2 := 224) (o2 := 210) hsm (by decide) (by decide) (by decide) (by decide) (by decide) rfl rfl
      refine ⟨fx_si σ3 0 51 (nI 16), fun k => if k = 15 then a else us (k + 1), ?_, ?_, fun k hk => ?_, ?_, fun k hk => ⟨?_, fun hk2 => ?_, fun hk2 => ?_⟩⟩
      · refine e2.trans ?_
        rw [fxL_r, e51, show nI 16 - 1 = nI 15 from rfl]
        show fxBV (fX12_copies 33 14 0 37 224 (14 * ((fx_si σ2 0 51 (nI 15)).1 0 51)) (fx_si σ2 0 51 (nI 15))) _ = _
        rw [si1, if_pos ⟨rfl, rfl⟩, show (14 : Int32) * nI 15 = nI 210 from rfl, show (0 : Int32) = nI 0 from rfl, e3, fxBV_s, fxL_r, g3.1 0 (by decide), si1, if_pos ⟨rfl, rfl⟩]
        rfl
      · exact agr_sit (Or.inr rfl) (agr_tr (agr_mono (fun q hq => Or.inl hq) g2) (agr_tr (agr_si (Or.inr rfl)) (agr_mono (fun q hq => Or.inl hq) g3)))
      · rw [si1, if_neg (by omega), g3.1 0 (by decide), si1, if_neg (by omega), g2.1 0 (by decide)]
      · rw [si1, if_pos ⟨rfl, rfl⟩]; rfl
      · intro j hj
        have hk' : k < 16 := by omega
        dsimp only
        rw [fx_si_o (by decide)]
        by_cases k15 : k = 15
        · subst k15
          exact d3 j hj
        · rw [o3 (14 * k + j) (by omega), fx_si_o (by decide), d2 (14 * k + j) (by omega), if_neg k15, show 14 * k + j + 14 = 14 * (k + 1) + j by omega]
          exact (u6 (k + 1) (by omega)).2.1 j hj
      · dsimp only
        rw [if_pos (by omega)]
      · dsimp only
        rw [if_neg (by omega), if_pos rfl]
    · have cne : ¬ nI c = 16 := fun q => c16 (nI_inj (b := 16) (by omega) (by decide) q)
      rw [if_neg cne]
      dsimp only
      obtain ⟨σ3, e3, g3, o3, d3⟩ := m_copies (c2 := 37) (n1 := 14) (n2 := 224) (o2 := 14 * c) h10 (by decide) (by decide) (by omega) (by decide) (by decide) rfl rfl
      refine ⟨fx_si σ3 0 51 (nI (c + 1)), fun k => if k = c then a else us k, ?_, ?_, fun k hk => ?_, ?_, fun k hk => ⟨?_, fun hk2 => ?_, fun hk2 => ?_⟩⟩
      · rw [u5, show (14 : Int32) * nI c = nI (14 * c) from pk_mul 14 c, show (0 : Int32) = nI 0 from rfl, e3, fxBV_s, fxL_r, g3.1 0 (by decide), u5, nI_1]
      · exact agr_sit (Or.inr rfl) (agr_mono (fun q hq => Or.inl hq) g3)
      · rw [si1, if_neg (by omega), g3.1 0 (by decide)]
      · rw [si1, if_pos ⟨rfl, rfl⟩, Nat.min_eq_left (by omega)]
      · intro j hj
        dsimp only
        rw [fx_si_o (by decide)]
        by_cases kc : k = c
        · subst kc
          rw [if_pos rfl]
          exact d3 j hj
        · rw [o3 (14 * k + j) (by omega), if_neg kc]
          exact (u6 k (by omega)).2.1 j hj
      · dsimp only
        rw [if_pos (by omega)]
      · dsimp only
        rw [if_neg (by omega), if_neg c16]
  obtain ⟨σm1, us', em, gm, gm0, gm51, hus⟩ := hm
  refine ⟨_, σm1, hx, em, ?_, gx.2⟩
  refine RelA_gen h (fun b b1 b2 b3 b4 => gx.1 b (by omega)) gx.2 (fun b b1 b2 b3 b4 => gm.1 b (by omega)) (gm0 1 (by omega)) (fun b j _ => by rw [gm.2]) (SX_agr h9 gx (fun i hi => by omega)) (fun k hk => by rw [gm.1 33 (by omega)]; exact h10 k hk) h11 ?_ (Nat.le_refl n)
  refine ⟨min (c + 1) 16, (nx + 1) % 16, us', Nat.min_le_right _ _, Nat.mod_lt _ (by decide), ?_, ?_, gm51, fun k hk => ?_⟩
  · rw [si1, if_pos ⟨rfl, rfl⟩]
  · rw [si1, if_neg (by omega), si1, if_pos ⟨rfl, rfl⟩]
  · obtain ⟨q1, q2, q3⟩ := hus k hk
    by_cases hk2 : k + 1 = min (c + 1) 16
    · rw [q2 hk2] at q1 ⊢
      refine ⟨?_, q1, h11⟩
      rw [show ((nx + 1) % 16 + 16 - min (c + 1) 16 + k) % 16 = nx by omega]
      exact hsN
    · rw [q3 (by omega)] at q1 ⊢
      have hidx : ((nx + 1) % 16 + 16 - min (c + 1) 16 + k) % 16 = (nx + 16 - c + (if c = 16 then k + 1 else k)) % 16 := by split <;> omega
      have hne : (nx + 16 - c + (if c = 16 then k + 1 else k)) % 16 ≠ nx := by split <;> omega
      have hlt : (if c = 16 then k + 1 else k) < c := by split <;> omega
      rw [hidx]
      refine ⟨SX_agr (u6 _ hlt).1 gx (fun i hi => by omega), q1, (u6 _ hlt).2.2⟩
