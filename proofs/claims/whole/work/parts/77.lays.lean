/-! ===== what reading leaves alone; a republic that was read is laid ===== -/
def relM (b j : Nat) : Prop := (b = 0 ∧ j = 51) ∨ (b = 2 ∧ j < 3) ∨ ((b = 5 ∨ b = 6 ∨ b = 7) ∧ j < 6) ∨ ((b = 8 ∨ b = 9) ∧ j < 5) ∨ ((b = 10 ∨ b = 11) ∧ j = 0) ∨ (b = 12 ∧ j < 1000) ∨ (b = 25 ∧ j < 5) ∨ (26 ≤ b ∧ b ≤ 29 ∧ j < 200) ∨ (30 ≤ b ∧ b ≤ 33) ∨ b = 36 ∨ b = 37 ∨ b = 38
theorem SX_pt {σ σ' : FH} {t : Nat} {a : AS} (h : SX σ t a) (e : ∀ b j, t ≤ b → b ≤ t + 2 → σ'.1 b j = σ.1 b j) : SX σ' t a := by
  obtain ⟨h1, h2, h3, h4, h5, h6⟩ := h
  exact ⟨h1, (e _ _ (by omega) (by omega)).trans h2, (e _ _ (by omega) (by omega)).trans h3, (e _ _ (by omega) (by omega)).trans h4, fun i hi => (e _ _ (by omega) (by omega)).trans (h5 i hi), fun p hp => (e _ _ (by omega) (by omega)).trans (h6 p hp)⟩
theorem RX_pt {σ σ' : FH} {T : Nat} {r : AR} (h : RX σ T r) (e : ∀ b j, T ≤ b → b ≤ T + 7 → σ'.1 b j = σ.1 b j) : RX σ' T r := by
  obtain ⟨h1, h2, h3, h4, h5, h6⟩ := h
  refine ⟨h1, (e _ _ (by omega) (by omega)).trans h2, (e _ _ (by omega) (by omega)).trans h3, (e _ _ (by omega) (by omega)).trans h4, fun i hi => ?_, fun p hp => ?_⟩
  · rw [e _ _ (by omega) (by omega), e _ _ (by omega) (by omega), e _ _ (by omega) (by omega)]; exact h5 i hi
  · rw [e _ _ (by omega) (by omega), e _ _ (by omega) (by omega)]; exact h6 p hp
theorem EX_pt {σ σ' : FH} {T : Nat} {ef : EF} (h : EX σ T ef) (e : ∀ b j, b = T + 8 ∨ b = T + 9 → σ'.1 b j = σ.1 b j) : EX σ' T ef := by
  intro so half votes date σ0 a1 a2 a3 a4 e1 e2
  exact h so half votes date σ0 a1 a2 a3 a4 (e1.trans (funext fun j => e _ j (Or.inl rfl))) (e2.trans (funext fun j => e _ j (Or.inr rfl)))
theorem EM_pt {σ σ' : FH} {ef : EF} (h : EM σ ef) (e : ∀ b j, relM b j → σ'.1 b j = σ.1 b j) : EM σ' ef := by
  intro so half votes date σ0 a1 a2 a3 a4 e1 e2 e3
  exact h so half votes date σ0 a1 a2 a3 a4 (e1.trans (e _ _ (by unfold relM; omega))) (e2.trans (e _ _ (by unfold relM; omega))) (fun k hk => (e3 k hk).trans (e _ _ (by unfold relM; omega)))
theorem Rel_fr {n : Nat} {σx σm σx' σm' : FH} (h : Rel n σx σm) (gx : ∀ b j, ¬ (b = 3 ∨ b = 4 ∨ (σx.2.2 3 ≤ b ∧ b ≤ σx.2.2 3 + 10) ∨ (σx.2.2 5 ≤ b ∧ b ≤ σx.2.2 5 + 4)) → σx'.1 b j = σx.1 b j) (gl : ∀ b j, ¬ (b = 3 ∨ (σx.2.2 3 ≤ b ∧ b ≤ σx.2.2 3 + 10)) → σx'.2.1 b j = σx.2.1 b j) (gr : σx'.2.2 = σx.2.2) (gm : ∀ b j, relM b j → σm'.1 b j = σm.1 b j) (gml : ∀ b j, (b = 3 ∧ j < 6) ∨ (b = 4 ∧ j < 5) → σm'.2.1 b j = σm.2.1 b j) (hp : PX σx' σm') : Rel n σx' σm' := by
  obtain ⟨r, ef, a, t, d, h1, h2, h3, h4, h5, h6, h7, h8, h9, h10, h11, h12, h13, h14, h15, h16, h17, h18, h19, h20⟩ := h
  have hM := h1
  unfold MV at hM
  have B1 := h2.1
  have B2 := h2.2.1
  have hx : ∀ b j, (b = 0 ∨ (7 ≤ b ∧ b ≤ 9) ∨ (13 ≤ b ∧ b ≤ 15) ∨ (σx.2.2 2 ≤ b ∧ b ≤ σx.2.2 2 + 9) ∨ (σx.2.2 4 ≤ b ∧ b ≤ σx.2.2 4 + 4) ∨ 51 ≤ b) → σx'.1 b j = σx.1 b j := fun b j z => gx b j (by omega)
  have hxl : ∀ b j, (σx.2.2 2 ≤ b ∧ b ≤ σx.2.2 2 + 9) → σx'.2.1 b j = σx.2.1 b j := fun b j z => gl b j (by omega)
  have hTM : ∀ o t', o ≤ 4 → TB r t' → TM σm o t' → TM σm' o t' := fun o t' ho hb hh => TM_fr hh hb (gm _ _ (by unfold relM; omega)) (fun b b1 b2 k hk => gm _ _ (by unfold relM; omega))
  have hDM : ∀ o d', DB d' → DM σm o d' → DM σm' o d' := fun o d' hb hh => DM_fr hh hb (gm _ _ (by unfold relM; omega)) (fun b b1 b2 k hk => gm _ _ (by unfold relM; omega))
  have hSM : ∀ c o a', c = 33 ∨ c = 36 ∨ c = 37 → SM σm c o a' → SM σm' c o a' := fun c o a' hc hh k hk => (gm _ _ (by unfold relM; omega)).trans (hh k hk)
  have hTX : ∀ c t', (σx.2.2 4 ≤ c ∧ c + 4 ≤ σx.2.2 4 + 4) ∨ 51 ≤ c → TX σx c t' → TX σx' c t' := fun c t' hc hh => TX_fr hh (fun i hi => funext fun j => hx _ _ (by omega))
  have hDX : ∀ c d', c = 13 ∨ 51 ≤ c → DX σx c d' → DX σx' c d' := fun c d' hc hh => DX_fr hh (fun i hi => funext fun j => hx _ _ (by omega))
  have hSX : ∀ c a', c = 7 ∨ 51 ≤ c → SX σx c a' → SX σx' c a' := fun c a' hc hh => SX_pt hh (fun b j b1 b2 => hx _ _ (by omega))
  unfold Rel MV
  rw [gr]
  refine ⟨r, ef, a, t, d, h1, h2, h3, RX_pt h4 (fun b j b1 b2 => hx _ _ (by omega)), EX_pt h5 (fun b j z => hx _ _ (by omega)), ?_, EM_pt h7 gm, ?_, hSX 7 a (Or.inl rfl) h9, hSM 33 0 a (by omega) h10, h11, hTX _ t (by omega) h12, hTM 0 t (by omega) h14 h13, h14, hDX 13 d (Or.inl rfl) h15, hDM 0 d h17 h16, h17, hp, ?_, ?_⟩
  · obtain ⟨y1, y2, y3, y4, y5⟩ := h6
    refine ⟨(gm _ _ (by unfold relM; omega)).trans y1, (gm _ _ (by unfold relM; omega)).trans y2, (gm _ _ (by unfold relM; omega)).trans y3, fun i hi => ?_, fun p hp => ?_⟩
    · rw [gm _ _ (by unfold relM; omega), gm _ _ (by unfold relM; omega), gm _ _ (by unfold relM; omega)]; exact y4 i hi
    · rw [gm _ _ (by unfold relM; omega), gm _ _ (by unfold relM; omega)]; exact y5 p hp
  · obtain ⟨wn, pn, n1, n2⟩ := h8
    refine ⟨wn, pn, fun i hi => ?_, fun p hp => ?_⟩
    · rw [hxl _ _ (by omega), gml 3 i (by omega)]; exact n1 i hi
    · rw [hxl _ _ (by omega), gml 4 p (by omega)]; exact n2 p hp
  · obtain ⟨c, nx, us, u1, u2, u3, u4, u5, u6⟩ := h19
    exact ⟨c, nx, us, u1, u2, (hx _ _ (by omega)).trans u3, (hx _ _ (by omega)).trans u4, (gm _ _ (by unfold relM; omega)).trans u5, fun k hk => ⟨hSX _ _ (by omega) (u6 k hk).1, hSM _ _ _ (by omega) (u6 k hk).2.1, (u6 k hk).2.2⟩⟩
  · intro j hj
    obtain ⟨f, f1, f2, f3, f4⟩ := h20 j hj
    refine ⟨f, f1, (hx _ _ (by omega)).trans f2, (gm _ _ (by unfold relM; omega)).trans f3, fun hf => ?_⟩
    obtain ⟨a', t', d', m1, m2, m3, m4, m5, m6, m7, m8, m9⟩ := f4 hf
    exact ⟨a', t', d', hSX _ _ (by omega) m1, hSM _ _ _ (by omega) m2, m3, hTX _ _ (by omega) m4, hTM _ _ (by omega) m6 m5, m6, hDX _ _ (by omega) m7, hDM _ _ m9 m8, m9⟩
/-- rows are shifted -/
theorem m_shl {c N m0 : Nat} (hN : 2 * m0 ≤ N) (h2 : N ≤ 2000) (K : FH → Option FH) : ∀ (m n i : Nat) (σ1 : FH), i + m = m0 → m < n → ∃ σ', fX12_shifts_2 c N (nI m0) K n (nI i) σ1 = K σ' ∧ (∀ k, k < m0 → σ'.1 c k = if k < i then σ1.1 c k else σ1.1 c (m0 + k)) ∧ (∀ b j, ¬ (b = c ∧ j < m0) → σ'.1 b j = σ1.1 b j) ∧ σ'.2 = σ1.2
  | m, 0, i, σ1, _, h => absurd h (by omega)
  | 0, n + 1, i, σ1, h, _ => by
    refine ⟨σ1, ?_, fun k hk => by rw [if_pos (by omega)], fun _ _ _ => rfl, rfl⟩
    rw [fX12_shifts_2, if_pos (nI_le (by omega) (by omega))]
  | m + 1, n + 1, i, σ1, h, h3 => by
    obtain ⟨σ', e, f, o, l⟩ := m_shl hN h2 K m n (i + 1) (fx_si σ1 c i (σ1.1 c (m0 + i))) (by omega) (by omega)
    refine ⟨σ', ?_, fun k hk => ?_, fun b j z => ?_, l⟩
    · rw [fX12_shifts_2, if_neg (le_no (by omega) (by omega)), nI_add, fxG_t (fx_inN (by omega) (by omega)), fxG_t (fx_inN (by omega) (by omega)), fx_clN (by omega), fx_clN (by omega), fxL_r, nI_1]
      exact e
    · rw [f k hk]
      by_cases c1 : k < i
      · rw [if_pos (by omega), if_pos c1, si1n _ (by omega)]
      · by_cases c2 : k = i
        · rw [c2, if_pos (by omega), if_neg (by omega), si1s]
        · rw [if_neg (by omega), if_neg c1, si1n _ (by omega)]
    · rw [o b j z, si1n _ (by omega)]
theorem m_sh {c N m0 : Nat} {σ : FH} (hL : LM[c]? = some (20, N)) (hN : 2 * m0 ≤ N) (h2 : N ≤ 2000) {x : Int32} (hx : x = nI m0) : ∃ σ', fX12_shifts c N x σ = some σ' ∧ (∀ k, k < m0 → σ'.1 c k = σ.1 c (m0 + k)) ∧ (∀ b j, b ≠ c → σ'.1 b j = σ.1 b j) ∧ σ'.2 = σ.2 := by
  obtain ⟨σ', e, f, o, l⟩ := m_shl (c := c) hN h2 (fun σ2 => some σ2) m0 FU 0 σ (by omega) (by unfold FU; omega)
  refine ⟨σ', ?_, fun k hk => by rw [f k hk, if_neg (by omega)], fun b j z => o b j (by omega), l⟩
  unfold fX12_shifts
  rw [fxG_t hL, fxL_r, hx]
  exact e
theorem m_shNl {c N m0 : Nat} (hN : 2 * m0 ≤ N) (h2 : N ≤ 2000) (K : FH → Option FH) : ∀ (m n i : Nat) (σ1 : FH), i + m = m0 → m < n → ∃ σ', fX12_shiftsNames_2 c N (nI m0) K n (nI i) σ1 = K σ' ∧ (∀ k, k < m0 → σ'.2.1 c k = if k < i then σ1.2.1 c k else σ1.2.1 c (m0 + k)) ∧ (∀ b j, ¬ (b = c ∧ j < m0) → σ'.2.1 b j = σ1.2.1 b j) ∧ σ'.1 = σ1.1 ∧ σ'.2.2 = σ1.2.2
  | m, 0, i, σ1, _, h => absurd h (by omega)
  | 0, n + 1, i, σ1, h, _ => by
    refine ⟨σ1, ?_, fun k hk => by rw [if_pos (by omega)], fun _ _ _ => rfl, rfl, rfl⟩
    rw [fX12_shiftsNames_2, if_pos (nI_le (by omega) (by omega))]
  | m + 1, n + 1, i, σ1, h, h3 => by
    obtain ⟨σ', e, f, o, l⟩ := m_shNl hN h2 K m n (i + 1) (fx_sl σ1 c i (σ1.2.1 c (m0 + i))) (by omega) (by omega)
    refine ⟨σ', ?_, fun k hk => ?_, fun b j z => ?_, l⟩
    · rw [fX12_shiftsNames_2, if_neg (le_no (by omega) (by omega)), nI_add, fxG_t (fx_inN (by omega) (by omega)), fxG_t (fx_inN (by omega) (by omega)), fx_clN (by omega), fx_clN (by omega), fxL_r, nI_1]
      exact e
    · rw [f k hk]
      by_cases c1 : k < i
      · rw [if_pos (by omega), if_pos c1, sl2n _ (by omega)]
      · by_cases c2 : k = i
        · rw [c2, if_pos (by omega), if_neg (by omega), sl2s]
        · rw [if_neg (by omega), if_neg c1, sl2n _ (by omega)]
    · rw [o b j z, sl2n _ (by omega)]
theorem m_shN {c N m0 : Nat} {σ : FH} (hL : LM[c]? = some (21, N)) (hN : 2 * m0 ≤ N) (h2 : N ≤ 2000) {x : Int32} (hx : x = nI m0) : ∃ σ', fX12_shiftsNames c N x σ = some σ' ∧ (∀ k, k < m0 → σ'.2.1 c k = σ.2.1 c (m0 + k)) ∧ (∀ b j, b ≠ c → σ'.2.1 b j = σ.2.1 b j) ∧ σ'.1 = σ.1 ∧ σ'.2.2 = σ.2.2 := by
  obtain ⟨σ', e, f, o, l1, l2⟩ := m_shNl (c := c) hN h2 (fun σ2 => some σ2) m0 FU 0 σ (by omega) (by unfold FU; omega)
  refine ⟨σ', ?_, fun k hk => by rw [f k hk, if_neg (by omega)], fun b j z => o b j (by omega), l1, l2⟩
  unfold fX12_shiftsNames
  rw [fxG_t hL, fxL_r, hx]
  exact e
theorem m_lays (σ : FH) : ∃ σ', fX12_lays σ = some σ' ∧ (∀ k, k < 3 → σ'.1 2 k = σ.1 2 (3 + k)) ∧ (∀ b k, b = 5 ∨ b = 6 ∨ b = 7 → k < 6 → σ'.1 b k = σ.1 b (6 + k)) ∧ (∀ b k, b = 8 ∨ b = 9 → k < 5 → σ'.1 b k = σ.1 b (5 + k)) ∧ (∀ k, k < 1000 → σ'.1 12 k = σ.1 12 (1000 + k)) ∧ σ'.1 10 0 = σ.1 10 1 - 1000 ∧ σ'.1 11 0 = σ.1 11 1 - 1000 ∧ (∀ k, k < 6 → σ'.2.1 3 k = σ.2.1 3 (6 + k)) ∧ (∀ k, k < 5 → σ'.2.1 4 k = σ.2.1 4 (5 + k)) ∧ (∀ b j, (b < 2 ∨ 12 < b) → σ'.1 b j = σ.1 b j) ∧ σ'.2.2 = σ.2.2 := by
  obtain ⟨s1, e1, f1, o1, l1⟩ := m_sh (c := 2) (N := 6) (m0 := 3) (σ := σ) rfl (by decide) (by decide) (x := 3) rfl
  obtain ⟨s2, e2, f2, o2, l2, r2⟩ := m_shN (c := 3) (N := 12) (m0 := 6) (σ := s1) rfl (by decide) (by decide) (x := 6) rfl
  obtain ⟨s3, e3, f3, o3, l3, r3⟩ := m_shN (c := 4) (N := 10) (m0 := 5) (σ := s2) rfl (by decide) (by decide) (x := 5) rfl
  obtain ⟨s4, e4, f4, o4, l4⟩ := m_sh (c := 5) (N := 12) (m0 := 6) (σ := s3) rfl (by decide) (by decide) (x := 6) rfl
  obtain ⟨s5, e5, f5, o5, l5⟩ := m_sh (c := 6) (N := 12) (m0 := 6) (σ := s4) rfl (by decide) (by decide) (x := 6) rfl
  obtain ⟨s6, e6, f6, o6, l6⟩ := m_sh (c := 7) (N := 12) (m0 := 6) (σ := s5) rfl (by decide) (by decide) (x := 6) rfl
  obtain ⟨s7, e7, f7, o7, l7⟩ := m_sh (c := 8) (N := 10) (m0 := 5) (σ := s6) rfl (by decide) (by decide) (x := 5) rfl
  obtain ⟨s8, e8, f8, o8, l8⟩ := m_sh (c := 9) (N := 10) (m0 := 5) (σ := s7) rfl (by decide) (by decide) (x := 5) rfl
  obtain ⟨s9, e9, f9, o9, l9⟩ := m_sh (c := 12) (N := 2000) (m0 := 1000) (σ := s8) rfl (by decide) (by decide) (x := 1000) rfl
  have OO : ∀ b j, b ≠ 2 → b ≠ 5 → b ≠ 6 → b ≠ 7 → b ≠ 8 → b ≠ 9 → b ≠ 12 → s9.1 b j = σ.1 b j := fun b j z2 z5 z6 z7 z8 z9 z12 => by rw [o9 b j z12, o8 b j z9, o7 b j z8, o6 b j z7, o5 b j z6, o4 b j z5, l3, l2, o1 b j z2]
  have LL : s9.2 = s3.2 := by rw [l9, l8, l7, l6, l5, l4]
  refine ⟨fx_si (fx_si s9 10 0 (σ.1 10 1 - 1000)) 11 0 (σ.1 11 1 - 1000), ?_, fun k hk => ?_, fun b k hb hk => ?_, fun b k hb hk => ?_, fun k hk => ?_, ?_, ?_, fun k hk => ?_, fun k hk => ?_, fun b j hb => ?_, ?_⟩
  · unfold fX12_lays
    rw [e1, fxBV_s, e2, fxBV_s, e3, fxBV_s, e4, fxBV_s, e5, fxBV_s, e6, fxBV_s, e7, fxBV_s, e8, fxBV_s, e9, fxBV_s, fxG_t (by decide), fxG_t (by decide), show Int32.toNatClampNeg 1 = 1 from by decide, show Int32.toNatClampNeg 0 = 0 from by decide, OO 10 1 (by decide) (by decide) (by decide) (by decide) (by decide) (by decide) (by decide), fxL_r, fxG_t (by decide), fxG_t (by decide), si1n _ (by decide), OO 11 1 (by decide) (by decide) (by decide) (by decide) (by decide) (by decide) (by decide), fxL_r]
  · rw [si1n _ (by omega), si1n _ (by omega), o9 _ _ (by omega), o8 _ _ (by omega), o7 _ _ (by omega), o6 _ _ (by omega), o5 _ _ (by omega), o4 _ _ (by omega), l3, l2, f1 k hk]
  · rw [si1n _ (by omega), si1n _ (by omega), o9 _ _ (by omega), o8 _ _ (by omega), o7 _ _ (by omega)]
    rcases hb with rfl | rfl | rfl
    · rw [o6 _ _ (by decide), o5 _ _ (by decide), f4 k hk, l3, l2, o1 _ _ (by decide)]
    · rw [o6 _ _ (by decide), f5 k hk, o4 _ _ (by decide), l3, l2, o1 _ _ (by decide)]
    · rw [f6 k hk, o5 _ _ (by decide), o4 _ _ (by decide), l3, l2, o1 _ _ (by decide)]
  · rw [si1n _ (by omega), si1n _ (by omega), o9 _ _ (by omega)]
    rcases hb with rfl | rfl
    · rw [o8 _ _ (by decide), f7 k hk, o6 _ _ (by decide), o5 _ _ (by decide), o4 _ _ (by decide), l3, l2, o1 _ _ (by decide)]
    · rw [f8 k hk, o7 _ _ (by decide), o6 _ _ (by decide), o5 _ _ (by decide), o4 _ _ (by decide), l3, l2, o1 _ _ (by decide)]
  · rw [si1n _ (by omega), si1n _ (by omega), f9 k hk, o8 _ _ (by decide), o7 _ _ (by decide), o6 _ _ (by decide), o5 _ _ (by decide), o4 _ _ (by decide), l3, l2, o1 _ _ (by decide)]
  · rw [si1n _ (by omega), si1s]
  · rw [si1s]
  · rw [si2, si2, LL, o3 _ _ (by decide), f2 k hk, l1]
  · rw [si2, si2, LL, f3 k hk, o2 _ _ (by decide), l1]
  · rw [si1n _ (by omega), si1n _ (by omega), OO b j (by omega) (by omega) (by omega) (by omega) (by omega) (by omega) (by omega)]
  · rw [si2, si2, LL, r3, r2, l1]
/-- marks are taken away -/
theorem x_unmark (K : FH → Option FH) : ∀ (m n i : Nat) (σ1 : FH), i + m = 4 → m < n → ∃ σ', fX11_settle_52 K n (nI i) σ1 = K σ' ∧ (∀ k, k < 4 → (i ≤ k ∨ σ1.1 (99 + 13 * k) 0 = 0) → σ'.1 (99 + 13 * k) 0 = 0) ∧ (∀ b j, b < 99 → σ'.1 b j = σ1.1 b j) ∧ σ'.2 = σ1.2
  | m, 0, i, σ1, _, h => absurd h (by omega)
  | 0, n + 1, i, σ1, h, _ => by
    refine ⟨σ1, ?_, fun k hk z => z.resolve_left (by omega), fun _ _ _ => rfl, rfl⟩
    rw [fX11_settle_52, if_pos (show (4 : Int32) ≤ nI i from nI_le (a := 4) (by omega) (by omega))]
  | m + 1, n + 1, i, σ1, h, h3 => by
    obtain ⟨σ', e, f, o, l⟩ := x_unmark K m n (i + 1) (fx_si σ1 (99 + 13 * i) 0 0) (by omega) (by omega)
    refine ⟨σ', ?_, fun k hk z => f k hk ?_, fun b j z => by rw [o b j z, si1n _ (by omega)], l⟩
    · rw [fX11_settle_52, if_neg (show ¬ (4 : Int32) ≤ nI i from le_no (b := 4) (by omega) (by decide)), fxG_t (fx_inN (by omega) (by decide)), fx_clN (by omega), fxL_r, nI_1]
      exact e
    · by_cases c : k = i
      · right; rw [c, si1s]
      · rcases z with z | z
        · left; omega
        · right; rw [si1n _ (by omega)]; exact z
theorem m_unmark (K : FH → Option (Int32 × FH)) : ∀ (m n i : Nat) (σ1 : FH), i + m = 4 → m < n → ∃ σ', fX12_republic_46 K n (nI i) σ1 = K σ' ∧ (∀ k, k < 4 → (i ≤ k ∨ σ1.1 38 k = 0) → σ'.1 38 k = 0) ∧ (∀ b j, b ≠ 38 → σ'.1 b j = σ1.1 b j) ∧ σ'.2 = σ1.2
  | m, 0, i, σ1, _, h => absurd h (by omega)
  | 0, n + 1, i, σ1, h, _ => by
    refine ⟨σ1, ?_, fun k hk z => z.resolve_left (by omega), fun _ _ _ => rfl, rfl⟩
    rw [fX12_republic_46, if_pos (show (4 : Int32) ≤ nI i from nI_le (a := 4) (by omega) (by omega))]
  | m + 1, n + 1, i, σ1, h, h3 => by
    obtain ⟨σ', e, f, o, l⟩ := m_unmark K m n (i + 1) (fx_si σ1 38 i 0) (by omega) (by omega)
    refine ⟨σ', ?_, fun k hk z => f k hk ?_, fun b j z => by rw [o b j z, si1n _ (by omega)], l⟩
    · rw [fX12_republic_46, if_neg (show ¬ (4 : Int32) ≤ nI i from le_no (b := 4) (by omega) (by decide)), fxG_t (fx_inN (by omega) (by decide)), fx_clN (by omega), nar0, fxL_r, nI_1]
      exact e
    · by_cases c : k = i
      · right; rw [c, si1s]
      · rcases z with z | z
        · left; omega
        · right; rw [si1n _ (by omega)]; exact z
