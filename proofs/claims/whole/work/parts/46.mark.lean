/-! ===== marks ===== -/
theorem dis88 : ∀ t, t < 151 → ∀ T, T < 151 → (LX[t]? == some (8, 0) && LX[T]? == some (8, 0)) = true → t = T ∨ t + 4 < T ∨ T + 4 < t := by decide +kernel
theorem dis66 : ∀ t, t < 151 → ∀ T, T < 151 → (LX[t]? == some (6, 0) && LX[T]? == some (6, 0)) = true → t = T ∨ t + 3 < T ∨ T + 3 < t := by decide +kernel
theorem lt40 {a : Nat} (h : a < 40) : ¬ (40 : Int32) ≤ nI a := by rw [show (40 : Int32) = nI 40 from rfl, nI_leI (by omega) (by omega)]; omega
theorem x_tput {σ : FH} {t i : Nat} (ht : LX[t]? = some (8, 0)) (h0 : σ.1 t 0 = nI i) (hi : i < 40) (x y z w : Int32) : ∃ σ', fX8_put t x y z w σ = some σ' ∧ σ'.1 t 0 = nI (i + 1) ∧ (∀ q k, 1 ≤ q → q ≤ 4 → k ≠ i → σ'.1 (t + q) k = σ.1 (t + q) k) ∧ σ'.1 (t + 1) i = x ∧ σ'.1 (t + 2) i = y ∧ σ'.1 (t + 3) i = z ∧ σ'.1 (t + 4) i = w ∧ agr (fun b => t ≤ b ∧ b ≤ t + 4) σ σ' := by
  unfold fX8_put
  rw [fxG_t ht, h0, if_neg (nI_pos (by omega)), if_neg (lt40 hi), fxG_t (fx_inN hi (by decide)), fx_clN (by omega), fxL_r, fx_si_o (b := t) (by omega), h0, fxG_t (fx_inN hi (by decide)), fx_clN (by omega), fxL_r, fx_si_o (b := t) (by omega), fx_si_o (b := t) (by omega), h0, fxG_t (fx_inN hi (by decide)), fx_clN (by omega), fxL_r, fx_si_o (b := t) (by omega), fx_si_o (b := t) (by omega), fx_si_o (b := t) (by omega), h0, fxG_t (fx_inN hi (by decide)), fx_clN (by omega), fxL_r, fx_si_o (b := t) (by omega), fx_si_o (b := t) (by omega), fx_si_o (b := t) (by omega), fx_si_o (b := t) (by omega), h0, nI_1, fxL_r]
  refine ⟨_, rfl, ?_, fun q k h1 h4 hk => ?_, ?_, ?_, ?_, ?_, agr_sit ⟨by omega, by omega⟩ (agr_sit ⟨by omega, by omega⟩ (agr_sit ⟨by omega, by omega⟩ (agr_sit ⟨by omega, by omega⟩ (agr_si ⟨by omega, by omega⟩))))⟩
  · rw [si1, if_pos ⟨rfl, rfl⟩]
  · rw [si1, if_neg (by omega), si1, if_neg (by omega), si1, if_neg (by omega), si1, if_neg (by omega), si1, if_neg (by omega)]
  · rw [fx_si_o (by omega), fx_si_o (by omega), fx_si_o (by omega), fx_si_o (by omega), si1, if_pos ⟨rfl, rfl⟩]
  · rw [fx_si_o (by omega), fx_si_o (by omega), fx_si_o (by omega), si1, if_pos ⟨rfl, rfl⟩]
  · rw [fx_si_o (by omega), fx_si_o (by omega), si1, if_pos ⟨rfl, rfl⟩]
  · rw [fx_si_o (by omega), si1, if_pos ⟨rfl, rfl⟩]
theorem x_tcopy_loop {σ : FH} {t u : Nat} {N : Nat} (ht : LX[t]? = some (8, 0)) (hd : t + 4 < u ∨ u + 4 < t) (hN : N ≤ 40) (hu : σ.1 u 0 = nI N) (K : FH → Option FH) : ∀ (m n i : Nat) (σ1 : FH), i + m = N → m < n → σ1.1 t 0 = nI i → agr (fun b => t ≤ b ∧ b ≤ t + 4) σ σ1 → (∀ q k, 1 ≤ q → q ≤ 4 → k < i → σ1.1 (t + q) k = σ.1 (u + q) k) →
    ∃ σ', fX8_copyOf_7 t u K n (nI i) σ1 = K σ' ∧ σ'.1 t 0 = nI N ∧ agr (fun b => t ≤ b ∧ b ≤ t + 4) σ σ' ∧ (∀ q k, 1 ≤ q → q ≤ 4 → k < N → σ'.1 (t + q) k = σ.1 (u + q) k)
  | m, 0, i, σ1, _, h2, _, _, _ => absurd h2 (by omega)
  | 0, n + 1, i, σ1, h1, _, hc, g1, hq => by
    obtain rfl : i = N := by omega
    refine ⟨σ1, ?_, hc, g1, hq⟩
    rw [fX8_copyOf_7, g1.1 u (by omega), hu, if_pos (nI_le (Nat.le_refl _) (by omega))]
  | m + 1, n + 1, i, σ1, h1, h2, hc, g1, hq => by
    obtain ⟨σ2, e2, c2, f2, w1, w2, w3, w4, g2⟩ := x_tput ht hc (by omega : i < 40) (σ1.1 (u + 1) i) (σ1.1 (u + 2) i) (σ1.1 (u + 3) i) (σ1.1 (u + 4) i)
    obtain ⟨σ', e', c', g', f'⟩ := x_tcopy_loop ht hd hN hu K m n (i + 1) σ2 (by omega) (by omega) c2 (agr_tr g1 g2) (fun q k h1 h4 hk => by
      by_cases hki : k = i
      · subst hki
        rcases (show q = 1 ∨ q = 2 ∨ q = 3 ∨ q = 4 by omega) with rfl | rfl | rfl | rfl
        · rw [w1, g1.1 _ (by omega)]
        · rw [w2, g1.1 _ (by omega)]
        · rw [w3, g1.1 _ (by omega)]
        · rw [w4, g1.1 _ (by omega)]
      · rw [f2 q k h1 h4 hki]; exact hq q k h1 h4 (by omega))
    refine ⟨σ', ?_, c', g', f'⟩
    rw [fX8_copyOf_7, g1.1 u (by omega), hu, if_neg (by rw [nI_leI (by omega) (by omega)]; omega), fxG_t (fx_inN (by omega) (by decide)), fxG_t (fx_inN (by omega) (by decide)), fxG_t (fx_inN (by omega) (by decide)), fxG_t (fx_inN (by omega) (by decide)), fx_clN (by omega), e2, fxBV_s, nI_1]
    exact e'
theorem x_tcopyOf {σ : FH} {t u : Nat} {tt : AT} {r : AR} (hu : TX σ u tt) (hb : TB r tt) (ht : LX[t]? = some (8, 0)) (hne : t ≠ u) : ∃ σ', fX8_copyOf t u σ = some σ' ∧ TX σ' t tt ∧ agr (fun b => t ≤ b ∧ b ≤ t + 4) σ σ' := by
  have hd := dis88 t (fx_len ht) u (fx_len hu.1) (by rw [ht, hu.1]; rfl)
  have g0 : agr (fun b => t ≤ b ∧ b ≤ t + 4) σ (fx_si σ t 0 0) := agr_si ⟨Nat.le_refl _, by omega⟩
  obtain ⟨σ', e', c', g', f'⟩ := x_tcopy_loop (σ := σ) ht (by omega) hb.1 hu.2.1 (fun σ3 => some σ3) (tt 0 0) FU 0 (fx_si σ t 0 0) (by omega) (by unfold FU; have := hb.1; omega) (by rw [si1, if_pos ⟨rfl, rfl⟩]; rfl) g0 (fun q k h1 h4 hk => absurd hk (by omega))
  refine ⟨σ', ?_, ⟨ht, c', fun k hk => ?_⟩, g'⟩
  · unfold fX8_copyOf
    rw [fxG_t ht, fxG_t hu.1, fxL_r, fxL_r]
    exact e'
  · rw [f' 1 k (by omega) (by omega) hk, f' 2 k (by omega) (by omega) hk, f' 3 k (by omega) (by omega) hk, f' 4 k (by omega) (by omega) hk]
    exact hu.2.2 k hk
theorem x_dcopy_loop {σ : FH} {t u : Nat} {d : AT} (hu : DX σ u d) (hb : DB d) (ht : LX[t]? = some (6, 0)) (hd : t + 3 < u ∨ u + 3 < t) (K : FH → Option FH) : ∀ (m n i : Nat) (σ1 : FH), i + m = d 0 0 → m < n → DX σ1 t (fun q k => if q = 0 then i else d q k) → agr (fun b => t ≤ b ∧ b ≤ t + 2) σ σ1 →
    ∃ σ', fX6_copyOf_7 t u K n (nI i) σ1 = K σ' ∧ DX σ' t d ∧ agr (fun b => t ≤ b ∧ b ≤ t + 2) σ σ'
  | m, 0, i, σ1, _, h2, _, _ => absurd h2 (by omega)
  | 0, n + 1, i, σ1, h1, _, hc, g1 => by
    have hi : i = d 0 0 := by omega
    subst hi
    refine ⟨σ1, ?_, ⟨hc.1, hc.2.1, fun k hk => hc.2.2 k hk⟩, g1⟩
    have := hb.1
    rw [fX6_copyOf_7, g1.1 u (by omega), hu.2.1, if_pos (nI_le (Nat.le_refl _) (by omega))]
  | m + 1, n + 1, i, σ1, h1, h2, hc, g1 => by
    have h8 := hb.1
    have hB := hb.2 i (by omega)
    obtain ⟨σ2, e2, d2, g2⟩ := x_put (w := d 1 i) (f := d 2 i) hc ⟨(by show i ≤ 8; omega), fun k hk => by have hk' : k < i := hk; have := hb.2 k (by omega); exact this⟩ hB.2 (by show i < 8; omega)
    obtain ⟨σ', e', d', g'⟩ := x_dcopy_loop hu hb ht hd K m n (i + 1) σ2 (by omega) (by omega) (by
      refine ⟨d2.1, d2.2.1, fun k hk => ?_⟩
      have hk' : k < i + 1 := hk
      have := d2.2.2 k (by show k < i + 1; exact hk')
      by_cases q : k = i
      · subst q
        simpa [dput] using this
      · simpa [dput, q] using this) (agr_tr g1 (agr_mono (fun q hq => by omega) g2))
    refine ⟨σ', ?_, d', g'⟩
    rw [fX6_copyOf_7, g1.1 u (by omega), hu.2.1, if_neg (by rw [nI_leI (by omega) (by omega)]; omega), fxG_t (fx_inN (by omega) (by decide)), fxG_t (fx_inN (by omega) (by decide)), fx_clN (by omega), g1.1 (u + 1) (by omega), g1.1 (u + 2) (by omega), (hu.2.2 i (by omega)).1, (hu.2.2 i (by omega)).2, e2, fxBI_s, nI_1]
    exact e'
theorem x_dcopyOf {σ : FH} {t u : Nat} {d : AT} (hu : DX σ u d) (hb : DB d) (ht : LX[t]? = some (6, 0)) (hne : t ≠ u) : ∃ σ', fX6_copyOf t u σ = some σ' ∧ DX σ' t d ∧ agr (fun b => t ≤ b ∧ b ≤ t + 2) σ σ' := by
  have hd := dis66 t (fx_len ht) u (fx_len hu.1) (by rw [ht, hu.1]; rfl)
  have g0 : agr (fun b => t ≤ b ∧ b ≤ t + 2) σ (fx_si σ t 0 0) := agr_si ⟨Nat.le_refl _, by omega⟩
  obtain ⟨σ', e', d', g'⟩ := x_dcopy_loop hu hb ht (by omega) (fun σ3 => some σ3) (d 0 0) FU 0 (fx_si σ t 0 0) (by omega) (by unfold FU; have := hb.1; omega) ⟨ht, by rw [si1, if_pos ⟨rfl, rfl⟩]; rfl, fun k hk => absurd hk (Nat.not_lt_zero k)⟩ g0
  refine ⟨σ', ?_, d', g'⟩
  unfold fX6_copyOf
  rw [fxG_t ht, fxG_t hu.1, fxL_r, fxL_r]
  exact e'
theorem mul40 (o i : Nat) : (40 : Int32) * nI o + nI i = nI (40 * o + i) := by rw [show (40 : Int32) * nI o = nI (40 * o) from pk_mul 40 o, nI_add]
theorem mul8 (o i : Nat) : (8 : Int32) * nI o + nI i = nI (8 * o + i) := by rw [show (8 : Int32) * nI o = nI (8 * o) from pk_mul 8 o, nI_add]
theorem m_lines_loop {σ : FH} {o1 o2 : Nat} (h1 : o1 < 6) (h2 : o2 < 6) (hne : o1 ≠ o2) (K : FH → Option FH) : ∀ (m n i : Nat) (σ1 : FH), i + m = 40 → m < n → agr (fun b => 26 ≤ b ∧ b ≤ 29) σ σ1 → (∀ b k, 26 ≤ b → b ≤ 29 → (k < 40 * o2 ∨ 40 * o2 + i ≤ k) → σ1.1 b k = σ.1 b k) → (∀ b k, 26 ≤ b → b ≤ 29 → k < i → σ1.1 b (40 * o2 + k) = σ.1 b (40 * o1 + k)) →
    ∃ σ', fX12_laysLines_14 (nI o1) (nI o2) K n (nI i) σ1 = K σ' ∧ agr (fun b => 26 ≤ b ∧ b ≤ 29) σ σ' ∧ (∀ b k, 26 ≤ b → b ≤ 29 → (k < 40 * o2 ∨ 40 * o2 + 40 ≤ k) → σ'.1 b k = σ.1 b k) ∧ (∀ b k, 26 ≤ b → b ≤ 29 → k < 40 → σ'.1 b (40 * o2 + k) = σ.1 b (40 * o1 + k))
  | m, 0, i, σ1, _, q2, _, _, _ => absurd q2 (by omega)
  | 0, n + 1, i, σ1, q1, _, g1, f1, c1 => by
    obtain rfl : i = 40 := by omega
    refine ⟨σ1, ?_, g1, f1, c1⟩
    rw [fX12_laysLines_14, if_pos (by decide)]
  | m + 1, n + 1, i, σ1, q1, q2, g1, f1, c1 => by
    obtain ⟨σ', e', g', f', c'⟩ := m_lines_loop h1 h2 hne K m n (i + 1) (fx_si (fx_si (fx_si (fx_si σ1 26 (40 * o2 + i) (σ1.1 26 (40 * o1 + i))) 27 (40 * o2 + i) (σ1.1 27 (40 * o1 + i))) 28 (40 * o2 + i) (σ1.1 28 (40 * o1 + i))) 29 (40 * o2 + i) (σ1.1 29 (40 * o1 + i))) (by omega) (by omega) (agr_sit ⟨by omega, by omega⟩ (agr_sit ⟨by omega, by omega⟩ (agr_sit ⟨by omega, by omega⟩ (agr_sit ⟨by omega, by omega⟩ g1)))) (fun b k b1 b2 hk => by
        rw [si1, if_neg (by omega), si1, if_neg (by omega), si1, if_neg (by omega), si1, if_neg (by omega)]
        exact f1 b k b1 b2 (by omega)) (fun b k b1 b2 hk => by
        have hf := f1 b (40 * o1 + i) b1 b2 (by omega)
        by_cases q : k = i
        · subst q
          rcases (show b = 26 ∨ b = 27 ∨ b = 28 ∨ b = 29 by omega) with rfl | rfl | rfl | rfl
          · rw [fx_si_o (by decide), fx_si_o (by decide), fx_si_o (by decide), si1, if_pos ⟨rfl, rfl⟩, hf]
          · rw [fx_si_o (by decide), fx_si_o (by decide), si1, if_pos ⟨rfl, rfl⟩, hf]
          · rw [fx_si_o (by decide), si1, if_pos ⟨rfl, rfl⟩, hf]
          · rw [si1, if_pos ⟨rfl, rfl⟩, hf]
        · rw [si1, if_neg (by omega), si1, if_neg (by omega), si1, if_neg (by omega), si1, if_neg (by omega)]
          exact c1 b k b1 b2 (by omega))
    refine ⟨σ', ?_, g', f', c'⟩
    rw [fX12_laysLines_14, if_neg (lt40 (by omega)), mul40, mul40, fxG_t (fx_inN (by omega) (by decide)), fxG_t (fx_inN (by omega) (by decide)), fx_clN (by omega), fx_clN (by omega), fxL_r, fxG_t (fx_inN (by omega) (by decide)), fxG_t (fx_inN (by omega) (by decide)), fxL_r, fxG_t (fx_inN (by omega) (by decide)), fxG_t (fx_inN (by omega) (by decide)), fxL_r, fxG_t (fx_inN (by omega) (by decide)), fxG_t (fx_inN (by omega) (by decide)), fxL_r, nI_1]
    exact e'
theorem m_laysLines {σ : FH} {o1 o2 : Nat} {t : AT} {r : AR} (ht : TM σ o1 t) (hb : TB r t) (h1 : o1 < 6) (h2 : o2 < 6) (hne : o1 ≠ o2) : ∃ σ', fX12_laysLines (nI o1) (nI o2) σ = some σ' ∧ TM σ' o2 t ∧ agr (fun b => 25 ≤ b ∧ b ≤ 29) σ σ' ∧ (∀ k, k ≠ o2 → σ'.1 25 k = σ.1 25 k) ∧ (∀ b k, 26 ≤ b → b ≤ 29 → (k < 40 * o2 ∨ 40 * o2 + 40 ≤ k) → σ'.1 b k = σ.1 b k) := by
  obtain ⟨σ', e', g', f', c'⟩ := m_lines_loop (σ := fx_si σ 25 o2 (σ.1 25 o1)) h1 h2 hne (fun σ5 => some σ5) 40 FU 0 (fx_si σ 25 o2 (σ.1 25 o1)) (by omega) (by decide) (agr_rf _ _) (fun b k _ _ _ => rfl) (fun b k _ _ hk => absurd hk (by omega))
  refine ⟨σ', ?_, ⟨?_, fun k hk => ?_⟩, agr_tr (agr_si ⟨by omega, by omega⟩) (agr_mono (fun q hq => by omega) g'), fun k hk => ?_, fun b k b1 b2 hk => ?_⟩
  · unfold fX12_laysLines
    rw [fxG_t (fx_inN h1 (by decide)), fxG_t (fx_inN h2 (by decide)), fx_clN (by omega), fx_clN (by omega), fxL_r, fxL_r]
    exact e'
  · rw [g'.1 25 (by omega), si1, if_pos ⟨rfl, rfl⟩]; exact ht.1
  · have := hb.1
    rw [c' 26 k (by omega) (by omega) (by omega), c' 27 k (by omega) (by omega) (by omega), c' 28 k (by omega) (by omega) (by omega), c' 29 k (by omega) (by omega) (by omega), fx_si_o (by decide), fx_si_o (by decide), fx_si_o (by decide), fx_si_o (by decide)]
    exact ht.2 k hk
  · rw [g'.1 25 (by omega), si1, if_neg (by omega)]
  · rw [f' b k b1 b2 hk, fx_si_o (by omega)]
theorem m_said_loop {σ : FH} {o1 o2 : Nat} {d : AT} (hd : DM σ o1 d) (hb : DB d) (h1 : o1 < 5) (h2 : o2 < 5) (hne : o1 ≠ o2) (K : FH → Option FH) : ∀ (m n i : Nat) (σ1 : FH), i + m = 8 → m < n → agr (fun b => 31 ≤ b ∧ b ≤ 32) σ σ1 → (∀ b k, 31 ≤ b → b ≤ 32 → (k < 8 * o2 ∨ 8 * o2 + i ≤ k) → σ1.1 b k = σ.1 b k) → (∀ k, k < i → k < d 0 0 → σ1.1 31 (8 * o2 + k) = nI (d 1 k) ∧ σ1.1 32 (8 * o2 + k) = nI (d 2 k)) →
    ∃ σ', fX12_laysSaid_14 (nI o1) (nI o2) K n (nI i) σ1 = K σ' ∧ agr (fun b => 31 ≤ b ∧ b ≤ 32) σ σ' ∧ (∀ b k, 31 ≤ b → b ≤ 32 → (k < 8 * o2 ∨ 8 * o2 + 8 ≤ k) → σ'.1 b k = σ.1 b k) ∧ (∀ k, k < d 0 0 → σ'.1 31 (8 * o2 + k) = nI (d 1 k) ∧ σ'.1 32 (8 * o2 + k) = nI (d 2 k))
  | m, 0, i, σ1, _, q2, _, _, _ => absurd q2 (by omega)
  | 0, n + 1, i, σ1, q1, _, g1, f1, c1 => by
    obtain rfl : i = 8 := by omega
    have := hb.1
    refine ⟨σ1, ?_, g1, f1, fun k hk => c1 k (by omega) hk⟩
    rw [fX12_laysSaid_14, if_pos (by decide)]
  | m + 1, n + 1, i, σ1, q1, q2, g1, f1, c1 => by
    obtain ⟨σ', e', g', f', c'⟩ := m_said_loop hd hb h1 h2 hne K m n (i + 1) (fx_si (fx_si σ1 31 (8 * o2 + i) (σ1.1 31 (8 * o1 + i))) 32 (8 * o2 + i) (vp_nar .boolean (σ1.1 32 (8 * o1 + i)))) (by omega) (by omega) (agr_sit ⟨by omega, by omega⟩ (agr_sit ⟨by omega, by omega⟩ g1)) (fun b k b1 b2 hk => by
        rw [si1, if_neg (by omega), si1, if_neg (by omega)]
        exact f1 b k b1 b2 (by omega)) (fun k hk hk2 => by
        by_cases q : k = i
        · subst q
          have hdk := hd.2 k hk2
          have hbk := hb.2 k hk2
          rw [fx_si_o (b := 31) (by decide), si1, if_pos ⟨rfl, rfl⟩, si1, if_pos ⟨rfl, rfl⟩, f1 31 _ (by omega) (by omega) (by omega), f1 32 _ (by omega) (by omega) (by omega), hdk.1, hdk.2, narB _ hbk.2]
          exact ⟨rfl, rfl⟩
        · rw [fx_si_o (b := 31) (by decide), si1, if_neg (by omega), si1, if_neg (by omega), fx_si_o (b := 32) (by decide)]
          exact c1 k (by omega) hk2)
    refine ⟨σ', ?_, g', f', c'⟩
    have h8 : ¬ (8 : Int32) ≤ nI i := by rw [show (8 : Int32) = nI 8 from rfl, nI_leI (by omega) (by omega)]; omega
    rw [fX12_laysSaid_14, if_neg h8, mul8, mul8, fxG_t (fx_inN (by omega) (by decide)), fxG_t (fx_inN (by omega) (by decide)), fx_clN (by omega), fx_clN (by omega), fxL_r, fxG_t (fx_inN (by omega) (by decide)), fxG_t (fx_inN (by omega) (by decide)), fxL_r, nI_1]
    exact e'
theorem m_laysSaid {σ : FH} {o1 o2 : Nat} {d : AT} (hd : DM σ o1 d) (hb : DB d) (h1 : o1 < 5) (h2 : o2 < 5) (hne : o1 ≠ o2) : ∃ σ', fX12_laysSaid (nI o1) (nI o2) σ = some σ' ∧ DM σ' o2 d ∧ agr (fun b => 30 ≤ b ∧ b ≤ 32) σ σ' ∧ (∀ k, k ≠ o2 → σ'.1 30 k = σ.1 30 k) ∧ (∀ b k, 31 ≤ b → b ≤ 32 → (k < 8 * o2 ∨ 8 * o2 + 8 ≤ k) → σ'.1 b k = σ.1 b k) := by
  have hd' : DM (fx_si σ 30 o2 (σ.1 30 o1)) o1 d := ⟨by rw [si1, if_neg (by omega)]; exact hd.1, fun k hk => by rw [fx_si_o (by decide), fx_si_o (by decide)]; exact hd.2 k hk⟩
  obtain ⟨σ', e', g', f', c'⟩ := m_said_loop (σ := fx_si σ 30 o2 (σ.1 30 o1)) hd' hb h1 h2 hne (fun σ5 => some σ5) 8 FU 0 (fx_si σ 30 o2 (σ.1 30 o1)) (by omega) (by decide) (agr_rf _ _) (fun b k _ _ _ => rfl) (fun k hk _ => absurd hk (by omega))
  refine ⟨σ', ?_, ⟨?_, c'⟩, agr_tr (agr_si ⟨by omega, by omega⟩) (agr_mono (fun q hq => by omega) g'), fun k hk => ?_, fun b k b1 b2 hk => ?_⟩
  · unfold fX12_laysSaid
    rw [fxG_t (fx_inN h1 (by decide)), fxG_t (fx_inN h2 (by decide)), fx_clN (by omega), fx_clN (by omega), fxL_r, fxL_r]
    exact e'
  · rw [g'.1 30 (by omega), si1, if_pos ⟨rfl, rfl⟩]; exact hd.1
  · rw [g'.1 30 (by omega), si1, if_neg (by omega)]
  · rw [f' b k b1 b2 hk, fx_si_o (by omega)]
