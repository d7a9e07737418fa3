/-! ===== what can be undone is kept ===== -/
def RelA (r : AR) (ef : EF) (a : AS) (t d : AT) (n : Nat) (σx σm : FH) : Prop := MV σx ∧ RB r ∧ EB ef ∧ RX σx (σx.2.2 2) r ∧ EX σx (σx.2.2 2) ef ∧ RM σm 0 r ∧ EM σm ef ∧ NX σx σm (σx.2.2 2) r ∧ SX σx 7 a ∧ SM σm 33 0 a ∧ SB r a n ∧ TX σx (σx.2.2 4) t ∧ TM σm 0 t ∧ TB r t ∧ DX σx 13 d ∧ DM σm 0 d ∧ DB d ∧ PX σx σm ∧ UX σx σm r n ∧ KX σx σm r n
theorem Rel_iff {n : Nat} {σx σm : FH} : Rel n σx σm ↔ ∃ (r : AR) (ef : EF) (a : AS) (t d : AT), RelA r ef a t d n σx σm := Iff.rfl
theorem dis77 : ∀ t, t < 151 → ∀ T, T < 151 → (LX[t]? == some (7, 0) && LX[T]? == some (7, 0)) = true → t = T ∨ t + 2 < T ∨ T + 2 < t := by decide +kernel
section KP
variable {σ : FH} {t u : Nat} {a : AS}
theorem x_copy2 (hu : SX σ u a) (ht : LX[t]? = some (7, 0)) (hne : t ≠ u) (K : FH → Option FH) : ∀ (m n i : Nat) (σ1 : FH), i + m = 5 → m < n → agr (fun b => t ≤ b ∧ b ≤ t + 2) σ σ1 → (∀ p, p < i → σ1.1 (t + 2) p = nI (a (9 + p))) →
    ∃ σ', fX7_copyOf_28 t u K n (nI i) σ1 = K σ' ∧ agr (fun b => t ≤ b ∧ b ≤ t + 2) σ σ' ∧ (∀ p, p < 5 → σ'.1 (t + 2) p = nI (a (9 + p))) ∧ σ'.1 (t + 1) = σ1.1 (t + 1)
  | m, 0, i, σ1, _, h2, _, _ => absurd h2 (by omega)
  | 0, n + 1, i, σ1, h1, _, g, hd => by
    obtain rfl : i = 5 := by omega
    exact ⟨σ1, by rw [fX7_copyOf_28, if_pos (by decide)], g, hd, rfl⟩
  | m + 1, n + 1, i, σ1, h1, h2, g, hd => by
    have hdis := dis77 t (fx_len ht) u (fx_len hu.1) (by rw [ht, hu.1]; rfl)
    have hs := SX_agr hu g (fun i hi => by omega)
    obtain ⟨σ', e', g', hd', e1⟩ := x_copy2 hu ht hne K m n (i + 1) (fx_si σ1 (t + 2) i (nI (a (9 + i)))) (by omega) (by omega) (agr_sit (by omega) g) (fun p hp => by
      rw [si1]
      by_cases c : p = i
      · rw [if_pos ⟨rfl, c⟩, c]
      · rw [if_neg (by omega)]; exact hd p (by omega))
    refine ⟨σ', ?_, g', hd', by rw [e1]; exact fx_si_o (by omega)⟩
    rw [fX7_copyOf_28, if_neg (by rw [show (5 : Int32) = nI 5 from rfl, nI_leI (by omega) (by omega)]; omega), fxG_t (fx_inN (by omega) (by decide)), fxG_t (fx_inN (by omega) (by decide)), fx_clN (by omega), hs.2.2.2.2.2 i (by omega), fxL_r, nI_1, e']
theorem x_copy1 (hu : SX σ u a) (ht : LX[t]? = some (7, 0)) (hne : t ≠ u) (K : FH → Option FH) : ∀ (m n i : Nat) (σ1 : FH), i + m = 6 → m < n → agr (fun b => t ≤ b ∧ b ≤ t + 2) σ σ1 → (∀ p, p < i → σ1.1 (t + 1) p = nI (a (3 + p))) →
    ∃ σ', fX7_copyOf_2 t u K n (nI i) σ1 = K σ' ∧ agr (fun b => t ≤ b ∧ b ≤ t + 2) σ σ' ∧ (∀ p, p < 6 → σ'.1 (t + 1) p = nI (a (3 + p)))
  | m, 0, i, σ1, _, h2, _, _ => absurd h2 (by omega)
  | 0, n + 1, i, σ1, h1, _, g, hd => by
    obtain rfl : i = 6 := by omega
    exact ⟨σ1, by rw [fX7_copyOf_2, if_pos (by decide)], g, hd⟩
  | m + 1, n + 1, i, σ1, h1, h2, g, hd => by
    have hdis := dis77 t (fx_len ht) u (fx_len hu.1) (by rw [ht, hu.1]; rfl)
    have hs := SX_agr hu g (fun i hi => by omega)
    obtain ⟨σ', e', g', hd'⟩ := x_copy1 hu ht hne K m n (i + 1) (fx_si σ1 (t + 1) i (nI (a (3 + i)))) (by omega) (by omega) (agr_sit (by omega) g) (fun p hp => by
      rw [si1]
      by_cases c : p = i
      · rw [if_pos ⟨rfl, c⟩, c]
      · rw [if_neg (by omega)]; exact hd p (by omega))
    refine ⟨σ', ?_, g', hd'⟩
    rw [fX7_copyOf_2, if_neg (by rw [show (6 : Int32) = nI 6 from rfl, nI_leI (by omega) (by omega)]; omega), fxG_t (fx_inN (by omega) (by decide)), fxG_t (fx_inN (by omega) (by decide)), fx_clN (by omega), hs.2.2.2.2.1 i (by omega), fxL_r, nI_1, e']
theorem x_copyOf (hu : SX σ u a) (ht : LX[t]? = some (7, 0)) (hne : t ≠ u) : ∃ σ', fX7_copyOf t u σ = some σ' ∧ SX σ' t a ∧ agr (fun b => t ≤ b ∧ b ≤ t + 2) σ σ' := by
  have hdis := dis77 t (fx_len ht) u (fx_len hu.1) (by rw [ht, hu.1]; rfl)
  unfold fX7_copyOf
  rw [fxG_t ht, fxG_t hu.1, fxL_r]
  obtain ⟨σ1, e1, g1, d1⟩ := x_copy1 hu ht hne (fun σ2 => fxL (fun σ4 => fxL (fx_si σ4 t 2 (σ4.1 u 2)) <| fun σ5 => fxL (fx_si σ5 t 3 (σ5.1 u 3)) <| fun σ6 => fxL (fx_si σ6 t 4 (σ6.1 u 4)) <| fun σ7 => some σ7) <| fun K3 => fX7_copyOf_28 t u K3 FU 0 σ2) 6 FU 0 σ (by omega) (by decide) (agr_rf _ _) (fun p hp => absurd hp (by omega))
  obtain ⟨σ2, e2, g2, d2, k2⟩ := x_copy2 hu ht hne (fun σ4 => fxL (fx_si σ4 t 2 (σ4.1 u 2)) <| fun σ5 => fxL (fx_si σ5 t 3 (σ5.1 u 3)) <| fun σ6 => fxL (fx_si σ6 t 4 (σ6.1 u 4)) <| fun σ7 => some σ7) 5 FU 0 σ1 (by omega) (by decide) g1 (fun p hp => absurd hp (by omega))
  have hs := SX_agr hu g2 (fun i hi => by omega)
  refine ⟨fx_si (fx_si (fx_si σ2 t 2 (nI (a 0))) t 3 (nI (a 1))) t 4 (nI (a 2)), ?_, ⟨ht, ?_, ?_, ?_, fun i hi => ?_, fun p hp => ?_⟩, agr_sit (by omega) (agr_sit (by omega) (agr_sit (by omega) g2))⟩
  · refine e1.trans ?_
    rw [fxL_r]
    refine e2.trans ?_
    rw [fxL_r, fxL_r, fxL_r, si1, if_neg (by omega), si1, if_neg (by omega), si1, if_neg (by omega), hs.2.1, hs.2.2.1, hs.2.2.2.1]
  · rw [si1, if_neg (by omega), si1, if_neg (by omega), si1, if_pos ⟨rfl, rfl⟩]
  · rw [si1, if_neg (by omega), si1, if_pos ⟨rfl, rfl⟩]
  · rw [si1, if_pos ⟨rfl, rfl⟩]
  · rw [si1, if_neg (by omega), si1, if_neg (by omega), si1, if_neg (by omega), k2]
    exact d1 i hi
  · rw [si1, if_neg (by omega), si1, if_neg (by omega), si1, if_neg (by omega)]
    exact d2 p hp
end KP
section KQ
variable {σ : FH} {a : AS} {c1 n1 o1 c2 n2 o2 : Nat}
theorem m_copy (hs : SM σ c1 o1 a) (hne : c1 ≠ c2) (h1 : o1 + 14 ≤ n1) (h2 : o2 + 14 ≤ n2) (hn1 : n1 ≤ 3000) (hn2 : n2 ≤ 3000) (K : FH → Option FH) : ∀ (m n i : Nat) (σ1 : FH), i + m = 14 → m < n → agr (fun b => b = c2) σ σ1 → (∀ k, k < o2 ∨ o2 + i ≤ k → σ1.1 c2 k = σ.1 c2 k) → (∀ k, k < i → σ1.1 c2 (o2 + k) = nI (a k)) →
    ∃ σ', fX12_copies_3 c1 n1 (nI o1) c2 n2 (nI o2) K n (nI i) σ1 = K σ' ∧ agr (fun b => b = c2) σ σ' ∧ (∀ k, k < o2 ∨ o2 + 14 ≤ k → σ'.1 c2 k = σ.1 c2 k) ∧ SM σ' c2 o2 a
  | m, 0, i, σ1, _, q, _, _, _ => absurd q (by omega)
  | 0, n + 1, i, σ1, q1, _, g, ho, hd => by
    obtain rfl : i = 14 := by omega
    exact ⟨σ1, by rw [fX12_copies_3, if_pos (by decide)], g, ho, hd⟩
  | m + 1, n + 1, i, σ1, q1, q2, g, ho, hd => by
    have hs1 : σ1.1 c1 (o1 + i) = nI (a i) := by rw [g.1 c1 hne]; exact hs i (by omega)
    obtain ⟨σ', e', g', ho', hd'⟩ := m_copy hs hne h1 h2 hn1 hn2 K m n (i + 1) (fx_si σ1 c2 (o2 + i) (nI (a i))) (by omega) (by omega) (agr_sit rfl g) (fun k hk => by rw [si1, if_neg (by omega)]; exact ho k (by omega)) (fun k hk => by
      rw [si1]
      by_cases c : k = i
      · rw [if_pos ⟨rfl, by omega⟩, c]
      · rw [if_neg (by omega)]; exact hd k (by omega))
    refine ⟨σ', ?_, g', ho', hd'⟩
    rw [fX12_copies_3, if_neg (by rw [show (14 : Int32) = nI 14 from rfl, nI_leI (by omega) (by omega)]; omega), nI_add, nI_add, fxG_t (fx_inN (by omega) (by omega)), fxG_t (fx_inN (by omega) (by omega)), fx_clN (by omega), fx_clN (by omega), hs1, fxL_r, nI_1, e']
theorem m_copies (hs : SM σ c1 o1 a) (hne : c1 ≠ c2) (h1 : o1 + 14 ≤ n1) (h2 : o2 + 14 ≤ n2) (hn1 : n1 ≤ 3000) (hn2 : n2 ≤ 3000) (k1 : LM[c1]? = some (20, n1)) (k2 : LM[c2]? = some (20, n2)) :
    ∃ σ', fX12_copies c1 n1 (nI o1) c2 n2 (nI o2) σ = some σ' ∧ agr (fun b => b = c2) σ σ' ∧ (∀ k, k < o2 ∨ o2 + 14 ≤ k → σ'.1 c2 k = σ.1 c2 k) ∧ SM σ' c2 o2 a := by
  unfold fX12_copies
  rw [fxG_t k1, fxG_t k2, fxL_r]
  exact m_copy hs hne h1 h2 hn1 hn2 _ 14 FU 0 σ (by omega) (by decide) (agr_rf _ _) (fun _ _ => rfl) (fun k hk => absurd hk (by omega))
theorem m_shift (K : FH → Option FH) : ∀ (m n i : Nat) (σ1 : FH), i + m = 210 → m < n → agr (fun b => b = 37) σ σ1 → (∀ k, i ≤ k → σ1.1 37 k = σ.1 37 k) → (∀ k, k < i → σ1.1 37 k = σ.1 37 (k + 14)) →
    ∃ σ', fX12_keeps_11 K n (nI i) σ1 = K σ' ∧ agr (fun b => b = 37) σ σ' ∧ (∀ k, k < 210 → σ'.1 37 k = σ.1 37 (k + 14))
  | m, 0, i, σ1, _, q, _, _, _ => absurd q (by omega)
  | 0, n + 1, i, σ1, q1, _, g, ho, hd => by
    obtain rfl : i = 210 := by omega
    exact ⟨σ1, by rw [fX12_keeps_11, if_pos (by decide)], g, hd⟩
  | m + 1, n + 1, i, σ1, q1, q2, g, ho, hd => by
    obtain ⟨σ', e', g', hd'⟩ := m_shift K m n (i + 1) (fx_si σ1 37 i (σ.1 37 (i + 14))) (by omega) (by omega) (agr_sit rfl g) (fun k hk => by rw [si1, if_neg (by omega)]; exact ho k (by omega)) (fun k hk => by
      rw [si1]
      by_cases c : k = i
      · rw [if_pos ⟨rfl, c⟩, c]
      · rw [if_neg (by omega)]; exact hd k (by omega))
    refine ⟨σ', ?_, g', hd'⟩
    rw [fX12_keeps_11, if_neg (by rw [show (210 : Int32) = nI 210 from rfl, nI_leI (by omega) (by omega)]; omega), show nI i + 14 = nI (i + 14) from nI_add i 14, fxG_t (fx_inN (by omega) (by decide)), fxG_t (fx_inN (by omega) (by decide)), fx_clN (by omega), fx_clN (by omega), ho (i + 14) (by omega), fxL_r, nI_1, e']
end KQ
theorem flN : ∀ a, a < 40 → ∀ σ : FH, fJ9_floorMod_7cf53 (nI a) 16 σ = some (nI (a % 16)) := by
  intro a ha σ
  have k1 : ∀ a, a < 40 → 0 ≤ (nI a ^^^ 16) := by decide +kernel
  unfold fJ9_floorMod_7cf53
  rw [fxG_t (by decide), fxL_r, if_pos (k1 a ha), show nI a - nI a / 16 * 16 = nI (a % 16) from pk_rem (d := 16) (by omega) (by decide) (by decide)]
theorem flM (σ : FH) : fJ9_floorMod_7cf53 (-1) 16 σ = some (nI 15) := by
  unfold fJ9_floorMod_7cf53
  rw [fxG_t (by decide), fxL_r, if_neg (by decide), if_neg (by decide)]
  rfl
