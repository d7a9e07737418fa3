/-! ===== judged ===== -/
/-- the state in which a republic begins -/
def fr0 (r : AR) : AS := fun k => if k < 3 then 0 else if k < 9 then (if k - 3 < r 0 0 then r 3 (k - 3) else 0) else if k - 9 < r 0 1 then r 4 (k - 9) else 0
theorem fr0_3 (r : AR) {i : Nat} (h : i < 6) : fr0 r (3 + i) = if i < r 0 0 then r 3 i else 0 := by
  unfold fr0
  rw [if_neg (by omega), if_pos (by omega), Nat.add_sub_cancel_left]
theorem fr0_9 (r : AR) (p : Nat) : fr0 r (9 + p) = if p < r 0 1 then r 4 p else 0 := by
  unfold fr0
  rw [if_neg (by omega), if_neg (by omega), Nat.add_sub_cancel_left]
theorem SB_fr0 {r : AR} (hb : RB r) : SB r (fr0 r) 0 := by
  have hw := hb.1
  have hq := hb.2.1
  refine ⟨Nat.le_refl 0, Nat.le_refl 0, Nat.le_refl 0, fun i hi => ?_, fun i hi h6 => ?_, fun p hp => ?_, fun p hp h5 => ?_⟩
  · rw [fr0_3 r (by omega), if_pos hi]; exact (hb.2.2.2.2.1 i hi).2.2.2
  · rw [fr0_3 r h6, if_neg (by omega)]
  · rw [fr0_9, if_pos hp]; have := (hb.2.2.2.2.2 p hp).1; omega
  · rw [fr0_9, if_neg (by omega)]
theorem x_hasW {σ : FH} {T : Nat} {r : AR} (h : RX σ T r) (hb : RB r) (i : Nat) (hi : i < 100) : fX5_hasWare T (nI i) σ = some (if i < r 0 0 then 1 else 0) := by
  have hw := hb.1
  by_cases c : i < r 0 0
  · rw [if_pos c]; exact x_hasWare_in h hb c
  · rw [if_neg c]; exact x_hasWare_out h (Or.inr (nI_le (by omega) (by omega)))
theorem x_hasP {σ : FH} {T : Nat} {r : AR} (h : RX σ T r) (hb : RB r) (i : Nat) (hi : i < 100) : fX5_hasParty T (nI i) σ = some (if i < r 0 1 then 1 else 0) := by
  have hw := hb.2.1
  by_cases c : i < r 0 1
  · rw [if_pos c]; exact x_hasParty_in h hb c
  · rw [if_neg c]; exact x_hasParty_out h (Or.inr (nI_le (by omega) (by omega)))
section BG
variable {σ : FH} {T t : Nat} {r : AR}
theorem x_begin2 (h : RX σ T r) (hb : RB r) (ht : LX[t]? = some (7, 0)) (hd : t + 2 < T ∨ T + 10 < t) (K : FH → Option FH) : ∀ (m n i : Nat) (σ1 : FH), i + m = 5 → m < n → agr (fun b => t ≤ b ∧ b ≤ t + 2) σ σ1 → (∀ p, p < i → σ1.1 (t + 2) p = nI (fr0 r (9 + p))) →
    ∃ σ', fX7_begin_40 t T K n (nI i) σ1 = K σ' ∧ agr (fun b => t ≤ b ∧ b ≤ t + 2) σ σ' ∧ (∀ p, p < 5 → σ'.1 (t + 2) p = nI (fr0 r (9 + p))) ∧ σ'.1 (t + 1) = σ1.1 (t + 1)
  | m, 0, i, σ1, _, h2, _, _ => absurd h2 (by omega)
  | 0, n + 1, i, σ1, h1, _, g1, f1 => by
    obtain rfl : i = 5 := by omega
    refine ⟨σ1, ?_, g1, f1, rfl⟩
    rw [fX7_begin_40, if_pos (by decide)]
  | m + 1, n + 1, i, σ1, h1, h2, g1, f1 => by
    have h5 := hb.2.1
    have hR := RX_agr h g1 (fun k hk => by omega)
    have c5 : ¬ (5 : Int32) ≤ nI i := by rw [show (5 : Int32) = nI 5 from rfl, nI_leI (by omega) (by omega)]; omega
    obtain ⟨σ', e', g', f', k'⟩ := x_begin2 h hb ht hd K m n (i + 1) (fx_si σ1 (t + 2) i (nI (fr0 r (9 + i)))) (by omega) (by omega) (agr_sit ⟨by omega, by omega⟩ g1) (fun p hp => by
      rw [si1]
      by_cases q : p = i
      · subst q; rw [if_pos ⟨rfl, rfl⟩]
      · rw [if_neg (by omega)]; exact f1 p (by omega))
    refine ⟨σ', ?_, g', f', k'.trans (fx_si_o (by omega))⟩
    rw [fX7_begin_40, if_neg c5, x_hasP hR hb i (by omega), fxBP_s, fxL_r]
    by_cases c : i < r 0 1
    · rw [if_pos c, if_neg (by decide), fxG_t (fx_inN (by omega) (by decide))]
      dsimp only
      rw [fxG_t (fx_inN (by omega) (by decide)), fx_clN (by omega), (hR.2.2.2.2.2 i c).1, fxL_r, nI_1]
      rw [fr0_9, if_pos c] at e'
      exact e'
    · rw [if_neg c, if_pos rfl]
      dsimp only
      rw [fxG_t (fx_inN (by omega) (by decide)), fx_clN (by omega), fxL_r, nI_1]
      rw [fr0_9, if_neg c] at e'
      exact e'
theorem x_begin1 (h : RX σ T r) (hb : RB r) (ht : LX[t]? = some (7, 0)) (hd : t + 2 < T ∨ T + 10 < t) (K : FH → Option FH) : ∀ (m n i : Nat) (σ1 : FH), i + m = 6 → m < n → agr (fun b => t ≤ b ∧ b ≤ t + 2) σ σ1 → (∀ p, p < i → σ1.1 (t + 1) p = nI (fr0 r (3 + p))) →
    ∃ σ', fX7_begin_2 t T K n (nI i) σ1 = K σ' ∧ agr (fun b => t ≤ b ∧ b ≤ t + 2) σ σ' ∧ (∀ p, p < 6 → σ'.1 (t + 1) p = nI (fr0 r (3 + p)))
  | m, 0, i, σ1, _, h2, _, _ => absurd h2 (by omega)
  | 0, n + 1, i, σ1, h1, _, g1, f1 => by
    obtain rfl : i = 6 := by omega
    refine ⟨σ1, ?_, g1, f1⟩
    rw [fX7_begin_2, if_pos (by decide)]
  | m + 1, n + 1, i, σ1, h1, h2, g1, f1 => by
    have h5 := hb.1
    have hR := RX_agr h g1 (fun k hk => by omega)
    have c5 : ¬ (6 : Int32) ≤ nI i := by rw [show (6 : Int32) = nI 6 from rfl, nI_leI (by omega) (by omega)]; omega
    obtain ⟨σ', e', g', f'⟩ := x_begin1 h hb ht hd K m n (i + 1) (fx_si σ1 (t + 1) i (nI (fr0 r (3 + i)))) (by omega) (by omega) (agr_sit ⟨by omega, by omega⟩ g1) (fun p hp => by
      rw [si1]
      by_cases q : p = i
      · subst q; rw [if_pos ⟨rfl, rfl⟩]
      · rw [if_neg (by omega)]; exact f1 p (by omega))
    refine ⟨σ', ?_, g', f'⟩
    rw [fX7_begin_2, if_neg c5, x_hasW hR hb i (by omega), fxBP_s, fxL_r]
    by_cases c : i < r 0 0
    · rw [if_pos c, if_neg (by decide), fxG_t (fx_inN (by omega) (by decide))]
      dsimp only
      rw [fxG_t (fx_inN (by omega) (by decide)), fx_clN (by omega), (hR.2.2.2.2.1 i c).2.2, fxL_r, nI_1]
      rw [fr0_3 r (by omega), if_pos c] at e'
      exact e'
    · rw [if_neg c, if_pos rfl]
      dsimp only
      rw [fxG_t (fx_inN (by omega) (by decide)), fx_clN (by omega), fxL_r, nI_1]
      rw [fr0_3 r (by omega), if_neg c] at e'
      exact e'
theorem x_begin (h : RX σ T r) (hb : RB r) (ht : LX[t]? = some (7, 0)) : ∃ σ', fX7_begin t T σ = some σ' ∧ SX σ' t (fr0 r) ∧ agr (fun b => t ≤ b ∧ b ≤ t + 2) σ σ' := by
  have hd : t + 2 < T ∨ T + 10 < t := dis57 t (fx_len ht) T (fx_len h.1) (by rw [ht, h.1]; rfl)
  unfold fX7_begin
  rw [fxG_t ht, fxG_t h.1, fxL_r]
  obtain ⟨σ2, e2, g2, f2⟩ := x_begin1 h hb ht hd (fun σ2 => fxL (fun σ4 => fxL (fx_si σ4 t 2 0) <| fun σ5 => fxL (fx_si σ5 t 3 0) <| fun σ6 => fxL (fx_si σ6 t 4 0) <| fun σ7 => some σ7) <| fun K3 => fX7_begin_40 t T K3 FU 0 σ2) 6 FU 0 σ (by omega) (by decide) (agr_rf _ _) (fun p hp => absurd hp (by omega))
  obtain ⟨σ4, e4, g4, f4, k4⟩ := x_begin2 h hb ht hd (fun σ4 => fxL (fx_si σ4 t 2 0) <| fun σ5 => fxL (fx_si σ5 t 3 0) <| fun σ6 => fxL (fx_si σ6 t 4 0) <| fun σ7 => some σ7) 5 FU 0 σ2 (by omega) (by decide) g2 (fun p hp => absurd hp (by omega))
  refine ⟨fx_si (fx_si (fx_si σ4 t 2 0) t 3 0) t 4 0, ?_, ⟨ht, ?_, ?_, ?_, fun i hi => ?_, fun p hp => ?_⟩, agr_sit ⟨by omega, by omega⟩ (agr_sit ⟨by omega, by omega⟩ (agr_sit ⟨by omega, by omega⟩ g4))⟩
  · refine e2.trans ?_
    rw [fxL_r]
    refine e4.trans ?_
    rw [fxL_r, fxL_r, fxL_r]
  · rw [si1, if_neg (by omega), si1, if_neg (by omega), si1, if_pos ⟨rfl, rfl⟩]; rfl
  · rw [si1, if_neg (by omega), si1, if_pos ⟨rfl, rfl⟩]; rfl
  · rw [si1, if_pos ⟨rfl, rfl⟩]; rfl
  · rw [fx_si_o (by omega), fx_si_o (by omega), fx_si_o (by omega), k4]; exact f2 i hi
  · rw [fx_si_o (by omega), fx_si_o (by omega), fx_si_o (by omega)]; exact f4 p hp
theorem m_fr2 (h : RM σ 0 r) (hb : RB r) (K : FH → Option FH) : ∀ (m n i : Nat) (σ1 : FH), i + m = 14 → m < n → agr (fun b => b = 33) σ σ1 → (∀ k, k < i → σ1.1 33 k = nI 0) → ∃ σ', fX12_fresh0_2 K n (nI i) σ1 = K σ' ∧ agr (fun b => b = 33) σ σ' ∧ (∀ k, k < 14 → σ'.1 33 k = nI 0)
  | m, 0, i, σ1, _, h2, _, _ => absurd h2 (by omega)
  | 0, n + 1, i, σ1, h1, _, g1, f1 => by
    obtain rfl : i = 14 := by omega
    exact ⟨σ1, by rw [fX12_fresh0_2, if_pos (by decide)], g1, f1⟩
  | m + 1, n + 1, i, σ1, h1, h2, g1, f1 => by
    have c : ¬ (14 : Int32) ≤ nI i := by rw [show (14 : Int32) = nI 14 from rfl, nI_leI (by omega) (by omega)]; omega
    obtain ⟨σ', e', g', f'⟩ := m_fr2 h hb K m n (i + 1) (fx_si σ1 33 i 0) (by omega) (by omega) (agr_sit rfl g1) (fun p hp => by
      rw [si1]
      by_cases q : p = i
      · subst q; rw [if_pos ⟨rfl, rfl⟩]; rfl
      · rw [if_neg (by omega)]; exact f1 p (by omega))
    refine ⟨σ', ?_, g', f'⟩
    rw [fX12_fresh0_2, if_neg c, fxG_t (fx_inN (by omega) (by decide)), fx_clN (by omega), fxL_r, nI_1]
    exact e'
theorem m_fr23 (h : RM σ 0 r) (hb : RB r) (K : FH → Option FH) : ∀ (m n i : Nat) (σ1 : FH), i + m = r 0 0 → m < n → agr (fun b => b = 33) σ σ1 → (∀ k, k < 14 → σ1.1 33 k = nI (if 3 ≤ k ∧ k < 3 + i then r 3 (k - 3) else 0)) → ∃ σ', fX12_fresh0_23 K n (nI i) σ1 = K σ' ∧ agr (fun b => b = 33) σ σ' ∧ (∀ k, k < 14 → σ'.1 33 k = nI (if 3 ≤ k ∧ k < 3 + r 0 0 then r 3 (k - 3) else 0))
  | m, 0, i, σ1, _, h2, _, _ => absurd h2 (by omega)
  | 0, n + 1, i, σ1, h1, _, g1, f1 => by
    obtain rfl : i = r 0 0 := by omega
    have hw := hb.1
    exact ⟨σ1, by rw [fX12_fresh0_23, fxG_t (by decide), cl0, g1.1 2 (by decide), rm_w h, if_pos (nI_le (Nat.le_refl _) (by omega))], g1, f1⟩
  | m + 1, n + 1, i, σ1, h1, h2, g1, f1 => by
    have hw := hb.1
    obtain ⟨σ', e', g', f'⟩ := m_fr23 h hb K m n (i + 1) (fx_si σ1 33 (3 + i) (nI (r 3 i))) (by omega) (by omega) (agr_sit rfl g1) (fun p hp => by
      rw [si1]
      by_cases q : p = 3 + i
      · subst q; rw [if_pos ⟨rfl, rfl⟩, if_pos ⟨by omega, by omega⟩, Nat.add_sub_cancel_left]
      · rw [if_neg (by omega), f1 p hp]
        by_cases q2 : 3 ≤ p ∧ p < 3 + i
        · rw [if_pos q2, if_pos ⟨q2.1, by omega⟩]
        · rw [if_neg q2, if_neg (by omega)])
    refine ⟨σ', ?_, g', f'⟩
    rw [fX12_fresh0_23, fxG_t (by decide), cl0, g1.1 2 (by decide), rm_w h, if_neg (by rw [nI_leI (by omega) (by omega)]; omega), thN, fxG_t (fx_inN (by omega) (by decide)), fxG_t (fx_inN (by omega) (by decide)), fx_clN (by omega), fx_clN (by omega), g1.1 7 (by decide), rm_d h (by omega), fxL_r, nI_1]
    exact e'
theorem m_fr55 (h : RM σ 0 r) (hb : RB r) (K : FH → Option FH) : ∀ (m n i : Nat) (σ1 : FH), i + m = r 0 1 → m < n → agr (fun b => b = 33) σ σ1 → (∀ k, k < 14 → σ1.1 33 k = nI (if 9 ≤ k then (if k < 9 + i then r 4 (k - 9) else 0) else fr0 r k)) → ∃ σ', fX12_fresh0_55 K n (nI i) σ1 = K σ' ∧ agr (fun b => b = 33) σ σ' ∧ (∀ k, k < 14 → σ'.1 33 k = nI (if 9 ≤ k then (if k < 9 + r 0 1 then r 4 (k - 9) else 0) else fr0 r k))
  | m, 0, i, σ1, _, h2, _, _ => absurd h2 (by omega)
  | 0, n + 1, i, σ1, h1, _, g1, f1 => by
    obtain rfl : i = r 0 1 := by omega
    have hw := hb.2.1
    exact ⟨σ1, by rw [fX12_fresh0_55, fxG_t (by decide), cl1, g1.1 2 (by decide), rm_q h, if_pos (nI_le (Nat.le_refl _) (by omega))], g1, f1⟩
  | m + 1, n + 1, i, σ1, h1, h2, g1, f1 => by
    have hw := hb.2.1
    obtain ⟨σ', e', g', f'⟩ := m_fr55 h hb K m n (i + 1) (fx_si σ1 33 (9 + i) (nI (r 4 i))) (by omega) (by omega) (agr_sit rfl g1) (fun p hp => by
      rw [si1]
      by_cases q : p = 9 + i
      · subst q; rw [if_pos ⟨rfl, rfl⟩, if_pos (by omega), if_pos (by omega), Nat.add_sub_cancel_left]
      · rw [if_neg (by omega), f1 p hp]
        by_cases q3 : 9 ≤ p
        · rw [if_pos q3, if_pos q3]
          by_cases q2 : p < 9 + i
          · rw [if_pos q2, if_pos (by omega)]
          · rw [if_neg q2, if_neg (by omega)]
        · rw [if_neg q3, if_neg q3])
    refine ⟨σ', ?_, g', f'⟩
    rw [fX12_fresh0_55, fxG_t (by decide), cl1, g1.1 2 (by decide), rm_q h, if_neg (by rw [nI_leI (by omega) (by omega)]; omega), niN, fxG_t (fx_inN (by omega) (by decide)), fxG_t (fx_inN (by omega) (by decide)), fx_clN (by omega), fx_clN (by omega), g1.1 8 (by decide), rm_s h (by omega), fxL_r, nI_1]
    exact e'
theorem m_fresh0 (h : RM σ 0 r) (hb : RB r) : ∃ σ', fX12_fresh0 σ = some σ' ∧ SM σ' 33 0 (fr0 r) ∧ agr (fun b => b = 33) σ σ' := by
  have hw := hb.1
  have hq := hb.2.1
  unfold fX12_fresh0
  rw [fxL_r]
  obtain ⟨σ2, e2, g2, f2⟩ := m_fr2 h hb (fun σ2 => fxL (fun σ4 => fxL (fun σ6 => some σ6) <| fun K5 => fX12_fresh0_55 K5 FU 0 σ4) <| fun K3 => fX12_fresh0_23 K3 FU 0 σ2) 14 FU 0 σ (by omega) (by decide) (agr_rf _ _) (fun k hk => absurd hk (by omega))
  obtain ⟨σ3, e3, g3, f3⟩ := m_fr23 h hb (fun σ4 => fxL (fun σ6 => some σ6) <| fun K5 => fX12_fresh0_55 K5 FU 0 σ4) (r 0 0) FU 0 σ2 (by omega) (by unfold FU; omega) g2 (fun k hk => by rw [f2 k hk, if_neg (by omega)])
  obtain ⟨σ5, e5, g5, f5⟩ := m_fr55 h hb (fun σ6 => some σ6) (r 0 1) FU 0 σ3 (by omega) (by unfold FU; omega) g3 (fun k hk => by
    rw [f3 k hk]
    unfold fr0
    congr 1
    repeat' split
    all_goals first | rfl | omega)
  refine ⟨σ5, ?_, fun k hk => ?_, g5⟩
  · refine e2.trans ?_
    rw [fxL_r]
    refine e3.trans ?_
    rw [fxL_r]
    exact e5
  · rw [Nat.zero_add, f5 k hk]
    unfold fr0
    congr 1
    repeat' split
    all_goals first | rfl | omega
end BG
