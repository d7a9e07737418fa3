/-! ===== calls that only ask: ware, party ===== -/
def OpP (fx : FH → Option Int32) (fm : FH → Option (Int32 × FH)) : Prop := ∀ n σx σm, n < 600 → Rel n σx σm → ∃ v σm', fx σx = some v ∧ fm σm = some (v, σm') ∧ Rel (n + 1) σx σm'
def OpI (fx fm : FH → Option (Int32 × FH)) : Prop := ∀ n σx σm, n < 600 → Rel n σx σm → ∃ v σx' σm', fx σx = some (v, σx') ∧ fm σm = some (v, σm') ∧ Rel (n + 1) σx' σm'
theorem Rel_th {n : Nat} {σx σm : FH} (h : Rel n σx σm) : Rel n σx (fx_si σm 0 0 0) := Rel_sc h (agr_rf _ _) agQ_th
theorem wi_t {x lo hi : Int32} {σ : FH} (h1 : ¬ x < lo) (h2 : ¬ hi < x) : fX12_within x lo hi σ = some 1 := by
  unfold fX12_within
  rw [fxL_r, if_neg h1, if_neg h2]; rfl
theorem wi_f {x lo hi : Int32} {σ : FH} (h : x < lo ∨ hi < x) : fX12_within x lo hi σ = some 0 := by
  unfold fX12_within
  rw [fxL_r]
  rcases h with h | h
  · rw [if_pos h]; rfl
  · by_cases h0 : x < lo
    · rw [if_pos h0]; rfl
    · rw [if_neg h0, if_pos h]; rfl
theorem nle_lt {x : Int32} {a b : Nat} (hb : b < 2 ^ 31) (h : nI b ≤ x) (hab : a < b) : nI a < x := Int32.lt_of_lt_of_le (nI_lt hab hb) h
theorem x_alls_loop {σ : FH} {t : Nat} {a : AS} (hs : SX σ t a) (K : Int32 → Option Int32) : ∀ (m n i acc : Nat), i + m = 5 → m < n → fX7_allSeats_4 t σ K n (nI acc) (nI i) = K (nI (acc + sF (fun p => a (9 + p)) i m))
  | m, 0, i, acc, _, h2 => absurd h2 (by omega)
  | 0, n + 1, i, acc, h1, _ => by
    obtain rfl : i = 5 := by omega
    rw [fX7_allSeats_4, if_pos (by decide)]
    rfl
  | m + 1, n + 1, i, acc, h1, h2 => by
    rw [fX7_allSeats_4, if_neg (by rw [show (5 : Int32) = nI 5 from rfl, nI_leI (by omega) (by omega)]; omega), fxG_t (fx_inN (by omega) (by decide)), fx_clN (by omega), hs.2.2.2.2.2 i (by omega), fxL_r, nI_add, nI_1, x_alls_loop hs K m n (i + 1) (acc + a (9 + i)) (by omega) (by omega)]
    simp only [sF, Nat.add_assoc]
theorem sF_add (f : Nat → Nat) : ∀ (m k i : Nat), sF f i (m + k) = sF f i m + sF f (i + m) k
  | 0, k, i => by simp [sF]
  | m + 1, k, i => by
    rw [show m + 1 + k = (m + k) + 1 by omega, sF, sF, sF_add f m k (i + 1), ← Nat.add_assoc, show i + 1 + m = i + (m + 1) by omega]
theorem sF_zero {f : Nat → Nat} : ∀ (m i : Nat), (∀ k, i ≤ k → k < i + m → f k = 0) → sF f i m = 0
  | 0, _, _ => rfl
  | m + 1, i, h => by rw [sF, h i (by omega) (by omega), sF_zero m (i + 1) (fun k h1 h2 => h k (by omega) (by omega))]
theorem alls_5 {r : AR} {a : AS} {n : Nat} (hb : RB r) (hsb : SB r a n) : sF (fun p => a (9 + p)) 0 5 = alls r a := by
  have h5 := hb.2.1
  rw [show 5 = r 0 1 + (5 - r 0 1) by omega, sF_add, alls]
  rw [sF_zero (5 - r 0 1) (0 + r 0 1) (fun k h1 h2 => hsb.2.2.2.2.2.2 k (by omega) (by omega)), Nat.add_zero]
theorem x_allSeats {σ : FH} {t : Nat} {r : AR} {a : AS} {n : Nat} (hs : SX σ t a) (hb : RB r) (hsb : SB r a n) : fX7_allSeats t σ = some (nI (alls r a)) := by
  unfold fX7_allSeats
  rw [fxG_t hs.1, fxL_r]
  refine (x_alls_loop hs _ 5 FU 0 0 (by omega) (by decide)).trans ?_
  rw [Nat.zero_add, alls_5 hb hsb]
theorem alls_le {r : AR} {a : AS} {n : Nat} (hb : RB r) (hsb : SB r a n) : alls r a ≤ 495 := by
  have h1 := sF_le (f := fun p => a (9 + p)) (b := 99) (r 0 1) 0 (fun k _ hk => hsb.2.2.2.2.2.1 k (by omega))
  have h3 : r 0 1 * 99 ≤ 5 * 99 := Nat.mul_le_mul_right _ hb.2.1
  exact Nat.le_trans h1 h3
/-- 2 carried, 1 halved, 0 lost -/
def crd (v s : Nat) : Nat := if s < 2 * v then 2 else if 2 * v = s ∧ 0 < s then 1 else 0
theorem x_standing {σ : FH} {v s : Nat} (hv : v < 100000) (hs : s < 100000) : fX11_standing (nI v) (nI s) σ = some (nI (crd v s)) := by
  unfold fX11_standing crd
  rw [show (2 : Int32) * nI v = nI (2 * v) from pk_mul 2 v, fxL_r]
  by_cases h : s < 2 * v
  · rw [if_neg (by rw [nI_leI (by omega) (by omega)]; omega), if_pos h]; rfl
  · rw [if_pos (nI_le (by omega) (by omega)), if_neg h]
    by_cases h0 : s = 0
    · subst h0
      rw [if_pos (by decide), if_neg (by omega)]; rfl
    · rw [if_neg (by rw [n0, nI_leI (by omega) (by omega)]; omega)]
      by_cases he : 2 * v = s
      · rw [if_pos (by rw [he]), if_pos ⟨he, by omega⟩]; rfl
      · rw [if_neg (fun q => he (nI_inj (by omega) (by omega) q)), if_neg (by omega)]; rfl
theorem m_carriedOf {σ : FH} {r : AR} {a : AS} {n j : Nat} (h : RM σ 0 r) (hb : RB r) (hs : SM σ 33 0 a) (hsb : SB r a n) (hj : j < 6) : fX12_carriedOf (nI j) σ = some (nI (crd (vts r a j) (alls r a))) := by
  have h1 := vts_le hb hsb.2.2.2.2.2.1 j
  have h2 := alls_le hb hsb
  unfold fX12_carriedOf
  rw [m_votesOf h hb hs hj, fxBP_s, fxL_r, m_allSeats h hb hs, fxBP_s, fxL_r, show (2 : Int32) * nI (vts r a j) = nI (2 * vts r a j) from pk_mul 2 _]
  unfold crd
  by_cases h : alls r a < 2 * vts r a j
  · rw [if_neg (by rw [nI_leI (by omega) (by omega)]; omega), if_pos h]; rfl
  · rw [if_pos (nI_le (by omega) (by omega)), if_neg h]
    by_cases he : 2 * vts r a j = alls r a
    · rw [if_pos (by rw [he])]
      by_cases h0 : alls r a = 0
      · rw [h0, if_pos (by decide), if_neg (by omega)]; rfl
      · rw [if_neg (by rw [n0, nI_leI (by omega) (by omega)]; omega), if_pos ⟨he, by omega⟩]; rfl
    · rw [if_neg (fun q => he (nI_inj (by omega) (by omega) q)), if_neg (by omega)]; rfl
theorem op_ware (x y : Int32) : OpP (fX11_ware x y) (fX12_ware x y) := by
  intro n σx σm hn h
  have h1 := Rel_th h
  unfold fX11_ware fX12_ware
  rw [fxL_r]
  generalize fx_si σm 0 0 0 = σ1 at h1 ⊢
  obtain ⟨r, ef, a, t, d, hMV, hRB, hEB, hRX, hEX, hRM, hEM, hNX, hSX, hSM, hSB, -⟩ := id h1
  have hw := hRB.1
  have hq := hRB.2.1
  rw [fxG_t hRX.1]
  rcases pk_ix x (n := r 0 0) (by omega) with hx | hx | ⟨j, hj, rfl⟩
  · exact ⟨-1, σ1, by rw [x_hasWare_out hRX (Or.inl hx), fxBP_s, if_pos rfl], by rw [m_isWare_out hRM (Or.inl hx), fxBP_s, if_pos rfl], Rel_up h1 (by omega)⟩
  · exact ⟨-1, σ1, by rw [x_hasWare_out hRX (Or.inr hx), fxBP_s, if_pos rfl], by rw [m_isWare_out hRM (Or.inr hx), fxBP_s, if_pos rfl], Rel_up h1 (by omega)⟩
  · have hB := hRB.2.2.2.2.1 j hj
    have h99 := hSB.2.2.2.2.2.1
    have hv := vts_le hRB h99 j
    have hal := alls_le hRB hSB
    rcases pk_ix y (n := 6) (by decide) with hy | hy | ⟨k, hk, rfl⟩
    · exact ⟨-1, σ1, by rw [x_hasWare_in hRX hRB hj, fxBP_s, if_neg (by decide), if_neg (fun q => by rw [q] at hy; exact absurd hy (by decide)), if_neg (fun q => by rw [q] at hy; exact absurd hy (by decide)), if_neg (fun q => by rw [q] at hy; exact absurd hy (by decide)), if_neg (fun q => by rw [q] at hy; exact absurd hy (by decide)), if_neg (fun q => by rw [q] at hy; exact absurd hy (by decide)), if_neg (fun q => by rw [q] at hy; exact absurd hy (by decide))], by rw [m_isWare_in hRM hRB hj, fxBP_s, if_neg (by decide), wi_f (Or.inl hy), fxBP_s, if_pos rfl], Rel_up h1 (by omega)⟩
    · have hy2 : 5 < y := nle_lt (a := 5) (by decide) hy (by decide)
      exact ⟨-1, σ1, by rw [x_hasWare_in hRX hRB hj, fxBP_s, if_neg (by decide), if_neg (fun q => by rw [q] at hy; exact absurd hy (by decide)), if_neg (fun q => by rw [q] at hy; exact absurd hy (by decide)), if_neg (fun q => by rw [q] at hy; exact absurd hy (by decide)), if_neg (fun q => by rw [q] at hy; exact absurd hy (by decide)), if_neg (fun q => by rw [q] at hy; exact absurd hy (by decide)), if_neg (fun q => by rw [q] at hy; exact absurd hy (by decide))], by rw [m_isWare_in hRM hRB hj, fxBP_s, if_neg (by decide), wi_f (Or.inr hy2), fxBP_s, if_pos rfl], Rel_up h1 (by omega)⟩
    · rcases (show k = 0 ∨ k = 1 ∨ k = 2 ∨ k = 3 ∨ k = 4 ∨ k = 5 by omega) with rfl | rfl | rfl | rfl | rfl | rfl
      · refine ⟨nI (r 1 j), σ1, ?_, ?_, Rel_up h1 (by omega)⟩
        · rw [x_hasWare_in hRX hRB hj, fxBP_s, if_neg (by decide), if_pos (by decide), fxG_t hRX.1, fxG_t (fx_inN (by omega) (by decide)), fx_clN (by omega), (hRX.2.2.2.2.1 j hj).1]
        · rw [m_isWare_in hRM hRB hj, fxBP_s, if_neg (by decide), wi_t (by decide) (by decide), fxBP_s, if_neg (by decide), if_neg (by decide), if_pos (by decide), fxG_t (fx_inN (by omega) (by decide)), fx_clN (by omega), rm_k hRM hj]
      · refine ⟨nI (r 2 j), σ1, ?_, ?_, Rel_up h1 (by omega)⟩
        · rw [x_hasWare_in hRX hRB hj, fxBP_s, if_neg (by decide), if_neg (by decide), if_pos (by decide), fxG_t hRX.1, fxG_t (fx_inN (by omega) (by decide)), fx_clN (by omega), (hRX.2.2.2.2.1 j hj).2.1]
        · rw [m_isWare_in hRM hRB hj, fxBP_s, if_neg (by decide), wi_t (by decide) (by decide), fxBP_s, if_neg (by decide), if_neg (by decide), if_neg (by decide), if_pos (by decide), fxG_t (fx_inN (by omega) (by decide)), fx_clN (by omega), rm_wh hRM hj]
      · refine ⟨nI (a (3 + j)), σ1, ?_, ?_, Rel_up h1 (by omega)⟩
        · rw [x_hasWare_in hRX hRB hj, fxBP_s, if_neg (by decide), if_neg (by decide), if_neg (by decide), if_pos (by decide), fxG_t (fx_inN (by omega) (by decide)), fx_clN (by omega), hSX.2.2.2.2.1 j (by omega)]
        · rw [m_isWare_in hRM hRB hj, fxBP_s, if_neg (by decide), wi_t (by decide) (by decide), fxBP_s, if_neg (by decide), if_neg (by decide), if_neg (by decide), if_neg (by decide), thN, fxG_t (fx_inN (by omega) (by decide)), fx_clN (by omega), sm_k hSM (by omega)]
      · refine ⟨nI (rH r j), σ1, ?_, ?_, Rel_up h1 (by omega)⟩
        · rw [x_hasWare_in hRX hRB hj, fxBP_s, if_neg (by decide), if_neg (by decide), if_neg (by decide), if_neg (by decide), if_pos (by decide), fxG_t hRX.1, x_halfOf hRX hRB hj, fxBP_s]
        · rw [m_isWare_in hRM hRB hj, fxBP_s, if_neg (by decide), wi_t (by decide) (by decide), fxBP_s, if_neg (by decide), if_pos (by decide), if_pos (by decide), m_halfOf hRM hRB hj, fxBP_s]
      · refine ⟨nI (vts r a j), σ1, ?_, ?_, Rel_up h1 (by omega)⟩
        · rw [x_hasWare_in hRX hRB hj, fxBP_s, if_neg (by decide), if_neg (by decide), if_neg (by decide), if_neg (by decide), if_neg (by decide), if_pos (by decide), fxG_t hRX.1, x_votesFor hRX hRB hSX h99 (by omega), fxBP_s]
        · rw [m_isWare_in hRM hRB hj, fxBP_s, if_neg (by decide), wi_t (by decide) (by decide), fxBP_s, if_neg (by decide), if_pos (by decide), if_neg (by decide), if_pos (by decide), m_votesOf hRM hRB hSM (by omega), fxBP_s]
      · refine ⟨nI (crd (vts r a j) (alls r a)), σ1, ?_, ?_, Rel_up h1 (by omega)⟩
        · rw [x_hasWare_in hRX hRB hj, fxBP_s, if_neg (by decide), if_neg (by decide), if_neg (by decide), if_neg (by decide), if_neg (by decide), if_neg (by decide), if_pos (by decide), fxG_t hRX.1, x_votesFor hRX hRB hSX h99 (by omega), fxBP_s, x_allSeats hSX hRB hSB, fxBP_s, x_standing (by omega) (by omega), fxBP_s]
        · rw [m_isWare_in hRM hRB hj, fxBP_s, if_neg (by decide), wi_t (by decide) (by decide), fxBP_s, if_neg (by decide), if_pos (by decide), if_neg (by decide), if_neg (by decide), m_carriedOf hRM hRB hSM hSB (by omega), fxBP_s]
theorem op_party (x y : Int32) : OpP (fX11_party x y) (fX12_party x y) := by
  intro n σx σm hn h
  have h1 := Rel_th h
  unfold fX11_party fX12_party
  rw [fxL_r]
  generalize fx_si σm 0 0 0 = σ1 at h1 ⊢
  obtain ⟨r, ef, a, t, d, hMV, hRB, hEB, hRX, hEX, hRM, hEM, hNX, hSX, hSM, hSB, -⟩ := id h1
  have hw := hRB.1
  have hq := hRB.2.1
  rw [fxG_t hRX.1]
  rcases pk_ix x (n := r 0 1) (by omega) with hx | hx | ⟨j, hj, rfl⟩
  · exact ⟨-1, σ1, by rw [x_hasParty_out hRX (Or.inl hx), fxBP_s, if_pos rfl], by rw [m_isParty_out hRM (Or.inl hx), fxBP_s, if_pos rfl], Rel_up h1 (by omega)⟩
  · exact ⟨-1, σ1, by rw [x_hasParty_out hRX (Or.inr hx), fxBP_s, if_pos rfl], by rw [m_isParty_out hRM (Or.inr hx), fxBP_s, if_pos rfl], Rel_up h1 (by omega)⟩
  · skip
    rcases pk_ix y (n := 2) (by decide) with hy | hy | ⟨k, hk, rfl⟩
    · exact ⟨-1, σ1, by rw [x_hasParty_in hRX hRB hj, fxBP_s, if_neg (by decide), if_neg (fun q => by rw [q] at hy; exact absurd hy (by decide)), if_neg (fun q => by rw [q] at hy; exact absurd hy (by decide))], by rw [m_isParty_in hRM hRB hj, fxBP_s, if_neg (by decide), wi_f (Or.inl hy), fxBP_s, if_pos rfl], Rel_up h1 (by omega)⟩
    · have hy2 : 1 < y := nle_lt (a := 1) (by decide) hy (by decide)
      exact ⟨-1, σ1, by rw [x_hasParty_in hRX hRB hj, fxBP_s, if_neg (by decide), if_neg (fun q => by rw [q] at hy; exact absurd hy (by decide)), if_neg (fun q => by rw [q] at hy; exact absurd hy (by decide))], by rw [m_isParty_in hRM hRB hj, fxBP_s, if_neg (by decide), wi_f (Or.inr hy2), fxBP_s, if_pos rfl], Rel_up h1 (by omega)⟩
    · rcases (show k = 0 ∨ k = 1 by omega) with rfl | rfl
      · refine ⟨nI (a (9 + j)), σ1, ?_, ?_, Rel_up h1 (by omega)⟩
        · rw [x_hasParty_in hRX hRB hj, fxBP_s, if_neg (by decide), if_pos (by decide), fxG_t (fx_inN (by omega) (by decide)), fx_clN (by omega), hSX.2.2.2.2.2 j (by omega)]
        · rw [m_isParty_in hRM hRB hj, fxBP_s, if_neg (by decide), wi_t (by decide) (by decide), fxBP_s, if_neg (by decide), if_pos (by decide), niN, fxG_t (fx_inN (by omega) (by decide)), fx_clN (by omega), sm_k hSM (by omega)]
      · refine ⟨nI (r 5 j), σ1, ?_, ?_, Rel_up h1 (by omega)⟩
        · rw [x_hasParty_in hRX hRB hj, fxBP_s, if_neg (by decide), if_neg (by decide), if_pos (by decide), fxG_t hRX.1, fxG_t (fx_inN (by omega) (by decide)), fx_clN (by omega), (hRX.2.2.2.2.2 j hj).2]
        · rw [m_isParty_in hRM hRB hj, fxBP_s, if_neg (by decide), wi_t (by decide) (by decide), fxBP_s, if_neg (by decide), if_neg (by decide), fxG_t (fx_inN (by omega) (by decide)), fx_clN (by omega), rm_c hRM hj]
