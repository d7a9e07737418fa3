/-! ===== by hand: the reference; work, stop, join, lend, week, undo ===== -/
section HM
variable {σ : FH} {r : AR} {a : AS} {n : Nat}
theorem SM_up {c k : Nat} {v : Nat} (h : SM σ c 0 a) : SM (fx_si σ c k (nI v)) c 0 (upS a k v) := fun j hj => by
  rw [Nat.zero_add, si1]
  by_cases e : j = k
  · rw [if_pos ⟨rfl, e⟩, e, upS_eq]
  · rw [if_neg (by omega), upS_ne e]
    have := h j hj
    rwa [Nat.zero_add] at this
theorem m_isHalf (h : RM σ 0 r) (hb : RB r) (hs : SM σ 33 0 a) (hd : ∀ i, i < r 0 0 → a (3 + i) ≤ rH r i) {i : Nat} (hi : i < r 0 0) : fX12_isHalf (nI i) σ = some (if a (3 + i) = rH r i then 1 else 0) := by
  have hw := hb.1
  have ha := hd i hi
  have hB := hb.2.2.2.2.1 i hi
  have hhalf : rH r i ≤ 30 := by unfold rH; omega
  unfold fX12_isHalf
  rw [thN, fxG_t (fx_inN (by omega) (by decide)), m_halfOf h hb hi, fxBP_s, fx_clN (by omega), sm_k hs (by omega), fxL_r]
  by_cases e : a (3 + i) = rH r i
  · rw [if_pos (by rw [e]), if_pos e]; rfl
  · rw [if_neg (fun q => e (nI_inj (by omega) (by omega) q)), if_neg e]; rfl
theorem m_canJoin (h : RM σ 0 r) (hb : RB r) (hs : SM σ 33 0 a) (hd : ∀ i, i < r 0 0 → a (3 + i) ≤ rH r i) {i j : Nat} (hi : i < r 0 0) (hj : j < r 0 0) : fX12_canJoin (nI i) (nI j) σ = some (if canJ r a i j then 1 else 0) := by
  have hw := hb.1
  have hBi := hb.2.2.2.2.1 i hi
  have hBj := hb.2.2.2.2.1 j hj
  unfold fX12_canJoin canJ
  rw [fxG_t (fx_inN (by omega) (by decide)), fxG_t (fx_inN (by omega) (by decide)), fx_clN (by omega), fx_clN (by omega), rm_wh h hi, rm_wh h hj, m_isHalf h hb hs hd hi, fxBP_s, m_isHalf h hb hs hd hj, fxBP_s]
  by_cases e : i = j
  · rw [if_pos (by rw [e]), if_neg (by simp; omega)]
  · rw [if_neg (fun q => e (nI_inj (by omega) (by omega) q))]
    by_cases e2 : r 2 i = r 2 j
    · rw [if_pos (by rw [e2])]
      by_cases c2 : a (3 + i) = rH r i
      · rw [if_pos c2, if_neg (by decide)]
        by_cases c3 : a (3 + j) = rH r j
        · rw [if_pos c3, if_neg (by decide), if_pos (decide_eq_true ⟨e, e2, c2, c3⟩)]
        · rw [if_neg c3, if_pos rfl, if_neg (by simp; omega)]
      · rw [if_neg c2, if_pos rfl, if_neg (by simp; omega)]
    · rw [if_neg (fun q => e2 (nI_inj (by omega) (by omega) q)), if_neg (by simp; omega)]
theorem m_joins (h : RM σ 0 r) (hb : RB r) (hs : SM σ 33 0 a) {i j : Nat} (hi : i < r 0 0) (hj : j < r 0 0) : ∃ σ', fX12_joins (nI i) (nI j) σ = some σ' ∧ SM σ' 33 0 (jn r a i j) ∧ agr (fun b => b = 33) σ σ' := by
  have hw := hb.1
  unfold fX12_joins
  rw [thN, thN, fxG_t (fx_inN (by omega) (by decide)), fxL_r, fxG_t (fx_inN (by omega) (by decide)), fxL_r, fx_clN (by omega), fx_clN (by omega), gi _ _ (by decide), gi _ _ (by decide), gi _ _ (by decide), fxL_r, gi _ _ (by decide), gi _ _ (by decide), fxL_r, cl1, cl2, n0]
  have s1 := SM_up (k := 3 + i) (v := 0) hs
  have s2 := SM_up (k := 3 + j) (v := 0) s1
  have e1 := sm_k s2 (k := 1) (by omega)
  rw [upS_ne (by omega), upS_ne (by omega)] at e1
  have e2 : (fx_si (fx_si σ 33 (3 + i) (nI 0)) 33 (3 + j) (nI 0)).1 2 2 = nI (r 0 2) := by rw [si1, if_neg (by omega), si1, if_neg (by omega)]; exact rm_f h
  rw [e1, e2, show (10 : Int32) * nI (r 0 2) = nI (10 * r 0 2) from pk_mul 10 _, nI_add]
  have s3 := SM_up (k := 1) (v := a 1 + 10 * r 0 2) s2
  have e3 := sm_k s3 (k := 2) (by omega)
  rw [upS_ne (by omega), upS_ne (by omega), upS_ne (by omega)] at e3
  rw [e3, nI_1]
  exact ⟨_, rfl, SM_up s3, agr_sit rfl (agr_sit rfl (agr_sit rfl (agr_si rfl)))⟩
theorem m_canLend (h : RM σ 0 r) (hb : RB r) (hs : SM σ 33 0 a) (hsb : ∀ p, p < r 0 1 → a (9 + p) ≤ 99) {p o s : Nat} (hp : p < r 0 1) (ho : o < r 0 1) (hs2 : s ≤ 20) : fX12_canLend (nI p) (nI o) (nI s) σ = some (if canL a p o s then 1 else 0) := by
  have hq := hb.2.1
  have h1 := hsb p hp
  have h2 := hsb o ho
  unfold fX12_canLend canL
  rw [niN, niN, fxG_t (fx_inN (by omega) (by decide)), fxG_t (fx_inN (by omega) (by decide)), fx_clN (by omega), fx_clN (by omega), sm_k hs (by omega), sm_k hs (by omega), nI_add]
  by_cases e : p = o
  · rw [if_pos (by rw [e]), if_neg (by simp; omega)]
  · rw [if_neg (fun q => e (nI_inj (by omega) (by omega) q))]
    by_cases e2 : s ≤ a (9 + p)
    · rw [if_neg (by rw [nI_ltI (by omega) (by omega)]; omega)]
      by_cases e3 : a (9 + o) + s ≤ 99
      · rw [if_neg (by rw [show (99 : Int32) = nI 99 from rfl, nI_ltI (by omega) (by omega)]; omega), if_pos (decide_eq_true ⟨e, e2, e3⟩)]
      · rw [if_pos (by rw [show (99 : Int32) = nI 99 from rfl, nI_ltI (by omega) (by omega)]; omega), if_neg (by simp; omega)]
    · rw [if_pos (nI_lt (by omega) (by omega)), if_neg (by simp; omega)]
theorem m_lends (hs : SM σ 33 0 a) {p o s : Nat} (hp : p < 5) (ho : o < 5) (hc : canL a p o s = true) : ∃ σ', fX12_lends (nI p) (nI o) (nI s) σ = some σ' ∧ SM σ' 33 0 (ld a p o s) ∧ agr (fun b => b = 33) σ σ' := by
  obtain ⟨c1, c2, c3⟩ := of_decide_eq_true hc
  unfold fX12_lends
  rw [niN, niN, fxG_t (fx_inN (by omega) (by decide)), fxG_t (fx_inN (by omega) (by decide)), fx_clN (by omega), sm_k hs (by omega), pk_sub c2, fxL_r, fxG_t (fx_inN (by omega) (by decide)), fxG_t (fx_inN (by omega) (by decide)), fx_clN (by omega)]
  have s1 := SM_up (k := 9 + p) (v := a (9 + p) - s) hs
  have e1 := sm_k s1 (k := 9 + o) (by omega)
  rw [upS_ne (by omega)] at e1
  rw [e1, nI_add, fxL_r]
  exact ⟨_, rfl, SM_up s1, agr_sit rfl (agr_si rfl)⟩
end HM
theorem op_work (x y : Int32) : OpI (fX11_work x y) (fX12_work x y) := by
  intro n σx σm hn h
  have h1 := Rel_th h
  unfold fX11_work fX12_work
  rw [fxL_r]
  generalize fx_si σm 0 0 0 = σ1 at h1 ⊢
  obtain ⟨r, ef, a, t, d, hA⟩ := id h1
  obtain ⟨hMV, hRB, hEB, hRX, hEX, hRM, hEM, hNX, hSX, hSM, hSB, -⟩ := id hA
  have hw := hRB.1
  rw [fxG_t hRX.1]
  rcases pk_ix x (n := r 0 0) (by omega) with hx | hx | ⟨j, hj, rfl⟩
  · exact ⟨-1, σx, σ1, by rw [x_hasWare_out hRX (Or.inl hx), fxBP_s, if_pos rfl], by rw [m_isWare_out hRM (Or.inl hx), fxBP_s, if_pos rfl], Rel_up h1 (by omega)⟩
  · exact ⟨-1, σx, σ1, by rw [x_hasWare_out hRX (Or.inr hx), fxBP_s, if_pos rfl], by rw [m_isWare_out hRM (Or.inr hx), fxBP_s, if_pos rfl], Rel_up h1 (by omega)⟩
  · rcases lot_cases y with hy | ⟨m, m1, m2, rfl⟩
    · exact ⟨-1, σx, σ1, by rw [x_hasWare_in hRX hRB hj, fxBP_s, if_neg (by decide), x_isLot_f hy, fxBP_s, if_pos rfl], by rw [m_isWare_in hRM hRB hj, fxBP_s, if_neg (by decide), wi_f hy, fxBP_s, if_pos rfl], Rel_up h1 (by omega)⟩
    · obtain ⟨σx2, σ2, e1, e2, hA2, ev⟩ := keepA hA
      obtain ⟨-, -, -, hRX2, -, hRM2, -, -, hSX2, hSM2, hSB2, -⟩ := id hA2
      have hB := hRB.2.2.2.2.1 j hj
      have hd := hSB.2.2.2.1 j hj
      have hhalf : rH r j ≤ 30 := by unfold rH; omega
      obtain ⟨σx3, e3, hs3, g3⟩ := x_workOn hRX2 hRB hSX2 (j := j) (m := m) hj (by omega) (by omega)
      obtain ⟨σ3, e4, hs4, g4⟩ := m_works hRM2 hRB hSM2 (j := j) (m := m) hj (by omega) hd
      exact ⟨nI (wfi r a j m), σx3, σ3, by rw [x_hasWare_in hRX hRB hj, fxBP_s, if_neg (by decide), x_isLot_t m1 m2, fxBP_s, if_neg (by decide), e1, fxBV_s, fxG_t hRX2.1, e3, fxBI_s], by rw [m_isWare_in hRM hRB hj, fxBP_s, if_neg (by decide), m_lot_t m1 m2, fxBP_s, if_neg (by decide), e2, fxBV_s, e4, fxBI_s], ⟨r, ef, _, t, d, RelA_st hA2 (agr_mono (fun q hq => by omega) g3) (agS_33 g4) hs3 hs4 (SB_wrk hRB hSB hj m2) (by omega)⟩⟩
theorem op_stop (x y : Int32) : OpI (fX11_stop x y) (fX12_stop x y) := by
  intro n σx σm hn h
  have h1 := Rel_th h
  unfold fX11_stop fX12_stop
  rw [fxL_r]
  generalize fx_si σm 0 0 0 = σ1 at h1 ⊢
  obtain ⟨r, ef, a, t, d, hA⟩ := id h1
  obtain ⟨hMV, hRB, hEB, hRX, hEX, hRM, hEM, hNX, hSX, hSM, hSB, -⟩ := id hA
  have hw := hRB.1
  rw [fxG_t hRX.1]
  rcases pk_ix x (n := r 0 0) (by omega) with hx | hx | ⟨j, hj, rfl⟩
  · exact ⟨-1, σx, σ1, by rw [x_hasWare_out hRX (Or.inl hx), fxBP_s, if_pos rfl], by rw [m_isWare_out hRM (Or.inl hx), fxBP_s, if_pos rfl], Rel_up h1 (by omega)⟩
  · exact ⟨-1, σx, σ1, by rw [x_hasWare_out hRX (Or.inr hx), fxBP_s, if_pos rfl], by rw [m_isWare_out hRM (Or.inr hx), fxBP_s, if_pos rfl], Rel_up h1 (by omega)⟩
  · rcases lot_cases y with hy | ⟨m, m1, m2, rfl⟩
    · exact ⟨-1, σx, σ1, by rw [x_hasWare_in hRX hRB hj, fxBP_s, if_neg (by decide), x_isLot_f hy, fxBP_s, if_pos rfl], by rw [m_isWare_in hRM hRB hj, fxBP_s, if_neg (by decide), wi_f hy, fxBP_s, if_pos rfl], Rel_up h1 (by omega)⟩
    · obtain ⟨σx2, σ2, e1, e2, hA2, ev⟩ := keepA hA
      obtain ⟨-, -, -, hRX2, -, hRM2, -, -, hSX2, hSM2, hSB2, -⟩ := id hA2
      have hB := hRB.2.2.2.2.1 j hj
      have hd := hSB.2.2.2.1 j hj
      have hhalf : rH r j ≤ 30 := by unfold rH; omega
      obtain ⟨σx3, e3, hs3, g3⟩ := x_takeOff hSX2 (i := j) (m := m) (by omega) (by omega) (by omega)
      have hs4 : SM (fx_si σ2 33 (3 + j) (nI (a (3 + j) - m))) 33 0 (stp a j m) := SM_up hSM2
      have e5 : σx3.1 8 j = nI (a (3 + j) - m) := by rw [hs3.2.2.2.2.1 j (by omega), stp, upS_eq]
      refine ⟨nI (a (3 + j) - m), σx3, fx_si σ2 33 (3 + j) (nI (a (3 + j) - m)), ?_, ?_, ⟨r, ef, _, t, d, RelA_st hA2 (agr_mono (fun q hq => by omega) g3) (agS_33 (agr_si rfl)) hs3 hs4 (SB_stp hSB hj) (by omega)⟩⟩
      · rw [x_hasWare_in hRX hRB hj, fxBP_s, if_neg (by decide), x_isLot_t m1 m2, fxBP_s, if_neg (by decide), e1, fxBV_s, e3, fxBV_s, fxG_t (fx_inN (by omega) (by decide)), fx_clN (by omega), e5]
      · rw [m_isWare_in hRM hRB hj, fxBP_s, if_neg (by decide), m_lot_t m1 m2, fxBP_s, if_neg (by decide), e2, fxBV_s, thN, fxG_t (fx_inN (by omega) (by decide)), fxG_t (fx_inN (by omega) (by decide)), fx_clN (by omega), sm_k hSM2 (by omega), posN (by omega) (by omega), fxL_r, fxG_t (fx_inN (by omega) (by decide)), si1, if_pos ⟨rfl, rfl⟩]
theorem op_join (x y : Int32) : OpI (fX11_join x y) (fX12_join x y) := by
  intro n σx σm hn h
  have h1 := Rel_th h
  unfold fX11_join fX12_join
  rw [fxL_r]
  generalize fx_si σm 0 0 0 = σ1 at h1 ⊢
  obtain ⟨r, ef, a, t, d, hA⟩ := id h1
  obtain ⟨hMV, hRB, hEB, hRX, hEX, hRM, hEM, hNX, hSX, hSM, hSB, -⟩ := id hA
  have hw := hRB.1
  have hd := hSB.2.2.2.1
  rw [fxG_t hRX.1]
  have out : ∀ (ho : (x < 0 ∨ nI (r 0 0) ≤ x) ∨ (y < 0 ∨ nI (r 0 0) ≤ y)) (v : Option (Int32 × FH)), v = some (0, σ1) → ∃ v' σx' σm', (fxBP (fX7_canJoin 7 (σx.2.2 2) x y σx) fun r3 => if r3 = 0 then some ((0 : Int32), σx) else fxBV (fX11_keepPast σx) fun σ8 => fxG (LX[(σ8.2.2 2)]? = some (5, 0)) (fxBV (fX7_arrest 7 (σ8.2.2 2) x y σ8) fun σ12 => some ((1 : Int32), σ12))) = some (v', σx') ∧ v = some (v', σm') ∧ Rel (n + 1) σx' σm' := by
    intro ho v hv
    exact ⟨0, σx, σ1, by rw [x_canJoin_out hRX hRB hSX ho, fxBP_s, if_pos rfl], hv, Rel_up h1 (by omega)⟩
  rcases pk_ix x (n := r 0 0) (by omega) with hx | hx | ⟨i, hi, rfl⟩
  · exact out (Or.inl (Or.inl hx)) _ (by rw [m_isWare_out hRM (Or.inl hx), fxBP_s, if_pos rfl])
  · exact out (Or.inl (Or.inr hx)) _ (by rw [m_isWare_out hRM (Or.inr hx), fxBP_s, if_pos rfl])
  · rcases pk_ix y (n := r 0 0) (by omega) with hy | hy | ⟨j, hj, rfl⟩
    · exact out (Or.inr (Or.inl hy)) _ (by rw [m_isWare_in hRM hRB hi, fxBP_s, if_neg (by decide), m_isWare_out hRM (Or.inl hy), fxBP_s, if_pos rfl])
    · exact out (Or.inr (Or.inr hy)) _ (by rw [m_isWare_in hRM hRB hi, fxBP_s, if_neg (by decide), m_isWare_out hRM (Or.inr hy), fxBP_s, if_pos rfl])
    · by_cases c : canJ r a i j = true
      · obtain ⟨σx2, σ2, e1, e2, hA2, ev⟩ := keepA hA
        obtain ⟨-, -, -, hRX2, -, hRM2, -, -, hSX2, hSM2, hSB2, -⟩ := id hA2
        obtain ⟨σx3, e3, hs3, g3⟩ := x_arrest hRX2 hRB hSX2 hi hj
        obtain ⟨σ3, e4, hs4, g4⟩ := m_joins hRM2 hRB hSM2 hi hj
        exact ⟨1, σx3, σ3, by rw [x_canJoin hRX hRB hSX hd hi hj, fxBP_s, if_pos c, if_neg (by decide), e1, fxBV_s, fxG_t hRX2.1, e3, fxBV_s], by rw [m_isWare_in hRM hRB hi, fxBP_s, if_neg (by decide), m_isWare_in hRM hRB hj, fxBP_s, if_neg (by decide), m_canJoin hRM hRB hSM hd hi hj, fxBP_s, if_pos c, if_neg (by decide), e2, fxBV_s, e4, fxBV_s], ⟨r, ef, _, t, d, RelA_st hA2 (agr_mono (fun q hq => by omega) g3) (agS_33 g4) hs3 hs4 (SB_jn hRB hSB hi hj) (by omega)⟩⟩
      · exact ⟨0, σx, σ1, by rw [x_canJoin hRX hRB hSX hd hi hj, fxBP_s, if_neg c, if_pos rfl], by rw [m_isWare_in hRM hRB hi, fxBP_s, if_neg (by decide), m_isWare_in hRM hRB hj, fxBP_s, if_neg (by decide), m_canJoin hRM hRB hSM hd hi hj, fxBP_s, if_neg c, if_pos rfl], Rel_up h1 (by omega)⟩
theorem op_week : OpI fX11_week fX12_week := by
  intro n σx σm hn h
  have h1 := Rel_th h
  unfold fX11_week fX12_week
  rw [fxL_r]
  generalize fx_si σm 0 0 0 = σ1 at h1 ⊢
  obtain ⟨r, ef, a, t, d, hA⟩ := id h1
  obtain ⟨hMV, hRB, hEB, -, -, -, -, -, -, -, hSB, -⟩ := id hA
  obtain ⟨σx2, σ2, e1, e2, hA2, ev⟩ := keepA hA
  obtain ⟨hMV2, -, -, hRX2, hEX2, hRM2, hEM2, -, hSX2, hSM2, hSB2, -⟩ := id hA2
  have hT : σx2.2.2 2 = 17 ∨ σx2.2.2 2 = 28 := by rcases hMV2.1 with z | z <;> omega
  have h0 : a 0 < 60000 := by have := hSB.1; omega
  obtain ⟨σx3, e3, hs3, g3⟩ := x_passWeek hRX2 hRB hEX2 hEB hSX2 hSB.2.2.2.1 hSB.2.2.2.2.2.1 h0
  obtain ⟨σ3, e4, hs4, -, g4⟩ := m_passes hRM2 hRB hEM2 hEB hSM2 hSB.2.2.2.1 hSB.2.2.2.2.2.1 h0
  exact ⟨nI (wf r ef a), σx3, σ3, by rw [e1, fxBV_s, fxG_t hRX2.1, e3, fxBI_s], by rw [e2, fxBV_s, e4, fxBI_s], ⟨r, ef, _, t, d, RelA_st hA2 (agr_mono (fun q hq => by unfold scX; omega) g3) (agS_M g4) hs3 hs4 (SB_wk hRB hEB hSB) (by omega)⟩⟩
theorem op_lend (x y z : Int32) : OpI (fX11_lend x y z) (fX12_lend x y z) := by
  intro n σx σm hn h
  have h1 := Rel_th h
  unfold fX11_lend fX12_lend
  rw [fxL_r]
  generalize fx_si σm 0 0 0 = σ1 at h1 ⊢
  obtain ⟨r, ef, a, t, d, hA⟩ := id h1
  obtain ⟨hMV, hRB, hEB, hRX, hEX, hRM, hEM, hNX, hSX, hSM, hSB, -⟩ := id hA
  have hw := hRB.2.1
  have hsb := hSB.2.2.2.2.2.1
  have mout : ∀ (ho : (x < 0 ∨ nI (r 0 1) ≤ x) ∨ (y < 0 ∨ nI (r 0 1) ≤ y)) (K : Int32 → Option (Int32 × FH)), (fxBP (fX12_isParty x σ1) fun r3 => if r3 = 0 then some ((0 : Int32), σ1) else fxBP (fX12_isParty y σ1) fun r7 => if r7 = 0 then some ((0 : Int32), σ1) else K r7) = some (0, σ1) := by
    intro ho K
    rcases pk_ix x (n := r 0 1) (by omega) with hx | hx | ⟨i, hi, rfl⟩
    · rw [m_isParty_out hRM (Or.inl hx), fxBP_s, if_pos rfl]
    · rw [m_isParty_out hRM (Or.inr hx), fxBP_s, if_pos rfl]
    · have hy : y < 0 ∨ nI (r 0 1) ≤ y := ho.resolve_left (fun q => q.elim (nI_pos (by omega)) (fun z => by rw [nI_leI (by omega) (by omega)] at z; omega))
      rw [m_isParty_in hRM hRB hi, fxBP_s, if_neg (by decide), m_isParty_out hRM hy, fxBP_s, if_pos rfl]
  rcases pk_ix x (n := r 0 1) (by omega) with hx | hx | ⟨i, hi, rfl⟩
  · refine ⟨0, σx, σ1, ?_, mout (Or.inl (Or.inl hx)) _, Rel_up h1 (by omega)⟩
    rcases lot_cases z with hz | ⟨m, m1, m2, rfl⟩
    · rw [x_isLot_f hz, fxBP_s, if_pos rfl]
    · rw [x_isLot_t m1 m2, fxBP_s, if_neg (by decide), fxG_t hRX.1, x_canLend_out hRX hRB hSX (Or.inl (Or.inl hx)), fxBP_s, if_pos rfl]
  · refine ⟨0, σx, σ1, ?_, mout (Or.inl (Or.inr hx)) _, Rel_up h1 (by omega)⟩
    rcases lot_cases z with hz | ⟨m, m1, m2, rfl⟩
    · rw [x_isLot_f hz, fxBP_s, if_pos rfl]
    · rw [x_isLot_t m1 m2, fxBP_s, if_neg (by decide), fxG_t hRX.1, x_canLend_out hRX hRB hSX (Or.inl (Or.inr hx)), fxBP_s, if_pos rfl]
  · by_cases hy : y < 0 ∨ nI (r 0 1) ≤ y
    · refine ⟨0, σx, σ1, ?_, mout (Or.inr hy) _, Rel_up h1 (by omega)⟩
      rcases lot_cases z with hz | ⟨m, m1, m2, rfl⟩
      · rw [x_isLot_f hz, fxBP_s, if_pos rfl]
      · rw [x_isLot_t m1 m2, fxBP_s, if_neg (by decide), fxG_t hRX.1, x_canLend_out hRX hRB hSX (Or.inr hy), fxBP_s, if_pos rfl]
    · obtain ⟨j, hj, rfl⟩ : ∃ j, j < r 0 1 ∧ y = nI j := by
        rcases pk_ix y (n := r 0 1) (by omega) with q | q | q
        · exact absurd (Or.inl q) hy
        · exact absurd (Or.inr q) hy
        · exact q
      rcases lot_cases z with hz | ⟨m, m1, m2, rfl⟩
      · exact ⟨0, σx, σ1, by rw [x_isLot_f hz, fxBP_s, if_pos rfl], by rw [m_isParty_in hRM hRB hi, fxBP_s, if_neg (by decide), m_isParty_in hRM hRB hj, fxBP_s, if_neg (by decide), wi_f hz, fxBP_s, if_pos rfl], Rel_up h1 (by omega)⟩
      · by_cases c : canL a i j m = true
        · obtain ⟨σx2, σ2, e1, e2, hA2, ev⟩ := keepA hA
          obtain ⟨-, -, -, hRX2, -, hRM2, -, -, hSX2, hSM2, hSB2, -⟩ := id hA2
          obtain ⟨σx3, e3, hs3, g3⟩ := x_moveSeats hSX2 (p := i) (o := j) (s := m) (by omega) (by omega) c
          obtain ⟨σ3, e4, hs4, g4⟩ := m_lends hSM2 (p := i) (o := j) (s := m) (by omega) (by omega) c
          exact ⟨1, σx3, σ3, by rw [x_isLot_t m1 m2, fxBP_s, if_neg (by decide), fxG_t hRX.1, x_canLend hRX hRB hSX hsb hi hj m2, fxBP_s, if_pos c, if_neg (by decide), e1, fxBV_s, e3, fxBV_s], by rw [m_isParty_in hRM hRB hi, fxBP_s, if_neg (by decide), m_isParty_in hRM hRB hj, fxBP_s, if_neg (by decide), m_lot_t m1 m2, fxBP_s, if_neg (by decide), m_canLend hRM hRB hSM hsb hi hj m2, fxBP_s, if_pos c, if_neg (by decide), e2, fxBV_s, e4, fxBV_s], ⟨r, ef, _, t, d, RelA_st hA2 (agr_mono (fun q hq => by omega) g3) (agS_33 g4) hs3 hs4 (SB_ld hRB hSB hi hj c) (by omega)⟩⟩
        · exact ⟨0, σx, σ1, by rw [x_isLot_t m1 m2, fxBP_s, if_neg (by decide), fxG_t hRX.1, x_canLend hRX hRB hSX hsb hi hj m2, fxBP_s, if_neg c, if_pos rfl], by rw [m_isParty_in hRM hRB hi, fxBP_s, if_neg (by decide), m_isParty_in hRM hRB hj, fxBP_s, if_neg (by decide), m_lot_t m1 m2, fxBP_s, if_neg (by decide), m_canLend hRM hRB hSM hsb hi hj m2, fxBP_s, if_neg c, if_pos rfl], Rel_up h1 (by omega)⟩
