/-! ===== when, caught, joined ===== -/
theorem lt60 {i : Nat} (hi : i ≤ 1000) : (60 : Int32) < nI i ↔ 60 < i := by rw [show (60 : Int32) = nI 60 from rfl, nI_ltI (by decide) (by omega)]
/-- a ware is half done behind so many weeks -/
def hAt (r : AR) (ef : EF) (a : AS) (j k : Nat) : Bool := decide (wki r ef a k (3 + j) = rH r j)
/-- a ware is fined in the k-th week -/
def cAt (r : AR) (ef : EF) (a : AS) (j k : Nat) : Bool := decide (rH r j < wki r ef a (k - 1) (3 + j) + mch r ef (wki r ef a (k - 1)) j)
theorem hAt_up {r : AR} {ef : EF} {a : AS} (hb : RB r) {j : Nat} (hj : j < r 0 0) : ∀ k, hAt r ef a j k = true → hAt r ef a j (k + 1) = true := by
  intro k h
  have h := of_decide_eq_true h
  refine decide_eq_true ?_
  rw [wki, wk_at hb hj, h]
  omega
theorem mch_k {r : AR} {ef : EF} {a : AS} (hb : RB r) (j k : Nat) : mch r ef (wki r ef a k) j = much ef (r 1 j) (wki r ef a k (3 + j)) (rH r j) (vts r a j) (a 0 + k) := by
  unfold mch
  rw [wki_0, vts_eq (b := a) (fun p _ => wki_9 hb p k)]
section WH
variable {σ : FH} {T : Nat} {r : AR} {ef : EF} {a : AS} {n0 : Nat}
theorem x_when_loop (hT : T = 17 ∨ T = 28) (hv : σ.2.2 2 = T) (h : RX σ T r) (hb : RB r) (he : EX σ T ef) (heb : EB ef) (hs : SX σ 7 a) (hsb : SB r a n0) (hn0 : n0 < 700) {j : Nat} (hj : j < r 0 0) :
    ∀ (m n i so : Nat) (σ1 : FH), i + m = 61 → m < n → so ≤ 200 → (so = wki r ef a i (3 + j) ∨ (rH r j ≤ so ∧ wki r ef a i (3 + j) = rH r j)) → agr scX σ σ1 →
      ∃ σ', fX11_weeksToHalf_36 (nI j) (nI (rH r j)) (nI (vts r a j)) (fun σ12 => some (-1, σ12)) n (nI so) (nI i) σ1 = some (oI (fst1 (hAt r ef a j) m i), σ') ∧ agr scX σ σ'
  | m, 0, i, so, σ1, _, h2, _, _, _ => absurd h2 (by omega)
  | 0, n + 1, i, so, σ1, h1, _, _, _, g1 => by
    refine ⟨σ1, ?_, g1⟩
    rw [fX11_weeksToHalf_36, if_pos ((lt60 (by omega)).mpr (by omega))]
    rfl
  | m + 1, n + 1, i, so, σ1, h1, h2, hso2, hso, g1 => by
    have hw := hb.1
    have hB := hb.2.2.2.2.1 j hj
    have hhalf : rH r j ≤ 30 := by unfold rH; omega
    have hBk := SB_wki hb heb hsb i
    have hle := hBk.2.2.2.1 j hj
    have c60 : ¬ (60 : Int32) < nI i := fun q => by have := (lt60 (by omega)).mp q; omega
    by_cases c : so < rH r j
    · have hso' : so = wki r ef a i (3 + j) := by omega
      have hR := RX_agr h g1 (fun k hk => by unfold scX; omega)
      have hE := EX_agr he g1 (by unfold scX; omega) (by unfold scX; omega)
      have hs1 := SX_sc hs g1 (Or.inl rfl)
      have hvl := vts_le hb hsb.2.2.2.2.2.1 j
      have h0 := hsb.1
      obtain ⟨σ2, e2, g2⟩ := x_weekWork hR hE heb (k := r 1 j) (so := so) (half := rH r j) (votes := vts r a j) (date := a 0 + i) (by omega) (by omega) (by omega) (by omega) (by omega)
      have hml := much_le heb (r 1 j) so (rH r j) (vts r a j) (a 0 + i)
      have hst : wki r ef a (i + 1) (3 + j) = min (so + much ef (r 1 j) so (rH r j) (vts r a j) (a 0 + i)) (rH r j) := by rw [wki, wk_at hb hj, mch_k hb, ← hso']
      obtain ⟨σ', e', g'⟩ := x_when_loop hT hv h hb he heb hs hsb hn0 hj m n (i + 1) (so + much ef (r 1 j) so (rH r j) (vts r a j) (a 0 + i)) σ2 (by omega) (by omega) (by omega) (by omega) (agr_tr g1 (agr_mono (fun q hq => by unfold scX; omega) g2))
      refine ⟨σ', ?_, g'⟩
      have hn : ¬ hAt r ef a j i = true := fun q => by have := of_decide_eq_true q; omega
      rw [fX11_weeksToHalf_36, if_neg c60, if_pos (nI_lt c (by omega)), g1.2, hv, fxG_t hR.1, fxG_t hR.1, fxG_t (fx_inN (by omega) (by decide)), fx_clN (by omega), (hR.2.2.2.2.1 j hj).1, hs1.2.1, nI_add, e2, fxBI_s, nI_add, fxL_r, nI_1, e', fst1, if_neg hn]
    · have hy : hAt r ef a j i = true := decide_eq_true (by omega)
      refine ⟨σ1, ?_, g1⟩
      rw [fX11_weeksToHalf_36, if_neg c60, if_neg (by rw [nI_ltI (by omega) (by omega)]; omega), fst1, if_pos hy]
      rfl
theorem x_weeksToHalf (hT : T = 17 ∨ T = 28) (hv : σ.2.2 2 = T) (h : RX σ T r) (hb : RB r) (he : EX σ T ef) (heb : EB ef) (hs : SX σ 7 a) (hsb : SB r a n0) (hn0 : n0 < 700) {j : Nat} (hj : j < r 0 0) :
    ∃ σ', fX11_weeksToHalf (nI j) σ = some (oI (fst1 (hAt r ef a j) 61 0), σ') ∧ agr scX σ σ' := by
  have hw := hb.1
  have hB := hb.2.2.2.2.1 j hj
  have hhalf : rH r j ≤ 30 := by unfold rH; omega
  have hd := hsb.2.2.2.1 j hj
  obtain ⟨σ', e', g'⟩ := x_when_loop hT hv h hb he heb hs hsb hn0 hj 61 FU 0 (a (3 + j)) σ (by omega) (by decide) (by omega) (Or.inl rfl) (agr_rf _ _)
  refine ⟨σ', ?_, g'⟩
  unfold fX11_weeksToHalf
  rw [hv, fxG_t h.1, x_halfOf h hb hj, fxBP_s, fxG_t h.1, x_votesFor h hb hs hsb.2.2.2.2.2.1 (by omega), fxBP_s, fxG_t (fx_inN (by omega) (by decide)), fx_clN (by omega), hs.2.2.2.2.1 j (by omega), fxL_r, fxL_r]
  exact e'
theorem x_caught_loop (hT : T = 17 ∨ T = 28) (hv : σ.2.2 2 = T) (h : RX σ T r) (hb : RB r) (he : EX σ T ef) (heb : EB ef) (hs : SX σ 7 a) (hsb : SB r a n0) (hn0 : n0 < 700) {j : Nat} (hj : j < r 0 0) :
    ∀ (m n i : Nat) (σ1 : FH), i + m = 61 → 1 ≤ i → m < n → agr scX σ σ1 →
      ∃ σ', fX11_caught_49 (nI j) (nI (rH r j)) (nI (vts r a j)) (fun σ12 => some (-1, σ12)) n (nI (wki r ef a (i - 1) (3 + j))) (nI i) σ1 = some (oI (fst1 (cAt r ef a j) m i), σ') ∧ agr scX σ σ'
  | m, 0, i, σ1, _, _, h2, _ => absurd h2 (by omega)
  | 0, n + 1, i, σ1, h1, _, _, g1 => by
    refine ⟨σ1, ?_, g1⟩
    rw [fX11_caught_49, if_pos ((lt60 (by omega)).mpr (by omega))]
    rfl
  | m + 1, n + 1, i, σ1, h1, hi1, h2, g1 => by
    have hw := hb.1
    have hB := hb.2.2.2.2.1 j hj
    have hhalf : rH r j ≤ 30 := by unfold rH; omega
    have hBk := SB_wki hb heb hsb (i - 1)
    have hle := hBk.2.2.2.1 j hj
    have c60 : ¬ (60 : Int32) < nI i := fun q => by have := (lt60 (by omega)).mp q; omega
    have hR := RX_agr h g1 (fun k hk => by unfold scX; omega)
    have hE := EX_agr he g1 (by unfold scX; omega) (by unfold scX; omega)
    have hs1 := SX_sc hs g1 (Or.inl rfl)
    have hvl := vts_le hb hsb.2.2.2.2.2.1 j
    have h0 := hsb.1
    obtain ⟨σ2, e2, g2⟩ := x_weekWork hR hE heb (k := r 1 j) (so := wki r ef a (i - 1) (3 + j)) (half := rH r j) (votes := vts r a j) (date := a 0 + (i - 1)) (by omega) hle (by omega) (by omega) (by omega)
    have hml := much_le heb (r 1 j) (wki r ef a (i - 1) (3 + j)) (rH r j) (vts r a j) (a 0 + (i - 1))
    have hmk : mch r ef (wki r ef a (i - 1)) j = much ef (r 1 j) (wki r ef a (i - 1) (3 + j)) (rH r j) (vts r a j) (a 0 + (i - 1)) := mch_k hb j (i - 1)
    have hst : wki r ef a i (3 + j) = min (wki r ef a (i - 1) (3 + j) + mch r ef (wki r ef a (i - 1)) j) (rH r j) := by
      obtain ⟨k, rfl⟩ : ∃ k, i = k + 1 := ⟨i - 1, by omega⟩
      rw [wki, wk_at hb hj]
      rfl
    have hdate : nI (a 0) + nI i - 1 = nI (a 0 + (i - 1)) := by rw [nI_add, nI_m1 (by omega)]; congr 1; omega
    have pre : ∀ K, fX11_caught_49 (nI j) (nI (rH r j)) (nI (vts r a j)) K (n + 1) (nI (wki r ef a (i - 1) (3 + j))) (nI i) σ1 = if nI (wki r ef a (i - 1) (3 + j) + mch r ef (wki r ef a (i - 1)) j) ≤ nI (rH r j) then fX11_caught_49 (nI j) (nI (rH r j)) (nI (vts r a j)) K n (nI (wki r ef a (i - 1) (3 + j) + mch r ef (wki r ef a (i - 1)) j)) (nI (i + 1)) σ2 else some (nI i, σ2) := by
      intro K
      rw [fX11_caught_49, if_neg c60, g1.2, hv, fxG_t hR.1, fxG_t hR.1, fxG_t (fx_inN (by omega) (by decide)), fx_clN (by omega), (hR.2.2.2.2.1 j hj).1, hs1.2.1, hdate, e2, fxBI_s, nI_add, fxL_r, nI_1, hmk]
    by_cases c : rH r j < wki r ef a (i - 1) (3 + j) + mch r ef (wki r ef a (i - 1)) j
    · have hy : cAt r ef a j i = true := decide_eq_true c
      refine ⟨σ2, ?_, agr_tr g1 (agr_mono (fun q hq => by unfold scX; omega) g2)⟩
      rw [pre, if_neg (by rw [nI_leI (by omega) (by omega)]; omega), fst1, if_pos hy]
      rfl
    · have hn : ¬ cAt r ef a j i = true := fun q => c (of_decide_eq_true q)
      obtain ⟨σ', e', g'⟩ := x_caught_loop hT hv h hb he heb hs hsb hn0 hj m n (i + 1) σ2 (by omega) (by omega) (by omega) (agr_tr g1 (agr_mono (fun q hq => by unfold scX; omega) g2))
      refine ⟨σ', ?_, g'⟩
      rw [show i + 1 - 1 = i by omega, hst, Nat.min_eq_left (by omega)] at e'
      rw [pre, if_pos (nI_le (by omega) (by omega)), e', fst1, if_neg hn]
theorem m_when_loop (h : RM σ 0 r) (hb : RB r) (he : EM σ ef) (heb : EB ef) (hsb : SB r a n0) (hn0 : n0 < 700) {j : Nat} (hj : j < r 0 0) (K : Int32 → FH → Option (Int32 × FH)) :
    ∀ (m n i : Nat) (σ1 : FH), i + m = 61 → m < n → SM σ1 33 0 (wki r ef a i) → agrM σ σ1 → ∃ σ', fX12_when_30 (nI j) K n (nI i) σ1 = K (nI ((fst1 (hAt r ef a j) m i).getD 61)) σ' ∧ agrM σ σ'
  | m, 0, i, σ1, _, h2, _, _ => absurd h2 (by omega)
  | 0, n + 1, i, σ1, h1, _, hs1, g1 => by
    refine ⟨σ1, ?_, g1⟩
    obtain rfl : i = 61 := by omega
    rw [fX12_when_30, if_pos ((lt60 (by omega)).mpr (by omega))]
    rfl
  | m + 1, n + 1, i, σ1, h1, h2, hs1, g1 => by
    have hB := SB_wki hb heb hsb i
    have c60 : ¬ (60 : Int32) < nI i := fun q => by have := (lt60 (by omega)).mp q; omega
    by_cases c : wki r ef a i (3 + j) = rH r j
    · have hy : hAt r ef a j i = true := decide_eq_true c
      refine ⟨σ1, ?_, g1⟩
      rw [fX12_when_30, if_neg c60, m_isHalf (RM_agrM h g1) hb hs1 hB.2.2.2.1 hj, fxBP_s, if_pos c, if_neg (by decide), fst1, if_pos hy]
      rfl
    · have hn : ¬ hAt r ef a j i = true := fun q => c (of_decide_eq_true q)
      obtain ⟨σ2, e2, hs2, -, g2⟩ := m_passes (RM_agrM h g1) hb (EM_agrM he g1) heb hs1 hB.2.2.2.1 hB.2.2.2.2.2.1 (by have := hB.1; omega)
      obtain ⟨σ', e', g'⟩ := m_when_loop h hb he heb hsb hn0 hj K m n (i + 1) σ2 (by omega) (by omega) hs2 (agrM_tr g1 g2)
      refine ⟨σ', ?_, g'⟩
      rw [fX12_when_30, if_neg c60, m_isHalf (RM_agrM h g1) hb hs1 hB.2.2.2.1 hj, fxBP_s, if_neg c, if_pos rfl, e2, fxBI_s, nI_1, e', fst1, if_neg hn]
theorem m_joined_loop (h : RM σ 0 r) (hb : RB r) (he : EM σ ef) (heb : EB ef) (hsb : SB r a n0) (hn0 : n0 < 700) {j k : Nat} (hj : j < r 0 0) (hk : k < r 0 0) (hne : j ≠ k) (hwh : r 2 j = r 2 k) (K : Int32 → FH → Option (Int32 × FH)) :
    ∀ (m n i : Nat) (σ1 : FH), i + m = 61 → m < n → SM σ1 33 0 (wki r ef a i) → agrM σ σ1 → ∃ σ', fX12_joined_58 (nI j) (nI k) K n (nI i) σ1 = K (nI ((fst1 (fun i => hAt r ef a j i && hAt r ef a k i) m i).getD 61)) σ' ∧ agrM σ σ'
  | m, 0, i, σ1, _, h2, _, _ => absurd h2 (by omega)
  | 0, n + 1, i, σ1, h1, _, hs1, g1 => by
    refine ⟨σ1, ?_, g1⟩
    obtain rfl : i = 61 := by omega
    rw [fX12_joined_58, if_pos ((lt60 (by omega)).mpr (by omega))]
    rfl
  | m + 1, n + 1, i, σ1, h1, h2, hs1, g1 => by
    have hB := SB_wki hb heb hsb i
    have c60 : ¬ (60 : Int32) < nI i := fun q => by have := (lt60 (by omega)).mp q; omega
    have hcj : canJ r (wki r ef a i) j k = (hAt r ef a j i && hAt r ef a k i) := by
      unfold canJ hAt
      rw [Bool.eq_iff_iff]
      simp [hne, hwh]
    by_cases c : (hAt r ef a j i && hAt r ef a k i) = true
    · refine ⟨σ1, ?_, g1⟩
      rw [fX12_joined_58, if_neg c60, m_canJoin (RM_agrM h g1) hb hs1 hB.2.2.2.1 hj hk, fxBP_s, hcj, if_pos c, if_neg (by decide), fst1, if_pos c]
      rfl
    · obtain ⟨σ2, e2, hs2, -, g2⟩ := m_passes (RM_agrM h g1) hb (EM_agrM he g1) heb hs1 hB.2.2.2.1 hB.2.2.2.2.2.1 (by have := hB.1; omega)
      obtain ⟨σ', e', g'⟩ := m_joined_loop h hb he heb hsb hn0 hj hk hne hwh K m n (i + 1) σ2 (by omega) (by omega) hs2 (agrM_tr g1 g2)
      refine ⟨σ', ?_, g'⟩
      rw [fX12_joined_58, if_neg c60, m_canJoin (RM_agrM h g1) hb hs1 hB.2.2.2.1 hj hk, fxBP_s, hcj, if_neg c, if_pos rfl, e2, fxBI_s, nI_1, e', fst1, if_neg c]
theorem m_caught_loop (h : RM σ 0 r) (hb : RB r) (he : EM σ ef) (heb : EB ef) (hsb : SB r a n0) (hn0 : n0 < 700) {j : Nat} (hj : j < r 0 0) (K : Int32 → FH → Option (Int32 × FH)) :
    ∀ (m n i : Nat) (σ1 : FH), i + m = 61 → 1 ≤ i → m < n → SM σ1 33 0 (wki r ef a (i - 1)) → agrM σ σ1 → ∃ σ', fX12_caught_32 (nI j) K n (-1) (nI i) σ1 = K (oI (fst1 (cAt r ef a j) m i)) σ' ∧ agrM σ σ'
  | m, 0, i, σ1, _, _, h2, _, _ => absurd h2 (by omega)
  | 0, n + 1, i, σ1, h1, _, _, hs1, g1 => by
    refine ⟨σ1, ?_, g1⟩
    rw [fX12_caught_32, if_pos ((lt60 (by omega)).mpr (by omega))]
    rfl
  | m + 1, n + 1, i, σ1, h1, hi1, h2, hs1, g1 => by
    have hw := hb.1
    have hB := SB_wki hb heb hsb (i - 1)
    have c60 : ¬ (60 : Int32) < nI i := fun q => by have := (lt60 (by omega)).mp q; omega
    obtain ⟨σ2, e2, hs2, hf2, g2⟩ := m_passes (RM_agrM h g1) hb (EM_agrM he g1) heb hs1 hB.2.2.2.1 hB.2.2.2.2.2.1 (by have := hB.1; omega)
    have hs2' : SM σ2 33 0 (wki r ef a i) := by
      obtain ⟨k, rfl⟩ : ∃ k, i = k + 1 := ⟨i - 1, by omega⟩
      exact hs2
    have hl64 : wkb r ef (wki r ef a (i - 1)) (r 0 0) < 64 := by
      have h1 := wkb_lt r ef (wki r ef a (i - 1)) (r 0 0)
      have h2 : 2 ^ (r 0 0) ≤ 2 ^ 6 := Nat.pow_le_pow_right (by decide) hw
      omega
    have hbit : ((σ2.1 0 52 >>> (nI j &&& 31)) &&& 1) = nI (if rH r j < wki r ef a (i - 1) (3 + j) + mch r ef (wki r ef a (i - 1)) j then 1 else 0) := by
      rw [hf2, bitN _ hl64 _ (by omega), wkb_at hb hj]
    by_cases c : cAt r ef a j i = true
    · have c' := of_decide_eq_true c
      cases n with
      | zero => exact absurd h2 (by omega)
      | succ n =>
        refine ⟨σ2, ?_, agrM_tr g1 g2⟩
        rw [fX12_caught_32, if_neg c60, if_neg (by decide), e2, fxBI_s, hbit, if_pos c', fxL_r, if_pos (by decide), nI_1, fst1, if_pos c]
        show fX12_caught_32 (nI j) K (n + 1) (nI i) (nI (i + 1)) σ2 = K (nI i) σ2
        rw [fX12_caught_32]
        by_cases q : (60 : Int32) < nI (i + 1)
        · rw [if_pos q]
        · rw [if_neg q, if_pos (nI_pos' (by omega))]
    · have c' : ¬ rH r j < wki r ef a (i - 1) (3 + j) + mch r ef (wki r ef a (i - 1)) j := fun q => c (decide_eq_true q)
      obtain ⟨σ', e', g'⟩ := m_caught_loop h hb he heb hsb hn0 hj K m n (i + 1) σ2 (by omega) (by omega) (by omega) (by rw [show i + 1 - 1 = i by omega]; exact hs2') (agrM_tr g1 g2)
      refine ⟨σ', ?_, g'⟩
      rw [fX12_caught_32, if_neg c60, if_neg (by decide), e2, fxBI_s, hbit, if_neg c', fxL_r, if_neg (by decide), nI_1, e', fst1, if_neg c]
end WH
theorem fst1_le {P : Nat → Bool} {k : Nat} (h : fst1 P 61 0 = some k) : k ≤ 60 := by have := fst1_ge _ _ _ h; omega
theorem oI_60 (P : Nat → Bool) : (if nI ((fst1 P 61 0).getD 61) ≤ 60 then nI ((fst1 P 61 0).getD 61) else (-1)) = oI (fst1 P 61 0) := by
  cases h : fst1 P 61 0 with
  | none => rfl
  | some k =>
    have hk := fst1_le h
    have h60 : nI k ≤ 60 := nI_le (b := 60) hk (by decide)
    show (if nI k ≤ 60 then nI k else -1) = nI k
    rw [if_pos h60]
theorem op_when (x : Int32) : OpI (fX11_when x) (fX12_when x) := by
  intro n σx σm hn h
  have h1 := Rel_th h
  unfold fX11_when fX12_when
  rw [fxL_r (fx_si σm 0 0 0)]
  generalize fx_si σm 0 0 0 = σ1 at h1 ⊢
  obtain ⟨r, ef, a, t, d, hA⟩ := id h1
  obtain ⟨hMV, hRB, hEB, hRX, hEX, hRM, hEM, hNX, hSX, hSM, hSB, -⟩ := id hA
  have hT : σx.2.2 2 = 17 ∨ σx.2.2 2 = 28 := by rcases hMV.1 with z | z <;> omega
  have hw := hRB.1
  rw [fxG_t hRX.1]
  rcases pk_ix x (n := r 0 0) (by omega) with hx | hx | ⟨j, hj, rfl⟩
  · exact ⟨-1, σx, σ1, by rw [x_hasWare_out hRX (Or.inl hx), fxBP_s, if_pos rfl], by rw [m_isWare_out hRM (Or.inl hx), fxBP_s, if_pos rfl], Rel_up h1 (by omega)⟩
  · exact ⟨-1, σx, σ1, by rw [x_hasWare_out hRX (Or.inr hx), fxBP_s, if_pos rfl], by rw [m_isWare_out hRM (Or.inr hx), fxBP_s, if_pos rfl], Rel_up h1 (by omega)⟩
  · obtain ⟨σx6, e6, g6⟩ := x_weeksToHalf hT rfl hRX hRB hEX hEB hSX hSB (by omega) hj
    obtain ⟨σ8, e8, hs8, g8, back⟩ := m_ahead hSM
    obtain ⟨σ9, e9, g9⟩ := m_when_loop (RM_35 hRM g8) hRB (EM_35 hEM g8) hEB hSB (by omega) hj (fun x10 σ11 => fxBV (fX12_copies 35 14 0 33 14 0 σ11) <| fun σ14 => fxL (α := Int32) (if x10 ≤ 60 then x10 else (-1)) <| fun v15 => some (v15, σ14)) 61 FU 0 σ8 (by omega) (by decide) hs8 (agrM_rf _)
    obtain ⟨σ14, e14, hs14, g14, -⟩ := back σ9 g9
    refine ⟨oI (fst1 (hAt r ef a j) 61 0), σx6, σ14, ?_, ?_, ⟨r, ef, a, t, d, RelA_st hA (agr_mono (fun q hq => Or.inr (Or.inr (Or.inr hq))) g6) g14 (SX_sc hSX g6 (Or.inl rfl)) hs14 (SB_up hSB (by omega)) (by omega)⟩⟩
    · rw [x_hasWare_in hRX hRB hj, fxBP_s, if_neg (by decide), e6, fxBI_s]
    · rw [m_isWare_in hRM hRB hj, fxBP_s, if_neg (by decide), e8, fxBV_s, fxL_r]
      refine e9.trans ?_
      rw [e14, fxBV_s, fxL_r, oI_60]
theorem op_caught (x : Int32) : OpI (fX11_caught x) (fX12_caught x) := by
  intro n σx σm hn h
  have h1 := Rel_th h
  unfold fX11_caught fX12_caught
  rw [fxL_r (fx_si σm 0 0 0)]
  generalize fx_si σm 0 0 0 = σ1 at h1 ⊢
  obtain ⟨r, ef, a, t, d, hA⟩ := id h1
  obtain ⟨hMV, hRB, hEB, hRX, hEX, hRM, hEM, hNX, hSX, hSM, hSB, -⟩ := id hA
  have hT : σx.2.2 2 = 17 ∨ σx.2.2 2 = 28 := by rcases hMV.1 with z | z <;> omega
  have hw := hRB.1
  rw [fxG_t hRX.1]
  rcases pk_ix x (n := r 0 0) (by omega) with hx | hx | ⟨j, hj, rfl⟩
  · exact ⟨-1, σx, σ1, by rw [x_hasWare_out hRX (Or.inl hx), fxBP_s, if_pos rfl], by rw [m_isWare_out hRM (Or.inl hx), fxBP_s, if_pos rfl], Rel_up h1 (by omega)⟩
  · exact ⟨-1, σx, σ1, by rw [x_hasWare_out hRX (Or.inr hx), fxBP_s, if_pos rfl], by rw [m_isWare_out hRM (Or.inr hx), fxBP_s, if_pos rfl], Rel_up h1 (by omega)⟩
  · obtain ⟨σx6, e6, g6⟩ := x_caught_loop hT rfl hRX hRB hEX hEB hSX hSB (by omega) hj 60 FU 1 σx (by omega) (by omega) (by decide) (agr_rf _ _)
    obtain ⟨σ8, e8, hs8, g8, back⟩ := m_ahead hSM
    obtain ⟨σ9, e9, g9⟩ := m_caught_loop (RM_35 hRM g8) hRB (EM_35 hEM g8) hEB hSB (by omega) hj (fun x10 σ11 => fxBV (fX12_copies 35 14 0 33 14 0 σ11) <| fun σ14 => some (x10, σ14)) 60 FU 1 σ8 (by omega) (by omega) (by decide) hs8 (agrM_rf _)
    obtain ⟨σ14, e14, hs14, g14, -⟩ := back σ9 g9
    refine ⟨oI (fst1 (cAt r ef a j) 60 1), σx6, σ14, ?_, ?_, ⟨r, ef, a, t, d, RelA_st hA (agr_mono (fun q hq => Or.inr (Or.inr (Or.inr hq))) g6) g14 (SX_sc hSX g6 (Or.inl rfl)) hs14 (SB_up hSB (by omega)) (by omega)⟩⟩
    · rw [x_hasWare_in hRX hRB hj, fxBP_s, if_neg (by decide), fxG_t hRX.1, x_halfOf hRX hRB hj, fxBP_s, fxG_t hRX.1, x_votesFor hRX hRB hSX hSB.2.2.2.2.2.1 (by omega), fxBP_s, fxG_t (fx_inN (by omega) (by decide)), fx_clN (by omega), hSX.2.2.2.2.1 j (by omega), fxL_r, fxL_r]
      exact e6
    · rw [m_isWare_in hRM hRB hj, fxBP_s, if_neg (by decide), e8, fxBV_s, fxL_r]
      refine e9.trans ?_
      rw [e14, fxBV_s]
