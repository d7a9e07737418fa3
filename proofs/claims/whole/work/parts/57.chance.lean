/-! ===== chance ===== -/
def wgt (o : Nat) : Nat → Nat → Nat
  | 0, _ => 1
  | m + 1, s => (if s % 2 = 1 then o else 10 - o) * wgt o m (s / 2)
def fnd (M : Nat → Nat → Nat) (half : Nat) : Nat → Nat → Nat → Nat → Bool
  | 0, _, _, _ => false
  | m + 1, so, date, s => if s % 2 = 1 then fnd M half m so (date + 1) (s / 2) else (decide (half < so + M so date) || fnd M half m (min (so + M so date) half) (date + 1) (s / 2))
theorem fnd_1 {M : Nat → Nat → Nat} {half m so date s : Nat} (h : s % 2 = 1) : fnd M half (m + 1) so date s = fnd M half m so (date + 1) (s / 2) := by rw [fnd, if_pos h]
theorem fnd_0 {M : Nat → Nat → Nat} {half m so date s : Nat} (h : ¬ s % 2 = 1) : fnd M half (m + 1) so date s = (decide (half < so + M so date) || fnd M half m (min (so + M so date) half) (date + 1) (s / 2)) := by rw [fnd, if_neg h]
theorem wgt_1 {o m s : Nat} (h : s % 2 = 1) : wgt o (m + 1) s = o * wgt o m (s / 2) := by rw [wgt, if_pos h]
theorem wgt_0 {o m s : Nat} (h : ¬ s % 2 = 1) : wgt o (m + 1) s = (10 - o) * wgt o m (s / 2) := by rw [wgt, if_neg h]
def gSm (M : Nat → Nat → Nat) (half o m so date : Nat) : Nat := sF (fun s => if fnd M half m so date s then wgt o m s else 0) 0 (2 ^ m)
theorem sF_two (g : Nat → Nat) : ∀ (m i : Nat), sF g (2 * i) (2 * m) = sF (fun s => g (2 * s)) i m + sF (fun s => g (2 * s + 1)) i m
  | 0, i => rfl
  | m + 1, i => by
    rw [show 2 * (m + 1) = 2 * m + 1 + 1 by omega, sF, sF, sF, sF, show 2 * i + 1 + 1 = 2 * (i + 1) by omega, sF_two g m (i + 1)]
    omega
theorem sF_mulc (c : Nat) (g : Nat → Nat) : ∀ (m i : Nat), sF (fun s => c * g s) i m = c * sF g i m
  | 0, i => rfl
  | m + 1, i => by rw [sF, sF, sF_mulc c g m (i + 1), Nat.mul_add]
theorem wgt_sum {o : Nat} (ho : o ≤ 10) : ∀ m, sF (wgt o m) 0 (2 ^ m) = 10 ^ m
  | 0 => rfl
  | m + 1 => by
    have h2 := sF_two (wgt o (m + 1)) (2 ^ m) 0
    rw [Nat.mul_zero, ← Nat.pow_succ'] at h2
    rw [h2, sF_congr (2 ^ m) 0 (g := fun s => (10 - o) * wgt o m s) (fun k _ _ => by
      rw [wgt, if_neg (by omega), show 2 * k / 2 = k by omega]), sF_congr (2 ^ m) 0 (f := fun s => wgt o (m + 1) (2 * s + 1)) (g := fun s => o * wgt o m s) (fun k _ _ => by
      rw [wgt, if_pos (by omega), show (2 * k + 1) / 2 = k by omega]), sF_mulc, sF_mulc, wgt_sum ho m, ← Nat.add_mul, show 10 - o + o = 10 by omega, Nat.pow_succ']
theorem gSm_s {M : Nat → Nat → Nat} {half o : Nat} (ho : o ≤ 10) (m so date : Nat) : gSm M half o (m + 1) so date = o * gSm M half o m so (date + 1) + (10 - o) * (if half < so + M so date then 10 ^ m else gSm M half o m (so + M so date) (date + 1)) := by
  unfold gSm
  have h2 := sF_two (fun s => if fnd M half (m + 1) so date s then wgt o (m + 1) s else 0) (2 ^ m) 0
  rw [Nat.mul_zero, ← Nat.pow_succ'] at h2
  rw [h2, Nat.add_comm]
  congr 1
  · rw [← sF_mulc]
    refine sF_congr _ _ (fun k _ _ => ?_)
    rw [fnd_1 (by omega), wgt_1 (by omega), show (2 * k + 1) / 2 = k by omega]
    split
    · rfl
    · rw [Nat.mul_zero]
  · by_cases c : half < so + M so date
    · rw [if_pos c, ← wgt_sum ho m, ← sF_mulc]
      refine sF_congr _ _ (fun k _ _ => ?_)
      rw [fnd_0 (by omega), decide_eq_true c, Bool.true_or, if_pos rfl, wgt_0 (by omega), show 2 * k / 2 = k by omega]
    · rw [if_neg c, ← sF_mulc]
      refine sF_congr _ _ (fun k _ _ => ?_)
      rw [fnd_0 (by omega), decide_eq_false c, Bool.false_or, Nat.min_eq_left (by omega), wgt_0 (by omega), show 2 * k / 2 = k by omega]
      split
      · rfl
      · rw [Nat.mul_zero]
theorem gSm_le {M : Nat → Nat → Nat} {half o : Nat} (ho : o ≤ 10) (m so date : Nat) : gSm M half o m so date ≤ 10 ^ m := by
  rw [← wgt_sum ho m]
  unfold gSm
  have : ∀ q i, sF (fun s => if fnd M half m so date s then wgt o m s else 0) i q ≤ sF (wgt o m) i q := by
    intro q
    induction q with
    | zero => intro i; exact Nat.le_refl _
    | succ q ih =>
      intro i
      have := ih (i + 1)
      simp only [sF]
      split <;> omega
  exact this _ 0
section CH
variable {σ : FH} {T : Nat} {r : AR} {ef : EF} {a : AS} {n0 : Nat}
/-- what is worked at a ware -/
def mhj (r : AR) (ef : EF) (a : AS) (j so date : Nat) : Nat := much ef (r 1 j) so (rH r j) (vts r a j) date
theorem ten_loop (K : Int32 → Option (Int32 × FH)) {l : Nat} (hl : l < 100) : ∀ (m n i b : Nat), i + m = l → m < n → fX11_finedWays_83 (nI l) K n (nI b) (nI i) = K (nI (b * 10 ^ m))
  | m, 0, i, b, _, h2 => absurd h2 (by omega)
  | 0, n + 1, i, b, h1, _ => by rw [fX11_finedWays_83, if_pos (nI_le (by omega) (by omega)), Nat.pow_zero, Nat.mul_one]
  | m + 1, n + 1, i, b, h1, h2 => by
    rw [fX11_finedWays_83, if_neg (le_no (by omega) (by omega)), show nI b * 10 = nI (b * 10) from pk_mul b 10, fxL_r, nI_1, ten_loop K hl m n (i + 1) (b * 10) (by omega) (by omega), Nat.pow_succ', Nat.mul_assoc]
theorem x_fined (hT : T = 17 ∨ T = 28) (hv : σ.2.2 2 = T) (h : RX σ T r) (hb : RB r) (he : EX σ T ef) (heb : EB ef) (hs : SX σ 7 a) (hsb : SB r a n0) {j o : Nat} (hj : j < r 0 0) (ho : o ≤ 10) :
    ∀ (m d so date : Nat) (σ1 : FH), m < d → m < 100 → so ≤ rH r j → date + m < 60000 → agr scX σ σ1 → ∃ σ', gX11_rec d (nI j) (nI so) (nI date) (nI m) (nI o) σ1 = some (nI (gSm (mhj r ef a j) (rH r j) o m so date), σ') ∧ agr scX σ σ'
  | m, 0, so, date, σ1, h1, _, _, _, _ => absurd h1 (by omega)
  | 0, d + 1, so, date, σ1, _, _, _, _, g1 => by
    refine ⟨σ1, ?_, g1⟩
    rw [gX11_rec, bX11_finedWays, if_neg (by decide)]
    rfl
  | m + 1, d + 1, so, date, σ1, h1, hm, hso, hdt, g1 => by
    have hw := hb.1
    have hB := hb.2.2.2.2.1 j hj
    have hhalf : rH r j ≤ 30 := by unfold rH; omega
    have hvl := vts_le hb hsb.2.2.2.2.2.1 j
    obtain ⟨σ2, e2, g2⟩ := x_fined hT hv h hb he heb hs hsb hj ho m d so (date + 1) σ1 (by omega) (by omega) hso (by omega) g1
    have hR1 := RX_agr h g1 (fun k hk => by unfold scX; omega)
    have hR2 := RX_agr h g2 (fun k hk => by unfold scX; omega)
    have hE2 := EX_agr he g2 (by unfold scX; omega) (by unfold scX; omega)
    have hs2 := SX_sc hs g2 (Or.inl rfl)
    obtain ⟨σ3, e3, g3⟩ := x_weekWork hR2 hE2 heb (k := r 1 j) (so := so) (half := rH r j) (votes := vts r a j) (date := date) (by omega) hso (by omega) (by omega) (by omega)
    have g23 : agr scX σ σ3 := agr_tr g2 (agr_mono (fun q hq => by unfold scX; omega) g3)
    have hml := much_le heb (r 1 j) so (rH r j) (vts r a j) date
    have hpos : (0 : Int32) < nI (m + 1) := nI_lt (a := 0) (by omega) (by omega)
    rw [gSm_s ho]
    have pre : ∀ (w : Nat) (σ' : FH), nI o * nI (gSm (mhj r ef a j) (rH r j) o m so (date + 1)) + (10 - nI o) * nI w = nI (o * gSm (mhj r ef a j) (rH r j) o m so (date + 1) + (10 - o) * w) := by
      intro w σ'
      rw [pk_mul, show (10 : Int32) - nI o = nI (10 - o) from pk_sub (a := 10) ho, pk_mul, nI_add]
    have hM : mhj r ef a j so date = much ef (r 1 j) so (rH r j) (vts r a j) date := rfl
    have body : bX11_finedWays (gX11_rec d) (nI j) (nI so) (nI date) (nI (m + 1)) (nI o) σ1 = if nI (so + mhj r ef a j so date) ≤ nI (rH r j) then fxBI (gX11_rec d (nI j) (nI (so + mhj r ef a j so date)) (nI (date + 1)) (nI m) (nI o) σ3) (fun r25 σ26 => some (nI o * nI (gSm (mhj r ef a j) (rH r j) o m so (date + 1)) + (10 - nI o) * r25, σ26)) else fX11_finedWays_83 (nI (m + 1)) (fun x28 => some (nI o * nI (gSm (mhj r ef a j) (rH r j) o m so (date + 1)) + (10 - nI o) * x28, σ3)) FU 1 1 := by
      rw [bX11_finedWays, if_pos hpos, g1.2, hv, fxG_t h.1, x_halfOf hR1 hb hj, fxBP_s, nI_1, nI_m1 (by omega), Nat.add_sub_cancel, e2, fxBI_s, g2.2, hv, fxG_t h.1, fxG_t h.1, fxG_t (fx_inN (by omega) (by decide)), fxG_t h.1, x_votesFor hR2 hb hs2 hsb.2.2.2.2.2.1 (by omega), fxBP_s, fx_clN (by omega), (hR2.2.2.2.2.1 j hj).1, e3, fxBI_s, nI_add, fxL_r, fxL_r, fxL_r, hM]
    rw [gX11_rec, body]
    by_cases c : rH r j < so + mhj r ef a j so date
    · rw [if_neg (le_no c (by omega)), if_pos c]
      have := ten_loop (fun x28 => some (nI o * nI (gSm (mhj r ef a j) (rH r j) o m so (date + 1)) + (10 - nI o) * x28, σ3)) (l := m + 1) (by omega) m FU 1 1 (by omega) (by unfold FU; omega)
      rw [Nat.one_mul] at this
      exact ⟨σ3, by rw [← pre _ σ3]; exact this, g23⟩
    · obtain ⟨σ4, e4, g4⟩ := x_fined hT hv h hb he heb hs hsb hj ho m d (so + mhj r ef a j so date) (date + 1) σ3 (by omega) (by omega) (by omega) (by omega) g23
      rw [if_pos (nI_le (by omega) (by omega)), if_neg c, e4, fxBI_s, pre _ σ4]
      exact ⟨σ4, rfl, g4⟩
theorem x_tens (K : Int32 → Option (Int32 × FH)) : ∀ (m n i b : Nat), i + m = 6 → m < n → fX11_chance_74 K n (nI b) (nI i) = K (nI (b * 10 ^ m))
  | m, 0, i, b, _, h2 => absurd h2 (by omega)
  | 0, n + 1, i, b, h1, _ => by
    obtain rfl : i = 6 := by omega
    rw [fX11_chance_74, if_pos (by decide), Nat.pow_zero, Nat.mul_one]
  | m + 1, n + 1, i, b, h1, h2 => by
    have c6 : ¬ (6 : Int32) ≤ nI i := le_no (b := 6) (by omega) (by decide)
    rw [fX11_chance_74, if_neg c6, show nI b * 10 = nI (b * 10) from pk_mul b 10, fxL_r, nI_1, x_tens K m n (i + 1) (b * 10) (by omega) (by omega), Nat.pow_succ', Nat.mul_assoc]
theorem m_tens (K : Int64 → Option (Int32 × FH)) {w : Nat} (hw : w < 100) : ∀ (m n i b : Nat), i + m = w → m < n → fX12_chance_44 (nI w) K n (nJ b) (nI i) = K (nJ (b * 10 ^ m))
  | m, 0, i, b, _, h2 => absurd h2 (by omega)
  | 0, n + 1, i, b, h1, _ => by rw [fX12_chance_44, if_pos (nI_le (by omega) (by omega)), Nat.pow_zero, Nat.mul_one]
  | m + 1, n + 1, i, b, h1, h2 => by
    rw [fX12_chance_44, if_neg (le_no (by omega) (by omega)), show nJ b * 10 = nJ (b * 10) from nJ_mul b 10, fxL_r, nI_1, m_tens K hw m n (i + 1) (b * 10) (by omega) (by omega), Nat.pow_succ', Nat.mul_assoc]
end CH
theorem orB : ∀ x, x < 64 → ∀ y, y < 64 → (nI x ||| nI y) = nI (x ||| y) ∧ x ||| y < 64 := by decide +kernel
theorem orBt : ∀ x, x < 64 → ∀ y, y < 64 → ∀ j, j < 6 → (bt (x ||| y) j = 1 ↔ bt x j = 1 ∨ bt y j = 1) := by decide +kernel
theorem bt_div (s k : Nat) : bt s k = s / 2 ^ k % 2 := rfl
theorem div_s (s k : Nat) : s / 2 ^ k / 2 = s / 2 ^ (k + 1) := by rw [Nat.div_div_eq_div_mul, Nat.pow_succ]
/-- struck: only the date goes on -/
theorem SB_st {r : AR} {a : AS} {n : Nat} (h : SB r a n) : SB r (upS a 0 (a 0 + 1)) (n + 1) := by
  obtain ⟨h1, h2, h3, h4, h5, h6, h7⟩ := h
  refine ⟨by rw [upS_eq]; omega, by rw [upS_ne (by omega)]; omega, by rw [upS_ne (by omega)]; omega, fun i hi => by rw [upS_ne (by omega)]; exact h4 i hi, fun i h h' => by rw [upS_ne (by omega)]; exact h5 i h h', fun p hp => by rw [upS_ne (by omega)]; exact h6 p hp, fun p h h' => by rw [upS_ne (by omega)]; exact h7 p h h'⟩
section CM
variable {σ : FH} {r : AR} {ef : EF} {a : AS} {n0 : Nat}
theorem m_ch97 (h : RM σ 0 r) (hb : RB r) (he : EM σ ef) (heb : EB ef) {j o s w : Nat} (hj : j < r 0 0) (ho : o ≤ 10) (hw : w ≤ 6) (hs : s < 64) (K : Int64 → Int32 → FH → Option (Int32 × FH)) :
    ∀ (m n i acc F : Nat) (b : AS) (nb : Nat) (σ1 : FH), i + m = w → m < n → F < 64 → SB r b nb → nb + m < 5000 → SM σ1 33 0 b → agrM σ σ1 → ∃ F' σ', F' < 64 ∧ agrM σ σ' ∧ (bt F' j = 1 ↔ bt F j = 1 ∨ fnd (mhj r ef b j) (rH r j) m (b (3 + j)) (b 0) (s / 2 ^ i) = true) ∧ fX12_chance_97 (nI w) (nI o) (nI s) K n (nJ acc) (nI F) (nI i) σ1 = K (nJ (acc * wgt o m (s / 2 ^ i))) (nI F') σ'
  | m, 0, i, acc, F, b, nb, σ1, _, h2, _, _, _, _, _ => absurd h2 (by omega)
  | 0, n + 1, i, acc, F, b, nb, σ1, h1, _, hF, _, _, hs1, g1 => by
    refine ⟨F, σ1, hF, g1, ?_, ?_⟩
    · unfold fnd; simp
    · rw [fX12_chance_97, if_pos (nI_le (by omega) (by omega)), wgt, Nat.mul_one]
  | m + 1, n + 1, i, acc, F, b, nb, σ1, h1, h2, hF, hB, hnb, hs1, g1 => by
    have hw6 := hb.1
    have hB0 := hB.1
    have hbit := bitN s hs i (by omega)
    have h2b := bt_lt s i
    have hVeq : ∀ b' : AS, (∀ p, p < r 0 1 → b' (9 + p) = b (9 + p)) → mhj r ef b' j = mhj r ef b j := fun b' hb' => by
      funext so date
      unfold mhj
      rw [vts_eq hb']
    by_cases c : bt s i = 1
    · -- struck
      have hsm : SM (fx_si σ1 33 0 (nI (b 0 + 1))) 33 0 (upS b 0 (b 0 + 1)) := SM_up hs1
      obtain ⟨F', σ', hF', g', hbt, e'⟩ := m_ch97 h hb he heb hj ho hw hs K m n (i + 1) (acc * o) F (upS b 0 (b 0 + 1)) (nb + 1) (fx_si σ1 33 0 (nI (b 0 + 1))) (by omega) (by omega) hF (SB_st hB) (by omega) hsm (agrM_tr g1 agrM_s33)
      refine ⟨F', σ', hF', g', ?_, ?_⟩
      · rw [hbt, fnd_1 (by rw [← bt_div]; exact c), upS_ne (by omega), upS_eq, div_s, hVeq _ (fun p _ => upS_ne (by omega))]
      · have es : σ1.1 33 0 = nI (b 0) := sm_k hs1 (by omega)
        rw [fX12_chance_97, if_neg (le_no (by omega) (by omega)), hbit, c, if_pos (by decide), fxL_r, if_neg (by decide), fxL_r, nJ_nI (by omega), nJ_mul, fxL_r, fxL_r, if_neg (by decide), fxG_t (by decide), fxG_t (by decide), cl0, es, nI_1, fxL_r]
        dsimp only
        rw [if_neg (by decide), fxL_r, or0, fxL_r, nI_1]
        refine e'.trans ?_
        rw [wgt_1 (by rw [← bt_div]; exact c), div_s, Nat.mul_assoc]
    · have c0 : bt s i = 0 := by omega
      obtain ⟨σ2, e2, hs2, hf2, g2⟩ := m_passes (RM_agrM h g1) hb (EM_agrM he g1) heb hs1 hB.2.2.2.1 hB.2.2.2.2.2.1 (by omega)
      have hl64 : wkb r ef b (r 0 0) < 64 := Nat.lt_of_lt_of_le (wkb_lt r ef b _) (pw6 hw6)
      obtain ⟨o1, o2⟩ := orB F hF _ hl64
      obtain ⟨F', σ', hF', g', hbt, e'⟩ := m_ch97 h hb he heb hj ho hw hs K m n (i + 1) (acc * (10 - o)) (F ||| wkb r ef b (r 0 0)) (wk r ef b) (nb + 1) σ2 (by omega) (by omega) o2 (SB_wk hb heb hB) (by omega) hs2 (agrM_tr g1 g2)
      refine ⟨F', σ', hF', g', ?_, ?_⟩
      · rw [hbt, orBt F hF _ hl64 j (by omega), wkb_at hb hj, fnd_0 (by rw [← bt_div]; exact c), wk_at hb hj, wk_0, div_s, hVeq _ (fun p _ => wk_9 hb p)]
        have hmm : mch r ef b j = mhj r ef b j (b (3 + j)) (b 0) := rfl
        rw [hmm]
        by_cases q : rH r j < b (3 + j) + mhj r ef b j (b (3 + j)) (b 0)
        · rw [if_pos q, decide_eq_true q]; simp
        · rw [if_neg q, decide_eq_false q]; simp
      · rw [fX12_chance_97, if_neg (le_no (by omega) (by omega)), hbit, c0, if_neg (by decide), fxL_r, if_pos rfl, fxL_r, show (10 : Int32) - nI o = nI (10 - o) from pk_sub (a := 10) ho, nJ_nI (by omega), nJ_mul, fxL_r, fxL_r, if_pos rfl, e2, fxBI_s]
        dsimp only
        rw [if_pos rfl, fxL_r, hf2, o1, fxL_r, nI_1]
        refine e'.trans ?_
        rw [wgt_0 (by rw [← bt_div]; exact c), div_s, Nat.mul_assoc]
theorem m_ch80 (h : RM σ 0 r) (hb : RB r) (he : EM σ ef) (heb : EB ef) (hsb : SB r a n0) (hn0 : n0 < 700) (hbf : SM σ 35 0 a) {j o w : Nat} (hj : j < r 0 0) (ho : o ≤ 10) (hw : w ≤ 6) (K : Int64 → FH → Option (Int32 × FH)) :
    ∀ (m n i : Nat) (σ1 : FH), i + m = 2 ^ w → m < n → SM σ1 33 0 a → agrM σ σ1 → ∃ σ', agrM σ σ' ∧ SM σ' 33 0 a ∧ fX12_chance_80 (nI j) (nI w) (nI o) K n (nJ (sF (fun s => if fnd (mhj r ef a j) (rH r j) w (a (3 + j)) (a 0) s then wgt o w s else 0) 0 i)) (nI i) σ1 = K (nJ (gSm (mhj r ef a j) (rH r j) o w (a (3 + j)) (a 0))) σ'
  | m, 0, i, σ1, _, h2, _, _ => absurd h2 (by omega)
  | 0, n + 1, i, σ1, h1, _, hs1, g1 => by
    obtain rfl : i = 2 ^ w := by omega
    have := pw6 hw
    refine ⟨σ1, g1, hs1, ?_⟩
    rw [fX12_chance_80, shl1 w (by omega), if_pos (le_yes (by omega))]
    rfl
  | m + 1, n + 1, i, σ1, h1, h2, hs1, g1 => by
    have h64 := pw6 hw
    have hw6 := hb.1
    have hfz : ∀ x : Int32, ((0 : Int32) = nI 0) := fun _ => rfl
    let S : Nat → Nat := fun s => if fnd (mhj r ef a j) (rH r j) w (a (3 + j)) (a 0) s then wgt o w s else 0
    let K29 : Int64 → Int32 → FH → Option (Int32 × FH) := fun x30 x31 σ32 => fxL (α := Int64) (if ((x31 >>> (nI j &&& 31)) &&& 1) = 1 then (nJ (sF S 0 i) + x30) else nJ (sF S 0 i)) <| fun v33 => fxBV (fX12_copies 35 14 0 33 14 0 σ32) <| fun σ38 => fX12_chance_80 (nI j) (nI w) (nI o) K n v33 (nI (i + 1)) σ38
    obtain ⟨F', σ2, hF', g2, hbt, e2⟩ := m_ch97 h hb he heb hj ho hw (by omega : i < 64) K29 w FU 0 1 0 a n0 σ1 (by omega) (by unfold FU; omega) (by omega) hsb (by omega) hs1 g1
    have d' : SM σ2 35 0 a := fun k hk => by rw [g2.1 35 (by decide) (by decide) (by unfold scrM; omega)]; exact hbf k hk
    obtain ⟨σ3, e3, g3, -, d3⟩ := m_copies (o1 := 0) (c2 := 33) (n2 := 14) (o2 := 0) (n1 := 14) d' (by decide) (by omega) (by omega) (by omega) (by omega) rfl rfl
    obtain ⟨σ', g', s', e'⟩ := m_ch80 h hb he heb hsb hn0 hbf hj ho hw K m n (i + 1) σ3 (by omega) (by omega) d3 (agrM_tr g2 (agrM_33 g3))
    refine ⟨σ', g', s', ?_⟩
    rw [fX12_chance_80, shl1 w (by omega), if_neg (le_no (by omega) (by omega)), fxL_r, nI_1]
    refine e2.trans ?_
    have e3' : fX12_copies 35 14 0 33 14 0 σ2 = some σ3 := e3
    rw [Nat.pow_zero, Nat.div_one] at hbt
    rw [Nat.pow_zero, Nat.div_one, Nat.one_mul]
    show fxL (α := Int64) (if ((nI F' >>> (nI j &&& 31)) &&& 1) = 1 then (nJ (sF S 0 i) + nJ (wgt o w i)) else nJ (sF S 0 i)) (fun v33 => fxBV (fX12_copies 35 14 0 33 14 0 σ2) <| fun σ38 => fX12_chance_80 (nI j) (nI w) (nI o) K n v33 (nI (i + 1)) σ38) = _
    rw [bitN F' hF' j (by omega), fxL_r, e3', fxBV_s]
    have hS : sF S 0 (i + 1) = sF S 0 i + S i := by rw [sF_add S i 1 0, Nat.zero_add, sF, sF, Nat.add_zero]
    have e'' : fX12_chance_80 (nI j) (nI w) (nI o) K n (nJ (sF S 0 (i + 1))) (nI (i + 1)) σ3 = K (nJ (gSm (mhj r ef a j) (rH r j) o w (a (3 + j)) (a 0))) σ' := e'
    rw [← e'', hS]
    have hz : ¬ bt 0 j = 1 := by
      have : ∀ j, j < 6 → ¬ bt 0 j = 1 := by decide
      exact this j (by omega)
    by_cases q : fnd (mhj r ef a j) (rH r j) w (a (3 + j)) (a 0) i = true
    · have hb1 : bt F' j = 1 := hbt.mpr (Or.inr q)
      rw [hb1, if_pos (by decide), nJ_add, show S i = wgt o w i from if_pos q]
    · have hb1 : ¬ bt F' j = 1 := fun z => (hbt.mp z).elim hz q
      have hb0 : bt F' j = 0 := by have := bt_lt F' j; omega
      rw [hb0, if_neg (by decide), show S i = 0 from if_neg q]
      rfl
end CM
theorem tens_div : ∀ w, w ≤ 6 → 10 ^ 6 = 10 ^ (6 - w) * 10 ^ w := by decide
theorem op_chance (x y z : Int32) : OpI (fX11_chance x y z) (fX12_chance x y z) := by
  intro n σx σm hn h
  have h1 := Rel_th h
  unfold fX11_chance fX12_chance
  rw [fxL_r (fx_si σm 0 0 0)]
  generalize fx_si σm 0 0 0 = σ1 at h1 ⊢
  obtain ⟨r, ef, a, t, d, hA⟩ := id h1
  obtain ⟨hMV, hRB, hEB, hRX, hEX, hRM, hEM, hNX, hSX, hSM, hSB, -⟩ := id hA
  have hT : σx.2.2 2 = 17 ∨ σx.2.2 2 = 28 := by rcases hMV.1 with z | z <;> omega
  have hw := hRB.1
  rw [fxG_t hRX.1]
  rcases pk_ix x (n := r 0 0) (by omega) with hx | hx | ⟨j, hj, rfl⟩
  · exact ⟨-1, σx, σ1, by rw [x_hasWare_out hRX (Or.inl hx), fxBP_s, if_pos rfl, fxL_r, if_pos rfl], by rw [m_isWare_out hRM (Or.inl hx), fxBP_s, if_pos rfl], Rel_up h1 (by omega)⟩
  · exact ⟨-1, σx, σ1, by rw [x_hasWare_out hRX (Or.inr hx), fxBP_s, if_pos rfl, fxL_r, if_pos rfl], by rw [m_isWare_out hRM (Or.inr hx), fxBP_s, if_pos rfl], Rel_up h1 (by omega)⟩
  · rw [x_hasWare_in hRX hRB hj, fxBP_s, if_neg (by decide : ¬ (1 : Int32) = 0), fxL_r, m_isWare_in hRM hRB hj, fxBP_s, if_neg (by decide : ¬ (1 : Int32) = 0)]
    have hy : (y < 1 ∨ 6 < y) ∨ ∃ w, 1 ≤ w ∧ w ≤ 6 ∧ y = nI w := by
      rcases pk_ix y (n := 7) (by decide) with q | q | ⟨w, hw, rfl⟩
      · exact Or.inl (Or.inl (Int32.lt_trans q (by decide)))
      · exact Or.inl (Or.inr (nle_lt (a := 6) (by decide) q (by decide)))
      · by_cases h0 : w = 0
        · subst h0; exact Or.inl (Or.inl (by decide))
        · exact Or.inr ⟨w, by omega, by omega, rfl⟩
    rcases hy with hy | ⟨w, w1, w6, rfl⟩
    · refine ⟨-1, σx, σ1, ?_, by rw [wi_f hy, fxBP_s, if_pos rfl], Rel_up h1 (by omega)⟩
      rcases hy with hy | hy
      · rw [if_pos hy, if_pos rfl]
      · by_cases c : y < 1
        · rw [if_pos c, if_pos rfl]
        · rw [if_neg c, if_pos hy, if_pos rfl]
    · have c1 : ¬ nI w < 1 := by rw [one_nI, nI_ltI (by omega) (by omega)]; omega
      have c6 : ¬ (6 : Int32) < nI w := by rw [show (6 : Int32) = nI 6 from rfl, nI_ltI (by omega) (by omega)]; omega
      rw [if_neg c1, if_neg c6, if_neg (by decide : ¬ (1 : Int32) = 0), wi_t c1 c6, fxBP_s, if_neg (by decide : ¬ (1 : Int32) = 0)]
      rcases pk_ix z (n := 11) (by decide) with hz | hz | ⟨o, ho, rfl⟩
      · exact ⟨-1, σx, σ1, by rw [if_pos hz], by rw [wi_f (Or.inl hz), fxBP_s, if_pos rfl], Rel_up h1 (by omega)⟩
      · have hz3 : 10 < z := nle_lt (a := 10) (by decide) hz (by decide)
        refine ⟨-1, σx, σ1, ?_, by rw [wi_f (Or.inr hz3), fxBP_s, if_pos rfl], Rel_up h1 (by omega)⟩
        by_cases c : z < 0
        · rw [if_pos c]
        · rw [if_neg c, if_neg (Int32.not_le.mpr hz3)]
      · have h10 : nI o ≤ 10 := nI_le (b := 10) (by omega) (by decide)
        have h0 := hSB.1
        obtain ⟨σx2, e2, g2⟩ := x_fined hT rfl hRX hRB hEX hEB hSX hSB hj (by omega : o ≤ 10) w 8 (a (3 + j)) (a 0) σx (by omega) (by omega) (hSB.2.2.2.1 j hj) (by omega) (agr_rf _ _)
        obtain ⟨σ8, e8, hs8, g8, back⟩ := m_ahead hSM
        have hbf : SM σ8 35 0 a := by
          obtain ⟨σ8', e8', -, -, d8⟩ := m_copies (o1 := 0) (c2 := 35) (n2 := 14) (o2 := 0) (n1 := 14) hSM (by decide) (by omega) (by omega) (by omega) (by omega) rfl rfl
          have : some σ8 = some σ8' := e8.symm.trans e8'
          rw [Option.some.inj this]; exact d8
        have hG := gSm_le (M := mhj r ef a j) (half := rH r j) (by omega : o ≤ 10) w (a (3 + j)) (a 0)
        have hp6 : 10 ^ w ≤ 10 ^ 6 := Nat.pow_le_pow_right (by decide) w6
        have hp1 : 1 ≤ 10 ^ w := Nat.one_le_pow _ _ (by decide)
        let G := gSm (mhj r ef a j) (rH r j) o w (a (3 + j)) (a 0)
        obtain ⟨σ9, g9, s9, e9⟩ := m_ch80 (RM_35 hRM g8) hRB (EM_35 hEM g8) hEB hSB (by omega) hbf hj (by omega : o ≤ 10) w6 (fun x20 σ21 => fxG (¬ nJ (1 * 10 ^ w) = 0) <| some ((Int64.toInt32 ((x20 * 1000000) / nJ (1 * 10 ^ w))), σ21)) (2 ^ w) FU 0 σ8 (by omega) (by have := pw6 w6; unfold FU; omega) hs8 (agrM_rf _)
        have g89 : agS σ1 σ9 := agS_tr ⟨fun b h1 h2 h3 => g8.1 b (fun q => h3 (by unfold scQ; omega)), fun k _ _ => by rw [g8.1 0 (by decide)], fun b j _ => by rw [g8.2], by rw [g8.2]⟩ (agS_M g9)
        refine ⟨nI (G * 10 ^ (6 - w)), σx2, σ9, ?_, ?_, ⟨r, ef, a, t, d, RelA_st hA (agr_mono (fun q hq => Or.inr (Or.inr (Or.inr hq))) g2) g89 (SX_sc hSX g2 (Or.inl rfl)) s9 (SB_up hSB (by omega)) (by omega)⟩⟩
        · unfold fX11_finedWays
          rw [if_neg (nI_pos (by omega)), if_pos h10, fxG_t (fx_inN (by omega) (by decide)), fx_clN (by omega), hSX.2.2.2.2.1 j (by omega), hSX.2.1, e2, fxBI_s, fxL_r]
          exact x_tens _ (6 - w) FU w _ (by omega) (by unfold FU; omega)
        · rw [wi_t (nI_pos (by omega)) (Int32.not_lt.mpr h10), fxBP_s, if_neg (by decide : ¬ (1 : Int32) = 0), fxL_r]
          refine (m_tens _ (w := w) (by omega) w FU 0 1 (by omega) (by unfold FU; omega)).trans ?_
          rw [e8, fxBV_s, fxL_r]
          refine e9.trans ?_
          have hne : ¬ nJ (1 * 10 ^ w) = 0 := fun q => by have := nJ_inj (b := 0) (by omega) (by decide) q; omega
          rw [fxG_t hne, Nat.one_mul]
          show some (Int64.toInt32 ((nJ G * nJ 1000000) / nJ (10 ^ w)), σ9) = _
          have hGl : G ≤ 10 ^ w := hG
          rw [nJ_mul, nJ_div (by omega) (by omega), nJ_32]
          congr 3
          rw [show 1000000 = 10 ^ (6 - w) * 10 ^ w from (tens_div w w6), ← Nat.mul_assoc, Nat.mul_div_cancel _ (by omega)]
