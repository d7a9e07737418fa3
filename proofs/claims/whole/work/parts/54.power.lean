/-! ===== power, most ===== -/
abbrev nJ (n : Nat) : Int64 := Int64.ofNat n
theorem nJ_nI {n : Nat} (h : n < 2 ^ 31) : Int32.toInt64 (nI n) = nJ n := Int32.toInt64_ofNat' (by show (n : Int) ≤ 2147483647; omega)
theorem nJ_mul (a b : Nat) : nJ a * nJ b = nJ (a * b) := (Int64.ofNat_mul a b).symm
theorem nJ_add (a b : Nat) : nJ a + nJ b = nJ (a + b) := (Int64.ofNat_add a b).symm
theorem nJ_div {a b : Nat} (ha : a < 2 ^ 63) (hb : b < 2 ^ 63) : nJ a / nJ b = nJ (a / b) := (Int64.ofNat_div ha hb).symm
theorem nJ_32 (a : Nat) : Int64.toInt32 (nJ a) = nI a := Int64.toInt32_ofNat'
theorem nJ_inj {a b : Nat} (ha : a < 2 ^ 63) (hb : b < 2 ^ 63) (h : nJ a = nJ b) : a = b := by
  have := congrArg Int64.toInt h
  rw [Int64.toInt_ofNat_of_lt ha, Int64.toInt_ofNat_of_lt hb] at this
  omega
theorem pvC_le (r : AR) (a : AS) (hb : RB r) (p : Nat) : pvC r a p ≤ 32 := by
  have hp := pw_le hb.2.1
  have h1 := sF_le (f := fun s => if pvB r a p s then 1 else 0) (b := 1) (2 ^ r 0 1) 0 (fun k _ _ => by split <;> omega)
  exact Nat.le_trans h1 (by omega)
def pwA (r : AR) (a : AS) : Nat := sF (pvC r a) 0 (r 0 1)
theorem pwA_le (r : AR) (a : AS) (hb : RB r) : pwA r a ≤ 160 := by
  have h1 := sF_le (f := pvC r a) (b := 32) (r 0 1) 0 (fun k _ _ => pvC_le r a hb k)
  have h3 : r 0 1 * 32 ≤ 5 * 32 := Nat.mul_le_mul_right _ hb.2.1
  exact Nat.le_trans h1 h3
theorem op_power (x : Int32) : OpI (fX11_power x) (fX12_power x) := by
  intro n σx σm hn h
  have h1 := Rel_th h
  unfold fX11_power fX12_power
  rw [fxL_r (fx_si σm 0 0 0)]
  generalize fx_si σm 0 0 0 = σ1 at h1 ⊢
  obtain ⟨r, ef, a, t, d, hA⟩ := id h1
  obtain ⟨hMV, hRB, hEB, hRX, hEX, hRM, hEM, hNX, hSX, hSM, hSB, -⟩ := id hA
  have hw := hRB.2.1
  have hT : σx.2.2 2 = 17 ∨ σx.2.2 2 = 28 := by rcases hMV.1 with z | z <;> omega
  rw [fxG_t hRX.1]
  rcases pk_ix x (n := r 0 1) (by omega) with hx | hx | ⟨j, hj, rfl⟩
  · exact ⟨-1, σx, σ1, by rw [x_hasParty_out hRX (Or.inl hx), fxBP_s, if_pos rfl], by rw [m_isParty_out hRM (Or.inl hx), fxBP_s, if_pos rfl], Rel_up h1 (by omega)⟩
  · exact ⟨-1, σx, σ1, by rw [x_hasParty_out hRX (Or.inr hx), fxBP_s, if_pos rfl], by rw [m_isParty_out hRM (Or.inr hx), fxBP_s, if_pos rfl], Rel_up h1 (by omega)⟩
  · obtain ⟨σx2, e2, g2, m2, a2⟩ := x_meet hRX hRB hSX
    have hMS : MS σx2 r a := ⟨m2.1, m2.2, a2⟩
    have hv : σx2.2.2 2 = σx.2.2 2 := by rw [g2.2]
    have hRX2 : RX σx2 (σx2.2.2 2) r := by rw [hv]; exact RX_agr hRX g2 (fun i hi => by omega)
    have hA1 := pwA_le r a hRB
    have hP1 := pvC_le r a hRB j
    have lx : ∀ K : Int32 → Option (Int32 × FH), fX11_power_38 σx2 K FU 0 0 = K (nI (pwA r a)) := by
      intro K
      have := loopP (F := fun n b i => fX11_power_38 σx2 K n (nI b) (nI i)) (K := fun b => K (nI b)) (f := fun p b => b + pvC r a p) (N := r 0 1) (Inv := fun _ _ => True) (fun n b _ => by rw [fX11_power_38, fxG_t hRX2.1, hRX2.2.2.1, if_pos (le_yes (by omega))]) (fun n b i hi _ => ⟨by
        rw [fX11_power_38, fxG_t hRX2.1, hRX2.2.2.1, if_neg (le_no hi (by omega)), x_turnsBy hMS hRB hSB hi, fxBP_s, nI_add, fxL_r, nI_1], trivial⟩) (r 0 1) FU 0 0 (by omega) (by unfold FU; omega) trivial
      rw [itr_sum, Nat.zero_add] at this
      exact this
    have lm : ∀ K : Int32 → Option (Int32 × FH), fX12_power_19 σ1 K FU 0 0 = K (nI (pwA r a)) := by
      intro K
      have := loopP (F := fun n b i => fX12_power_19 σ1 K n (nI b) (nI i)) (K := fun b => K (nI b)) (f := fun p b => b + pvC r a p) (N := r 0 1) (Inv := fun _ _ => True) (fun n b _ => by rw [fX12_power_19, fxG_t (by decide), cl1, rm_q hRM, if_pos (le_yes (by omega))]) (fun n b i hi _ => ⟨by
        rw [fX12_power_19, fxG_t (by decide), cl1, rm_q hRM, if_neg (le_no hi (by omega)), m_pivotsOf hRM hRB hSM hSB hi, fxBP_s, nI_add, fxL_r, nI_1], trivial⟩) (r 0 1) FU 0 0 (by omega) (by unfold FU; omega) trivial
      rw [itr_sum, Nat.zero_add] at this
      exact this
    rw [x_hasParty_in hRX hRB hj, fxBP_s, if_neg (by decide : ¬ (1 : Int32) = 0), fxG_t hRX.1, e2, fxBV_s, fxL_r, lx, m_isParty_in hRM hRB hj, fxBP_s, if_neg (by decide : ¬ (1 : Int32) = 0), fxL_r, lm]
    by_cases c : pwA r a = 0
    · refine ⟨-1, σx2, σ1, by rw [c, if_neg (by decide)], by rw [c, if_pos (by decide)], Rel_up (Rel_sc h1 (scX_56 g2) (agQ_rf _)) (by omega)⟩
    · have c1 : ¬ nI (pwA r a) = 0 := fun q => c (nI_inj (b := 0) (by omega) (by decide) q)
      have c2 : (0 : Int32) < nI (pwA r a) := nI_lt (a := 0) (by omega) (by omega)
      have c3 : ¬ Int32.toInt64 (nI (pwA r a)) = 0 := by
        rw [nJ_nI (by omega)]
        exact fun q => c (nJ_inj (b := 0) (by omega) (by decide) q)
      refine ⟨nI (1000000 * pvC r a j / pwA r a), σx2, σ1, ?_, ?_, Rel_up (Rel_sc h1 (scX_56 g2) (agQ_rf _)) (by omega)⟩
      · rw [if_pos c2, x_turnsBy hMS hRB hSB hj, fxBP_s, fxG_t c1, show (1000000 : Int32) * nI (pvC r a j) = nI (1000000 * pvC r a j) from pk_mul 1000000 _, pk_div (by omega) (by omega) (by omega)]
      · rw [if_neg c1, m_pivotsOf hRM hRB hSM hSB hj, fxBP_s, fxG_t c3, nJ_nI (by omega), nJ_nI (by omega), show nJ (pvC r a j) * 1000000 = nJ (pvC r a j * 1000000) from nJ_mul _ 1000000, nJ_div (by omega) (by omega), nJ_32, Nat.mul_comm]
/-- the work by which a set would be half done -/
def lk (r : AR) (a : AS) (s : Nat) : Nat := sF (fun i => if bt s i = 1 then rH r i - a (3 + i) else 0) 0 (r 0 0)
theorem lk_le {r : AR} {a : AS} (hb : RB r) (s : Nat) : lk r a s ≤ 180 := by
  have h1 := sF_le (f := fun i => if bt s i = 1 then rH r i - a (3 + i) else 0) (b := 30) (r 0 0) 0 (fun k _ hk => by
    have := hb.2.2.2.2.1 k (by omega)
    unfold rH
    split <;> omega)
  have h3 : r 0 0 * 30 ≤ 6 * 30 := Nat.mul_le_mul_right _ hb.1
  exact Nat.le_trans h1 h3
def moF (r : AR) (a : AS) (now w s b : Nat) : Nat := if (s &&& now = now ∧ lk r a s ≤ w) ∧ (pop b < pop s ∨ (pop b = pop s ∧ lk r a s < lk r a b)) then s else b
section MO
variable {σ : FH} {T : Nat} {r : AR} {a : AS}
theorem x_lackOf (h : RX σ T r) (hb : RB r) (hs : SX σ 7 a) (hd : ∀ i, i < r 0 0 → a (3 + i) ≤ rH r i) {s : Nat} (hs6 : s < 64) : fX7_lackOf 7 T (nI s) σ = some (nI (lk r a s)) := by
  have hw := hb.1
  unfold fX7_lackOf
  rw [fxG_t hs.1, fxG_t h.1, fxL_r]
  have := loopP (F := fun n b i => fX7_lackOf_5 7 T (nI s) σ (fun x => some x) n (nI b) (nI i)) (K := fun b => some (nI b)) (f := fun i b => b + if bt s i = 1 then rH r i - a (3 + i) else 0) (N := r 0 0) (Inv := fun _ _ => True) (fun n b _ => by rw [fX7_lackOf_5, h.2.1, if_pos (le_yes (by omega))]) (fun n b i hi _ => ⟨by
    rw [fX7_lackOf_5, h.2.1, if_neg (le_no hi (by omega)), bitN s hs6 i (by omega), nI_1]
    by_cases c : bt s i = 1
    · rw [c, if_pos (by decide), x_halfOf h hb hi, fxBP_s, fxG_t (fx_inN (by omega) (by decide)), fx_clN (by omega), hs.2.2.2.2.1 i (by omega), pk_sub (hd i hi), nI_add, fxL_r]; rfl
    · have : bt s i = 0 := by have := bt_lt s i; omega
      rw [this, if_neg (by decide), if_neg (by decide)]; rfl, trivial⟩) (r 0 0) FU 0 0 (by omega) (by unfold FU; omega) trivial
  rw [itr_sum, Nat.zero_add] at this
  exact this
theorem m_lackOf (h : RM σ 0 r) (hb : RB r) (hs : SM σ 33 0 a) (hd : ∀ i, i < r 0 0 → a (3 + i) ≤ rH r i) {s : Nat} (hs6 : s < 64) : fX12_lackOf (nI s) σ = some (nI (lk r a s)) := by
  have hw := hb.1
  unfold fX12_lackOf
  rw [fxL_r]
  have := loopP (F := fun n b i => fX12_lackOf_4 (nI s) σ (fun x => some x) n (nI b) (nI i)) (K := fun b => some (nI b)) (f := fun i b => b + if bt s i = 1 then rH r i - a (3 + i) else 0) (N := r 0 0) (Inv := fun _ _ => True) (fun n b _ => by rw [fX12_lackOf_4, fxG_t (by decide), cl0, rm_w h, if_pos (le_yes (by omega))]) (fun n b i hi _ => ⟨by
    rw [fX12_lackOf_4, fxG_t (by decide), cl0, rm_w h, if_neg (le_no hi (by omega)), bitN s hs6 i (by omega), nI_1, Int32.add_zero]
    by_cases c : bt s i = 1
    · rw [c, if_pos (by decide), m_halfOf h hb hi, fxBP_s, thN, fxG_t (fx_inN (by omega) (by decide)), fx_clN (by omega), sm_k hs (by omega), pk_sub (hd i hi), nI_add, fxL_r]; rfl
    · have : bt s i = 0 := by have := bt_lt s i; omega
      rw [this, if_neg (by decide), if_neg (by decide)]; rfl, trivial⟩) (r 0 0) FU 0 0 (by omega) (by unfold FU; omega) trivial
  rw [itr_sum, Nat.zero_add] at this
  exact this
theorem x_isBetter (h : RX σ (σ.2.2 2) r) (hb : RB r) (hs : SX σ 7 a) (hd : ∀ i, i < r 0 0 → a (3 + i) ≤ rH r i) {s b : Nat} (hs6 : s < 64) (hb6 : b < 64) : fX11_isBetter (nI s) (nI b) σ = some (if pop b < pop s ∨ (pop b = pop s ∧ lk r a s < lk r a b) then 1 else 0) := by
  have h1 := pop_le s hs6
  have h2 := pop_le b hb6
  have l1 := lk_le (a := a) hb s
  have l2 := lk_le (a := a) hb b
  unfold fX11_isBetter
  rw [x_bits hs6, fxBP_s, x_bits hb6, fxBP_s, fxL_r]
  have key : ∀ p q, p ≤ 6 → q ≤ 6 → ((0 : Int32) < nI p - nI q ↔ q < p) ∧ (nI p - nI q = 0 ↔ q = p) := by
    intro p q hp hq
    have : ∀ p, p < 7 → ∀ q, q < 7 → ((0 : Int32) < nI p - nI q ↔ q < p) ∧ (nI p - nI q = 0 ↔ q = p) := by decide +kernel
    exact this p (by omega) q (by omega)
  obtain ⟨k1, k2⟩ := key (pop s) (pop b) h1 h2
  by_cases c1 : pop b < pop s
  · rw [if_pos (k1.mpr c1), if_pos (Or.inl c1)]
  · rw [if_neg (fun q => c1 (k1.mp q))]
    by_cases c2 : pop b = pop s
    · rw [if_pos (k2.mpr c2), fxG_t h.1, x_lackOf h hb hs hd hs6, fxBP_s, fxG_t h.1, x_lackOf h hb hs hd hb6, fxBP_s]
      by_cases c3 : lk r a s < lk r a b
      · rw [if_neg (le_no c3 (by omega)), if_pos (Or.inr ⟨c2, c3⟩)]
      · rw [if_pos (nI_le (by omega) (by omega)), if_neg (by omega)]
    · rw [if_neg (fun q => c2 (k2.mp q)), if_neg (by omega)]
theorem moF_lt {now w s b : Nat} (hs : s < 64) (hb : b < 64) : moF r a now w s b < 64 := by
  unfold moF
  split <;> omega
theorem andE : ∀ x, x < 64 → ∀ y, y < 64 → ((nI x &&& nI y = nI y) ↔ (x &&& y = y)) := by decide +kernel
theorem pw6 {k : Nat} (h : k ≤ 6) : 2 ^ k ≤ 64 := Nat.pow_le_pow_right (by decide) h
theorem x_most_loop (h : RX σ (σ.2.2 2) r) (hb : RB r) (hs : SX σ 7 a) (hd : ∀ i, i < r 0 0 → a (3 + i) ≤ rH r i) {now w : Nat} (hnow : now < 64) (hw2 : w ≤ 200) (K : Int32 → Option Int32) : fX11_most_40 (nI w) σ (nI now) K FU (nI now) 0 = K (nI (itr (moF r a now w) 0 (2 ^ r 0 0) now)) := by
  have hw := hb.1
  have hp := pw6 hw
  exact loopP (F := fun n b i => fX11_most_40 (nI w) σ (nI now) K n (nI b) (nI i)) (K := fun b => K (nI b)) (f := moF r a now w) (N := 2 ^ r 0 0) (Inv := fun _ b => b < 64) (fun n b _ => by rw [fX11_most_40, fxG_t h.1, h.2.1, shl1 _ (by omega), if_pos (le_yes (by omega))]) (fun n b i hi hv => by
    refine ⟨?_, moF_lt (by omega) hv⟩
    have hl := lk_le (a := a) hb i
    rw [fX11_most_40, fxG_t h.1, h.2.1, shl1 _ (by omega), if_neg (le_no hi (by omega)), fxL_r, fxL_r, nI_1]
    dsimp only
    rw [if_pos (show (0 : Int32) = 0 from rfl), if_neg (show ¬ (1 : Int32) = 0 by decide), fxG_t h.1, x_lackOf h hb hs hd (by omega), fxBP_s, x_isBetter h hb hs hd (by omega) hv, fxBP_s]
    unfold moF
    by_cases c1 : i &&& now = now
    · rw [if_pos ((andE i (by omega) now hnow).mpr c1)]
      by_cases c2 : lk r a i ≤ w
      · rw [if_neg (by rw [nI_ltI (by omega) (by omega)]; omega)]
        by_cases c3 : pop b < pop i ∨ (pop b = pop i ∧ lk r a i < lk r a b)
        · rw [if_pos c3, if_neg (by decide), if_pos ⟨⟨c1, c2⟩, c3⟩]
        · rw [if_neg c3, if_pos rfl, if_neg (fun q => c3 q.2)]
      · rw [if_pos (nI_lt (by omega) (by omega)), if_neg (fun q => c2 q.1.2)]
    · rw [if_neg (fun q => c1 ((andE i (by omega) now hnow).mp q)), if_neg (fun q => c1 q.1.1)]) (2 ^ r 0 0) FU 0 now (by omega) (by unfold FU; omega) hnow
theorem m_most_loop (h : RM σ 0 r) (hb : RB r) (hs : SM σ 33 0 a) (hd : ∀ i, i < r 0 0 → a (3 + i) ≤ rH r i) {now w : Nat} (hnow : now < 64) (hw2 : w ≤ 200) (K : Int32 → Option (Int32 × FH)) : fX12_most_38 (nI w) σ (nI now) K FU (nI now) 0 = K (nI (itr (moF r a now w) 0 (2 ^ r 0 0) now)) := by
  have hw := hb.1
  have hp := pw6 hw
  exact loopP (F := fun n b i => fX12_most_38 (nI w) σ (nI now) K n (nI b) (nI i)) (K := fun b => K (nI b)) (f := moF r a now w) (N := 2 ^ r 0 0) (Inv := fun _ b => b < 64) (fun n b _ => by rw [fX12_most_38, fxG_t (by decide), cl0, rm_w h, shl1 _ (by omega), if_pos (le_yes (by omega))]) (fun n b i hi hv => by
    refine ⟨?_, moF_lt (by omega) hv⟩
    have hl := lk_le (a := a) hb i
    have hl2 := lk_le (a := a) hb b
    have h1 := pop_le i (by omega)
    have h2 := pop_le b hv
    rw [fX12_most_38, fxG_t (by decide), cl0, rm_w h, shl1 _ (by omega), if_neg (le_no hi (by omega)), nI_1, m_lackOf h hb hs hd (by omega), fxBP_s, m_bits (by omega), fxBP_s, m_bits hv, fxBP_s, fxBP_s, fxBP_s, fxBP_s, m_lackOf h hb hs hd hv, fxBP_s]
    unfold moF
    by_cases c1 : i &&& now = now
    · rw [if_pos ((andE i (by omega) now hnow).mpr c1)]
      by_cases c2 : lk r a i ≤ w
      · rw [if_neg (by rw [nI_ltI (by omega) (by omega)]; omega)]
        by_cases c3 : pop b ≤ pop i
        · rw [if_pos (nI_le c3 (by omega))]
          by_cases c4 : pop b < pop i
          · rw [if_pos (nI_lt c4 (by omega)), if_pos ⟨⟨c1, c2⟩, Or.inl c4⟩]
          · rw [if_neg (by rw [nI_ltI (by omega) (by omega)]; omega)]
            by_cases c5 : lk r a i < lk r a b
            · rw [if_neg (le_no c5 (by omega)), if_pos ⟨⟨c1, c2⟩, Or.inr ⟨by omega, c5⟩⟩]
            · rw [if_pos (nI_le (by omega) (by omega)), if_neg (by omega)]
        · rw [if_neg (le_no (by omega) (by omega)), if_neg (by omega)]
      · rw [if_pos (nI_lt (by omega) (by omega)), if_neg (fun q => c2 q.1.2)]
    · rw [if_neg (fun q => c1 ((andE i (by omega) now hnow).mp q)), if_neg (fun q => c1 q.1.1)]) (2 ^ r 0 0) FU 0 now (by omega) (by unfold FU; omega) hnow
end MO
theorem hvb64 {r : AR} (hb : RB r) (a : AS) : hvb r a (r 0 0) < 64 := Nat.lt_of_lt_of_le (hvb_lt r a _) (pw6 hb.1)
theorem op_most (x y : Int32) : OpP (fX11_most x y) (fX12_most x y) := by
  intro n σx σm hn h
  have h1 := Rel_th h
  unfold fX11_most fX12_most
  rw [fxL_r (fx_si σm 0 0 0)]
  generalize fx_si σm 0 0 0 = σ1 at h1 ⊢
  obtain ⟨r, ef, a, t, d, hA⟩ := id h1
  obtain ⟨hMV, hRB, hEB, hRX, hEX, hRM, hEM, hNX, hSX, hSM, hSB, -⟩ := id hA
  have hd := hSB.2.2.2.1
  rcases pk_ix x (n := 201) (by decide) with hx | hx | ⟨w, hw, rfl⟩
  · exact ⟨-1, σ1, by rw [if_pos hx], by rw [wi_f (Or.inl hx), fxBP_s, if_pos rfl], Rel_up h1 (by omega)⟩
  · have hx3 : 200 < x := nle_lt (a := 200) (by decide) hx (by decide)
    refine ⟨-1, σ1, ?_, by rw [wi_f (Or.inr hx3), fxBP_s, if_pos rfl], Rel_up h1 (by omega)⟩
    by_cases c : x < 0
    · rw [if_pos c]
    · rw [if_neg c, if_pos hx3]
  · have h200 : nI w ≤ 200 := nI_le (b := 200) (by omega) (by decide)
    rw [if_neg (nI_pos (by omega)), if_neg (Int32.not_lt.mpr h200), wi_t (nI_pos (by omega)) (Int32.not_lt.mpr h200), fxBP_s, if_neg (by decide : ¬ (1 : Int32) = 0)]
    rcases three y with hy | hy
    · refine ⟨-1, σ1, ?_, by rw [wi_f hy, fxBP_s, if_pos rfl], Rel_up h1 (by omega)⟩
      rcases hy with hy | hy
      · rw [if_pos hy]
      · by_cases c : y < 0
        · rw [if_pos c]
        · rw [if_neg c, if_neg (Int32.not_le.mpr hy)]
    · have hy0 : ¬ y < 0 := by rcases hy with rfl | rfl | rfl <;> decide
      have hy2 : y ≤ 2 := by rcases hy with rfl | rfl | rfl <;> decide
      have h64 := hvb64 hRB a
      have hI : itr (moF r a (hvb r a (r 0 0)) w) 0 (2 ^ r 0 0) (hvb r a (r 0 0)) < 64 := itr_inv _ (fun _ b => b < 64) (2 ^ r 0 0) (fun b i hi hb => moF_lt (by have := pw6 hRB.1; omega) hb) (2 ^ r 0 0) 0 _ (by omega) h64
      rw [if_neg hy0, if_pos hy2, fxG_t hRX.1, x_halfDone hRX hRB hSX hd, fxBP_s, fxL_r, x_most_loop hRX hRB hSX hd h64 (by omega), wi_t hy0 (Int32.not_lt.mpr hy2), fxBP_s, if_neg (by decide : ¬ (1 : Int32) = 0), m_halves hRM hRB hSM hd, fxBP_s, fxL_r, m_most_loop hRM hRB hSM hd h64 (by omega)]
      generalize itr (moF r a (hvb r a (r 0 0)) w) 0 (2 ^ r 0 0) (hvb r a (r 0 0)) = z at hI ⊢
      rw [x_bits hI, fxBP_s, fxG_t hRX.1, x_lackOf hRX hRB hSX hd hI, fxBP_s, m_bits hI, fxBP_s, m_lackOf hRM hRB hSM hd hI, fxBP_s]
      rcases hy with rfl | rfl | rfl
      · exact ⟨nI (pop z), σ1, by rw [if_pos rfl], by rw [if_pos rfl], Rel_up h1 (by omega)⟩
      · exact ⟨nI (lk r a z), σ1, by rw [if_neg (by decide), if_pos rfl], by rw [if_neg (by decide), if_pos rfl], Rel_up h1 (by omega)⟩
      · exact ⟨nI z, σ1, by rw [if_neg (by decide), if_neg (by decide)], by rw [if_neg (by decide), if_neg (by decide)], Rel_up h1 (by omega)⟩
