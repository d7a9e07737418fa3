/-! ===== the reference: small functions, a week ===== -/
theorem cl0 : Int32.toNatClampNeg 0 = 0 := rfl
theorem cl1 : Int32.toNatClampNeg 1 = 1 := rfl
theorem cl2 : Int32.toNatClampNeg 2 = 2 := rfl
theorem gi (i : Int32) (n : Nat) (h : fx_in i n = true) {β : Type} (o : Option β) : fxG (fx_in i n = true) o = o := if_pos h
theorem thN (j : Nat) : (3 : Int32) + nI j = nI (3 + j) := nI_add 3 j
theorem niN (j : Nat) : (9 : Int32) + nI j = nI (9 + j) := nI_add 9 j
theorem five (f : Nat → Nat) (hf : ∀ p, p < 5 → f p < 2) : ∃ N, N < 32 ∧ ∀ p, p < 5 → f p = bt N p := by
  have h0 := hf 0 (by omega)
  have h1 := hf 1 (by omega)
  have h2 := hf 2 (by omega)
  have h3 := hf 3 (by omega)
  have h4 := hf 4 (by omega)
  refine ⟨f 0 + 2 * f 1 + 4 * f 2 + 8 * f 3 + 16 * f 4, by omega, fun p hp => ?_⟩
  rcases (show p = 0 ∨ p = 1 ∨ p = 2 ∨ p = 3 ∨ p = 4 by omega) with rfl | rfl | rfl | rfl | rfl <;> simp only [bt, Nat.reducePow] <;> omega
/-- the parties that are for a ware, as bits -/
def blc (r : AR) (j : Nat) : Nat := sF (fun p => bt (r 5 p) j * 2 ^ p) 0 (r 0 1)
theorem five_bt : ∀ N, N < 32 → ∀ q, q < 6 → ∀ p, p < q → bt (sF (fun p => bt N p * 2 ^ p) 0 q) p = bt N p := by decide +kernel
theorem five_lt : ∀ N, N < 32 → ∀ q, q < 6 → sF (fun p => bt N p * 2 ^ p) 0 q < 2 ^ q := by decide +kernel
theorem blc_N {r : AR} (hb : RB r) (j : Nat) : ∃ N, N < 32 ∧ (∀ p, p < 5 → bt (r 5 p) j = bt N p) ∧ blc r j = sF (fun p => bt N p * 2 ^ p) 0 (r 0 1) := by
  obtain ⟨N, h1, h2⟩ := five (fun p => bt (r 5 p) j) (fun p _ => bt_lt _ _)
  have h5 := hb.2.1
  exact ⟨N, h1, h2, sF_congr _ _ (fun k _ hk => by show bt (r 5 k) j * 2 ^ k = _; rw [h2 k (by omega)])⟩
theorem blc_bt {r : AR} (hb : RB r) (j : Nat) {p : Nat} (hp : p < r 0 1) : bt (blc r j) p = bt (r 5 p) j := by
  have h5 := hb.2.1
  obtain ⟨N, h1, h2, h3⟩ := blc_N hb j
  rw [h3, five_bt N h1 _ (by omega) p hp, h2 p (by omega)]
theorem blc_lt {r : AR} (hb : RB r) (j : Nat) : blc r j < 32 := by
  have h5 := hb.2.1
  obtain ⟨N, h1, h2, h3⟩ := blc_N hb j
  rw [h3]
  have := five_lt N h1 (r 0 1) (by omega)
  have h6 : 2 ^ (r 0 1) ≤ 2 ^ 5 := Nat.pow_le_pow_right (by decide) h5
  omega
theorem orN : ∀ i, i < 6 → ∀ x, x < 2 ^ i → ∀ b, b < 2 → (nI x ||| (nI b <<< (nI i &&& 31))) = nI (x + b * 2 ^ i) := by decide +kernel
theorem bitS : ∀ c, c < 64 → ∀ k, k < 6 → ((nI c >>> (nI k &&& 31)) &&& 1) = nI (bt c k) := bitN
/-- the seats of a set of parties -/
def sts (r : AR) (a : AS) (c : Nat) : Nat := sF (fun p => if bt c p = 1 then a (9 + p) else 0) 0 (r 0 1)
theorem sts_blc {r : AR} {a : AS} (hb : RB r) (j : Nat) : sts r a (blc r j) = vts r a j := sF_congr _ _ (fun k _ hk => by rw [blc_bt hb j (by omega)])
theorem bt31 : ∀ p, p < 5 → bt 31 p = 1 := by decide
theorem sts_all {r : AR} {a : AS} (hb : RB r) : sts r a 31 = alls r a := sF_congr _ _ (fun k _ hk => by have := hb.2.1; rw [if_pos (bt31 k (by omega))])
section MA
variable {σ : FH} {r : AR} {a : AS}
theorem rm_w (h : RM σ 0 r) : σ.1 2 0 = nI (r 0 0) := h.1
theorem rm_q (h : RM σ 0 r) : σ.1 2 1 = nI (r 0 1) := h.2.1
theorem rm_f (h : RM σ 0 r) : σ.1 2 2 = nI (r 0 2) := h.2.2.1
theorem rm_k (h : RM σ 0 r) {i : Nat} (hi : i < r 0 0) : σ.1 5 i = nI (r 1 i) := by have := (h.2.2.2.1 i hi).1; rwa [Nat.mul_zero, Nat.zero_add] at this
theorem rm_wh (h : RM σ 0 r) {i : Nat} (hi : i < r 0 0) : σ.1 6 i = nI (r 2 i) := by have := (h.2.2.2.1 i hi).2.1; rwa [Nat.mul_zero, Nat.zero_add] at this
theorem rm_d (h : RM σ 0 r) {i : Nat} (hi : i < r 0 0) : σ.1 7 i = nI (r 3 i) := by have := (h.2.2.2.1 i hi).2.2; rwa [Nat.mul_zero, Nat.zero_add] at this
theorem rm_s (h : RM σ 0 r) {p : Nat} (hp : p < r 0 1) : σ.1 8 p = nI (r 4 p) := by have := (h.2.2.2.2 p hp).1; rwa [Nat.mul_zero, Nat.zero_add] at this
theorem rm_c (h : RM σ 0 r) {p : Nat} (hp : p < r 0 1) : σ.1 9 p = nI (r 5 p) := by have := (h.2.2.2.2 p hp).2; rwa [Nat.mul_zero, Nat.zero_add] at this
theorem sm_k (h : SM σ 33 0 a) {k : Nat} (hk : k < 14) : σ.1 33 k = nI (a k) := by have := h k hk; rwa [Nat.zero_add] at this
theorem m_isWare_in (h : RM σ 0 r) (hb : RB r) {j : Nat} (hj : j < r 0 0) : fX12_isWare (nI j) σ = some 1 := by
  have hw := hb.1
  unfold fX12_isWare
  rw [if_neg (nI_pos (by omega)), gi _ _ (by decide), cl0, rm_w h, if_neg (by rw [nI_leI (by omega) (by omega)]; omega)]
theorem m_isWare_out (h : RM σ 0 r) {x : Int32} (hx : x < 0 ∨ nI (r 0 0) ≤ x) : fX12_isWare x σ = some 0 := by
  unfold fX12_isWare
  rcases hx with hx | hx
  · rw [if_pos hx]
  · by_cases h0 : x < 0
    · rw [if_pos h0]
    · rw [if_neg h0, gi _ _ (by decide), cl0, rm_w h, if_pos hx]
theorem m_isParty_in (h : RM σ 0 r) (hb : RB r) {j : Nat} (hj : j < r 0 1) : fX12_isParty (nI j) σ = some 1 := by
  have hw := hb.2.1
  unfold fX12_isParty
  rw [if_neg (nI_pos (by omega)), gi _ _ (by decide), cl1, rm_q h, if_neg (by rw [nI_leI (by omega) (by omega)]; omega)]
theorem m_isParty_out (h : RM σ 0 r) {x : Int32} (hx : x < 0 ∨ nI (r 0 1) ≤ x) : fX12_isParty x σ = some 0 := by
  unfold fX12_isParty
  rcases hx with hx | hx
  · rw [if_pos hx]
  · by_cases h0 : x < 0
    · rw [if_pos h0]
    · rw [if_neg h0, gi _ _ (by decide), cl1, rm_q h, if_pos hx]
theorem m_halfOf (h : RM σ 0 r) (hb : RB r) {j : Nat} (hj : j < r 0 0) : fX12_halfOf (nI j) σ = some (nI (rH r j)) := by
  have hw := hb.1
  have hB := hb.2.2.2.2.1 j hj
  unfold fX12_halfOf
  rw [fxG_t (fx_inN (by omega) (by decide)), fx_clN (by omega), rm_wh h hj, div2N (by omega)]
  rfl
theorem m_bloc_loop (h : RM σ 0 r) (hb : RB r) {j : Nat} (hj : j < 6) (K : Int32 → Option Int32) : ∀ (m n i acc : Nat), i + m = r 0 1 → m < n → acc < 2 ^ i → fX12_blocOf_4 (nI j) σ K n (nI acc) (nI i) = K (nI (acc + sF (fun p => bt (r 5 p) j * 2 ^ p) i m))
  | m, 0, i, acc, _, h2, _ => absurd h2 (by omega)
  | 0, n + 1, i, acc, h1, _, _ => by
    have hw := hb.2.1
    rw [fX12_blocOf_4, gi _ _ (by decide), cl1, rm_q h, if_pos (nI_le (by omega) (by omega))]
    rfl
  | m + 1, n + 1, i, acc, h1, h2, h3 => by
    have hw := hb.2.1
    have hlt : i < r 0 1 := by omega
    have hB := hb.2.2.2.2.2 i hlt
    have hb2 := bt_lt (r 5 i) j
    rw [fX12_blocOf_4, gi _ _ (by decide), cl1, rm_q h, if_neg (by rw [nI_leI (by omega) (by omega)]; omega), fxG_t (fx_inN (by omega) (by decide)), fx_clN (by omega), rm_c h hlt, fxL_r, bitN _ hB.2 _ hj, orN i (by omega) acc h3 _ hb2, nI_1, m_bloc_loop h hb hj K m n (i + 1) (acc + bt (r 5 i) j * 2 ^ i) (by omega) (by omega) (by
      have : bt (r 5 i) j * 2 ^ i ≤ 1 * 2 ^ i := Nat.mul_le_mul_right _ (by omega)
      rw [Nat.pow_succ]; omega)]
    simp only [sF, Nat.add_assoc]
theorem m_blocOf (h : RM σ 0 r) (hb : RB r) {j : Nat} (hj : j < 6) : fX12_blocOf (nI j) σ = some (nI (blc r j)) := by
  have hw := hb.2.1
  unfold fX12_blocOf
  rw [fxL_r]
  refine (m_bloc_loop h hb hj _ (r 0 1) FU 0 0 (by omega) (by unfold FU; omega) (by decide)).trans ?_
  rw [Nat.zero_add]
  rfl
theorem m_seats_loop (h : RM σ 0 r) (hb : RB r) (hs : SM σ 33 0 a) {c : Nat} (hc : c < 64) (K : Int32 → Option Int32) : ∀ (m n i acc : Nat), i + m = r 0 1 → m < n → fX12_seatsOf_4 (nI c) σ K n (nI acc) (nI i) = K (nI (acc + sF (fun p => if bt c p = 1 then a (9 + p) else 0) i m))
  | m, 0, i, acc, _, h2 => absurd h2 (by omega)
  | 0, n + 1, i, acc, h1, _ => by
    have hw := hb.2.1
    rw [fX12_seatsOf_4, gi _ _ (by decide), cl1, rm_q h, if_pos (nI_le (by omega) (by omega))]
    rfl
  | m + 1, n + 1, i, acc, h1, h2 => by
    have hw := hb.2.1
    have hlt : i < r 0 1 := by omega
    rw [fX12_seatsOf_4, gi _ _ (by decide), cl1, rm_q h, if_neg (by rw [nI_leI (by omega) (by omega)]; omega), bitN _ hc _ (by omega), niN, fxG_t (fx_inN (by omega) (by decide)), fx_clN (by omega), sm_k hs (by omega), fxL_r, fxL_r, nI_add, nI_1, show nI acc + 0 = nI acc from nI_add acc 0]
    rcases (show bt c i = 0 ∨ bt c i = 1 by have := bt_lt c i; omega) with e | e
    · rw [e, if_neg (by decide), m_seats_loop h hb hs hc K m n (i + 1) acc (by omega) (by omega)]
      simp only [sF, e]
      simp
    · rw [e, if_pos (by decide), m_seats_loop h hb hs hc K m n (i + 1) (acc + a (9 + i)) (by omega) (by omega)]
      simp only [sF, e]
      simp [Nat.add_assoc]
theorem m_seatsOf (h : RM σ 0 r) (hb : RB r) (hs : SM σ 33 0 a) {c : Nat} (hc : c < 64) : fX12_seatsOf (nI c) σ = some (nI (sts r a c)) := by
  have hw := hb.2.1
  unfold fX12_seatsOf
  rw [fxL_r]
  refine (m_seats_loop h hb hs hc _ (r 0 1) FU 0 0 (by omega) (by unfold FU; omega)).trans ?_
  rw [Nat.zero_add]
  rfl
theorem m_votesOf (h : RM σ 0 r) (hb : RB r) (hs : SM σ 33 0 a) {j : Nat} (hj : j < 6) : fX12_votesOf (nI j) σ = some (nI (vts r a j)) := by
  unfold fX12_votesOf
  rw [m_blocOf h hb hj, fxBP_s, m_seatsOf h hb hs (by have := blc_lt hb j; omega), fxBP_s, sts_blc hb]
theorem m_allSeats (h : RM σ 0 r) (hb : RB r) (hs : SM σ 33 0 a) : fX12_allSeats σ = some (nI (alls r a)) := by
  unfold fX12_allSeats
  rw [show (31 : Int32) = nI 31 from rfl, m_seatsOf h hb hs (by omega), fxBP_s, sts_all hb]
theorem m_works (h : RM σ 0 r) (hb : RB r) (hs : SM σ 33 0 a) {j m : Nat} (hj : j < r 0 0) (hm : m ≤ 1000) (ha : a (3 + j) ≤ rH r j) :
    ∃ σ', fX12_works (nI j) (nI m) σ = some (nI (wfi r a j m), σ') ∧ SM σ' 33 0 (wrk r a j m) ∧ agr (fun b => b = 33) σ σ' := by
  have hw := hb.1
  have hB := hb.2.2.2.2.1 j hj
  have hhalf : rH r j ≤ 30 := by unfold rH; omega
  unfold fX12_works
  rw [thN, fxG_t (fx_inN (by omega) (by decide)), m_halfOf h hb hj, fxBP_s, fx_clN (by omega), sm_k hs (by omega), nI_add, posN (by omega) (by omega), fxL_r, fxG_t (fx_inN (by omega) (by decide)), fxG_t (fx_inN (by omega) (by decide)), fxL_r, pk_sub (show a (3 + j) + m - rH r j ≤ m by omega), nI_add, gi _ _ (by decide), gi _ _ (by decide), gi _ _ (by decide), fxL_r, gi _ _ (by decide), cl1, cl2]
  have e1 : (fx_si σ 33 (3 + j) (nI (a (3 + j) + (m - (a (3 + j) + m - rH r j))))).1 33 1 = nI (a 1) := by rw [si1, if_neg (by omega)]; exact sm_k hs (by omega)
  have e2 : (fx_si σ 33 (3 + j) (nI (a (3 + j) + (m - (a (3 + j) + m - rH r j))))).1 2 2 = nI (r 0 2) := by rw [si1, if_neg (by omega)]; exact rm_f h
  rw [e1, e2, pk_mul, nI_add]
  have e3 : (fx_si (fx_si σ 33 (3 + j) (nI (a (3 + j) + (m - (a (3 + j) + m - rH r j))))) 33 1 (nI (a 1 + (a (3 + j) + m - rH r j) * r 0 2))).1 2 2 = nI (r 0 2) := by rw [si1, if_neg (by omega)]; exact e2
  rw [e3, pk_mul]
  refine ⟨_, rfl, fun k hk => ?_, agr_sit rfl (agr_si rfl)⟩
  rw [Nat.zero_add, si1, wrk]
  by_cases k1 : k = 1
  · subst k1
    rw [if_pos ⟨rfl, rfl⟩, upS_eq]
  · rw [if_neg (by omega), si1, upS_ne (by omega)]
    by_cases k3 : k = 3 + j
    · subst k3
      rw [if_pos ⟨rfl, rfl⟩, upS_eq]
      congr 1
      omega
    · rw [if_neg (by omega), upS_ne (by omega)]
      exact sm_k hs hk
end MA
