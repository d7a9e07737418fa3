/-! ===== the class: small functions ===== -/
theorem one_nI : (1 : Int32) = nI 1 := rfl
theorem two_nI : (2 : Int32) = nI 2 := rfl
theorem div2N {a : Nat} (h : a < 2 ^ 31) : nI a / 2 = nI (a / 2) := pk_div (d := 2) h (by decide) (by decide)
theorem bitN : ∀ c, c < 64 → ∀ k, k < 6 → ((nI c >>> (nI k &&& 31)) &&& 1) = nI (bt c k) := by decide +kernel
theorem bt_lt (n k : Nat) : bt n k < 2 := Nat.mod_lt _ (by decide)
section XA
variable {σ : FH} {T t : Nat} {r : AR} {a : AS}
theorem x_hasWare_in (h : RX σ T r) (hb : RB r) {j : Nat} (hj : j < r 0 0) : fX5_hasWare T (nI j) σ = some 1 := by
  have hw := hb.1
  unfold fX5_hasWare
  rw [fxG_t h.1, fxL_r, h.2.1, if_neg (nI_pos (by omega)), if_neg (by rw [nI_leI (by omega) (by omega)]; omega)]
  rfl
theorem x_hasWare_out (h : RX σ T r) {x : Int32} (hx : x < 0 ∨ nI (r 0 0) ≤ x) : fX5_hasWare T x σ = some 0 := by
  unfold fX5_hasWare
  rw [fxG_t h.1, fxL_r, h.2.1]
  rcases hx with hx | hx
  · rw [if_pos hx]; rfl
  · by_cases h0 : x < 0
    · rw [if_pos h0]; rfl
    · rw [if_neg h0, if_pos hx]; rfl
theorem x_hasParty_in (h : RX σ T r) (hb : RB r) {j : Nat} (hj : j < r 0 1) : fX5_hasParty T (nI j) σ = some 1 := by
  have hw := hb.2.1
  unfold fX5_hasParty
  rw [fxG_t h.1, fxL_r, h.2.2.1, if_neg (nI_pos (by omega)), if_neg (by rw [nI_leI (by omega) (by omega)]; omega)]
  rfl
theorem x_hasParty_out (h : RX σ T r) {x : Int32} (hx : x < 0 ∨ nI (r 0 1) ≤ x) : fX5_hasParty T x σ = some 0 := by
  unfold fX5_hasParty
  rw [fxG_t h.1, fxL_r, h.2.2.1]
  rcases hx with hx | hx
  · rw [if_pos hx]; rfl
  · by_cases h0 : x < 0
    · rw [if_pos h0]; rfl
    · rw [if_neg h0, if_pos hx]; rfl
theorem x_halfOf (h : RX σ T r) (hb : RB r) {j : Nat} (hj : j < r 0 0) : fX5_halfOf T (nI j) σ = some (nI (rH r j)) := by
  have hw := hb.1
  have hB := hb.2.2.2.2.1 j hj
  unfold fX5_halfOf
  rw [fxG_t h.1, fxG_t (fx_inN (by omega) (by decide)), fx_clN (by omega), (h.2.2.2.2.1 j hj).2.1, div2N (by omega)]
  rfl
theorem x_isFor (h : RX σ T r) (hb : RB r) {p j : Nat} (hp : p < r 0 1) (hj : j < 6) : fX5_isFor T (nI p) (nI j) σ = some (nI (bt (r 5 p) j)) := by
  have hw := hb.2.1
  have hB := hb.2.2.2.2.2 p hp
  unfold fX5_isFor
  rw [fxG_t h.1, fxG_t (fx_inN (by omega) (by decide)), fx_clN (by omega), (h.2.2.2.2.2 p hp).2, fxL_r, bitN _ hB.2 _ hj]
  rcases (show bt (r 5 p) j = 0 ∨ bt (r 5 p) j = 1 by have := bt_lt (r 5 p) j; omega) with e | e <;> rw [e] <;> rfl
theorem x_votes_loop (h : RX σ T r) (hb : RB r) (hs : SX σ t a) (hsb : ∀ p, p < r 0 1 → a (9 + p) ≤ 99) {j : Nat} (hj : j < 6) (K : Int32 → Option Int32) : ∀ (m n i acc : Nat), i + m = r 0 1 → m < n → fX7_votesFor_5 t T (nI j) σ K n (nI acc) (nI i) = K (nI (acc + sF (fun p => if bt (r 5 p) j = 1 then a (9 + p) else 0) i m))
  | m, 0, i, acc, _, h2 => absurd h2 (by omega)
  | 0, n + 1, i, acc, h1, _ => by
    have hw := hb.2.1
    rw [fX7_votesFor_5, h.2.2.1, if_pos (nI_le (by omega) (by omega))]
    rfl
  | m + 1, n + 1, i, acc, h1, h2 => by
    have hw := hb.2.1
    have hlt : i < r 0 1 := by omega
    rw [fX7_votesFor_5, h.2.2.1, if_neg (by rw [nI_leI (by omega) (by omega)]; omega), x_isFor h hb hlt hj, fxBP_s, nI_1, fxG_t (fx_inN (by omega) (by decide)), fx_clN (by omega), hs.2.2.2.2.2 i (by omega), fxL_r, nI_add]
    rcases (show bt (r 5 i) j = 0 ∨ bt (r 5 i) j = 1 by have := bt_lt (r 5 i) j; omega) with e | e
    · rw [e, if_pos nI_0, x_votes_loop h hb hs hsb hj K m n (i + 1) acc (by omega) (by omega)]
      simp only [sF, e]
      simp
    · rw [e, if_neg (by decide), x_votes_loop h hb hs hsb hj K m n (i + 1) (acc + a (9 + i)) (by omega) (by omega)]
      simp only [sF, e]
      simp [Nat.add_assoc]
theorem x_votesFor (h : RX σ T r) (hb : RB r) (hs : SX σ t a) (hsb : ∀ p, p < r 0 1 → a (9 + p) ≤ 99) {j : Nat} (hj : j < 6) : fX7_votesFor t T (nI j) σ = some (nI (vts r a j)) := by
  have hw := hb.2.1
  unfold fX7_votesFor
  rw [fxG_t hs.1, fxG_t h.1, fxL_r]
  refine (x_votes_loop h hb hs hsb hj _ (r 0 1) FU 0 0 (by omega) (by unfold FU; omega)).trans ?_
  rw [Nat.zero_add]
  rfl
end XA
