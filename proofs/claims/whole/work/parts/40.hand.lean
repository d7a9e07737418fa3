/-! ===== by hand: work, stop, join, lend, week ===== -/
def stp (a : AS) (i m : Nat) : AS := upS a (3 + i) (a (3 + i) - m)
def jn (r : AR) (a : AS) (i j : Nat) : AS := upS (upS (upS (upS a (3 + i) 0) (3 + j) 0) 1 (a 1 + 10 * r 0 2)) 2 (a 2 + 1)
def ld (a : AS) (p o s : Nat) : AS := upS (upS a (9 + p) (a (9 + p) - s)) (9 + o) (a (9 + o) + s)
def canJ (r : AR) (a : AS) (i j : Nat) : Bool := decide (i ≠ j ∧ r 2 i = r 2 j ∧ a (3 + i) = rH r i ∧ a (3 + j) = rH r j)
def canL (a : AS) (p o s : Nat) : Bool := decide (p ≠ o ∧ s ≤ a (9 + p) ∧ a (9 + o) + s ≤ 99)
theorem wks_fin (r : AR) (ef : EF) (a : AS) : ∀ n, wks r ef a n 1 = a 1 + wkf r ef a n
  | 0 => rfl
  | n + 1 => by rw [wks, wrk, upS_eq, wks_fin r ef a n, wkf, wfi, Nat.add_assoc]
theorem wkf_le {r : AR} {ef : EF} {a : AS} (hb : RB r) (heb : EB ef) (hd : ∀ i, i < r 0 0 → a (3 + i) ≤ rH r i) : ∀ n, n ≤ r 0 0 → wkf r ef a n ≤ 432 * n
  | 0, _ => Nat.le_refl 0
  | n + 1, hn => by
    have h1 := wkf_le hb heb hd n (by omega)
    have hw := hb.1
    have hB := hb.2.2.2.2.1 n (by omega)
    have hhalf : rH r n ≤ 30 := by unfold rH; omega
    have hdn := wks_done (ef := ef) hd n (by omega) hw n (by omega)
    have hml : mch r ef (wks r ef a n) n ≤ 18 := much_le heb _ _ _ _ _
    have : wfi r (wks r ef a n) n (mch r ef (wks r ef a n) n) ≤ 48 * 9 := Nat.mul_le_mul (by omega) hb.2.2.2.1
    rw [wkf]
    omega
section SBs
variable {r : AR} {a : AS} {n : Nat}
theorem SB_wrk (hb : RB r) (h : SB r a n) {i m : Nat} (hi : i < r 0 0) (hm : m ≤ 20) : SB r (wrk r a i m) (n + 1) := by
  obtain ⟨h1, h2, h3, h4, h5, h6, h7⟩ := h
  have hw := hb.1
  have ha := h4 i hi
  have hf : (a (3 + i) + m - rH r i) * r 0 2 ≤ 20 * 9 := Nat.mul_le_mul (by omega) hb.2.2.2.1
  refine ⟨?_, ?_, ?_, fun k hk => ?_, fun k hk hk2 => ?_, fun p hp => ?_, fun p hp hp2 => ?_⟩
  · rw [wrk, upS_ne (by omega), upS_ne (by omega)]; omega
  · rw [wrk, upS_eq]; omega
  · rw [wrk, upS_ne (by omega), upS_ne (by omega)]; omega
  · rw [wrk, upS_ne (by omega)]
    by_cases e : k = i
    · subst e; rw [upS_eq]; exact Nat.min_le_right _ _
    · rw [upS_ne (by omega)]; exact h4 k hk
  · rw [wrk, upS_ne (by omega), upS_ne (by omega)]; exact h5 k hk hk2
  · rw [wrk, upS_ne (by omega), upS_ne (by omega)]; exact h6 p hp
  · rw [wrk, upS_ne (by omega), upS_ne (by omega)]; exact h7 p hp hp2
theorem SB_stp (h : SB r a n) {i m : Nat} (hi : i < r 0 0) : SB r (stp a i m) (n + 1) := by
  obtain ⟨h1, h2, h3, h4, h5, h6, h7⟩ := h
  refine ⟨?_, ?_, ?_, fun k hk => ?_, fun k hk hk2 => ?_, fun p hp => ?_, fun p hp hp2 => ?_⟩
  · rw [stp, upS_ne (by omega)]; omega
  · rw [stp, upS_ne (by omega)]; omega
  · rw [stp, upS_ne (by omega)]; omega
  · unfold stp
    by_cases e : k = i
    · subst e; rw [upS_eq]; have := h4 k hk; omega
    · rw [upS_ne (by omega)]; exact h4 k hk
  · rw [stp, upS_ne (by omega)]; exact h5 k hk hk2
  · unfold stp
    by_cases e : 9 + p = 3 + i
    · rw [e, upS_eq, ← e]; have := h6 p hp; omega
    · rw [upS_ne e]; exact h6 p hp
  · unfold stp
    by_cases e : 9 + p = 3 + i
    · rw [e, upS_eq, ← e]; have := h7 p hp hp2; omega
    · rw [upS_ne e]; exact h7 p hp hp2
theorem SB_jn (hb : RB r) (h : SB r a n) {i j : Nat} (hi : i < r 0 0) (hj : j < r 0 0) : SB r (jn r a i j) (n + 1) := by
  obtain ⟨h1, h2, h3, h4, h5, h6, h7⟩ := h
  have hw := hb.1
  have hF := hb.2.2.2.1
  refine ⟨?_, ?_, ?_, fun k hk => ?_, fun k hk hk2 => ?_, fun p hp => ?_, fun p hp hp2 => ?_⟩
  · rw [jn, upS_ne (by omega), upS_ne (by omega), upS_ne (by omega), upS_ne (by omega)]; omega
  · rw [jn, upS_ne (by omega), upS_eq]; omega
  · rw [jn, upS_eq]; omega
  · rw [jn, upS_ne (by omega), upS_ne (by omega)]
    by_cases e : k = j
    · subst e; rw [upS_eq]; omega
    · rw [upS_ne (by omega)]
      by_cases e2 : k = i
      · subst e2; rw [upS_eq]; omega
      · rw [upS_ne (by omega)]; exact h4 k hk
  · rw [jn, upS_ne (by omega), upS_ne (by omega), upS_ne (by omega), upS_ne (by omega)]; exact h5 k hk hk2
  · rw [jn, upS_ne (by omega), upS_ne (by omega), upS_ne (by omega), upS_ne (by omega)]; exact h6 p hp
  · rw [jn, upS_ne (by omega), upS_ne (by omega), upS_ne (by omega), upS_ne (by omega)]; exact h7 p hp hp2
theorem SB_ld (hb : RB r) (h : SB r a n) {p o s : Nat} (hp : p < r 0 1) (ho : o < r 0 1) (hc : canL a p o s = true) : SB r (ld a p o s) (n + 1) := by
  obtain ⟨h1, h2, h3, h4, h5, h6, h7⟩ := h
  have hq := hb.2.1
  have hw := hb.1
  obtain ⟨c1, c2, c3⟩ := of_decide_eq_true hc
  refine ⟨?_, ?_, ?_, fun k hk => ?_, fun k hk hk2 => ?_, fun q hq2 => ?_, fun q hq2 hq3 => ?_⟩
  · rw [ld, upS_ne (by omega), upS_ne (by omega)]; omega
  · rw [ld, upS_ne (by omega), upS_ne (by omega)]; omega
  · rw [ld, upS_ne (by omega), upS_ne (by omega)]; omega
  · rw [ld, upS_ne (by omega), upS_ne (by omega)]; exact h4 k hk
  · rw [ld, upS_ne (by omega), upS_ne (by omega)]; exact h5 k hk hk2
  · unfold ld
    by_cases e : q = o
    · subst e; rw [upS_eq]; exact c3
    · rw [upS_ne (by omega)]
      by_cases e2 : q = p
      · subst e2; rw [upS_eq]; have := h6 q hq2; omega
      · rw [upS_ne (by omega)]; exact h6 q hq2
  · rw [ld, upS_ne (by omega), upS_ne (by omega)]; exact h7 q hq2 hq3
theorem SB_wk {ef : EF} (hb : RB r) (heb : EB ef) (h : SB r a n) : SB r (wk r ef a) (n + 1) := by
  obtain ⟨h1, h2, h3, h4, h5, h6, h7⟩ := h
  have hw := hb.1
  have hf := wkf_le (ef := ef) hb heb h4 (r 0 0) (Nat.le_refl _)
  refine ⟨?_, ?_, ?_, fun k hk => ?_, fun k hk hk2 => ?_, fun p hp => ?_, fun p hp hp2 => ?_⟩
  · rw [wk, upS_eq]; omega
  · rw [wk, upS_ne (by omega), wks_fin]; omega
  · rw [wk, upS_ne (by omega), wks_keep r ef a _ 2 hw (by omega)]; omega
  · rw [wk, upS_ne (by omega)]; exact wks_done h4 _ (Nat.le_refl _) hw k hk
  · rw [wk, upS_ne (by omega), wks_keep r ef a _ (3 + k) hw (by omega)]; exact h5 k hk hk2
  · rw [wk, upS_ne (by omega), wks_keep r ef a _ (9 + p) hw (by omega)]; exact h6 p hp
  · rw [wk, upS_ne (by omega), wks_keep r ef a _ (9 + p) hw (by omega)]; exact h7 p hp hp2
end SBs
section HX
variable {σ : FH} {T t : Nat} {r : AR} {a : AS} {n : Nat}
theorem x_isLot_t {m : Nat} (h1 : 1 ≤ m) (h2 : m ≤ 20) : fX11_isLot (nI m) σ = some 1 := by
  unfold fX11_isLot
  rw [fxL_r, if_neg (by rw [one_nI, nI_ltI (by omega) (by omega)]; omega), if_neg (by rw [show (20 : Int32) = nI 20 from rfl, nI_ltI (by omega) (by omega)]; omega)]
  rfl
theorem x_isLot_f {x : Int32} (h : x < 1 ∨ 20 < x) : fX11_isLot x σ = some 0 := by
  unfold fX11_isLot
  rw [fxL_r]
  rcases h with h | h
  · rw [if_pos h]; rfl
  · by_cases h0 : x < 1
    · rw [if_pos h0]; rfl
    · rw [if_neg h0, if_pos h]; rfl
theorem lot_cases (x : Int32) : (x < 1 ∨ 20 < x) ∨ ∃ m, 1 ≤ m ∧ m ≤ 20 ∧ x = nI m := by
  rcases pk_ix x (n := 21) (by decide) with h | h | ⟨j, hj, rfl⟩
  · exact Or.inl (Or.inl (Int32.lt_trans h (by decide)))
  · exact Or.inl (Or.inr (nle_lt (a := 20) (by decide) h (by decide)))
  · by_cases h0 : j = 0
    · subst h0; exact Or.inl (Or.inl (by decide))
    · exact Or.inr ⟨j, by omega, by omega, rfl⟩
theorem m_lot_t {m : Nat} (h1 : 1 ≤ m) (h2 : m ≤ 20) : fX12_within (nI m) 1 20 σ = some 1 := wi_t (by rw [one_nI, nI_ltI (by omega) (by omega)]; omega) (by rw [show (20 : Int32) = nI 20 from rfl, nI_ltI (by omega) (by omega)]; omega)
theorem x_takeOff (hs : SX σ t a) {i m : Nat} (hi : i < 6) (hm : m ≤ 1000) (ha : a (3 + i) ≤ 1000) : ∃ σ', fX7_takeOff t (nI i) (nI m) σ = some σ' ∧ SX σ' t (stp a i m) ∧ agr (fun b => b = t + 1) σ σ' := by
  unfold fX7_takeOff
  rw [fxG_t hs.1, if_neg (nI_pos (by omega)), if_neg (by rw [show (6 : Int32) = nI 6 from rfl, nI_leI (by omega) (by omega)]; omega), fxG_t (fx_inN (by omega) (by decide)), fxG_t (fx_inN (by omega) (by decide)), fx_clN (by omega), hs.2.2.2.2.1 i hi, posN (by omega) (by omega), fxL_r]
  refine ⟨_, rfl, ⟨hs.1, ?_, ?_, ?_, fun k hk => ?_, fun p hp => ?_⟩, agr_si rfl⟩
  · rw [si1, if_neg (by omega), hs.2.1, stp, upS_ne (by omega)]
  · rw [si1, if_neg (by omega), hs.2.2.1, stp, upS_ne (by omega)]
  · rw [si1, if_neg (by omega), hs.2.2.2.1, stp, upS_ne (by omega)]
  · rw [si1, stp]
    by_cases e : k = i
    · subst e; rw [if_pos ⟨rfl, rfl⟩, upS_eq]
    · rw [if_neg (by omega), hs.2.2.2.2.1 k hk, upS_ne (by omega)]
  · rw [si1, if_neg (by omega), hs.2.2.2.2.2 p hp, stp, upS_ne (by omega)]
theorem x_isHalf (h : RX σ T r) (hb : RB r) (hs : SX σ t a) (hd : ∀ i, i < r 0 0 → a (3 + i) ≤ rH r i) {i : Nat} (hi : i < r 0 0) : fX7_isHalf t T (nI i) σ = some (if a (3 + i) = rH r i then 1 else 0) := by
  have hw := hb.1
  have ha := hd i hi
  have hB := hb.2.2.2.2.1 i hi
  have hhalf : rH r i ≤ 30 := by unfold rH; omega
  unfold fX7_isHalf
  rw [fxG_t hs.1, fxG_t h.1, fxG_t (fx_inN (by omega) (by decide)), x_halfOf h hb hi, fxBP_s, fx_clN (by omega), hs.2.2.2.2.1 i (by omega), fxL_r]
  by_cases e : a (3 + i) = rH r i
  · rw [if_neg (by rw [e, nI_ltI (by omega) (by omega)]; omega), if_pos e]; rfl
  · rw [if_pos (nI_lt (by omega) (by omega)), if_neg e]; rfl
theorem x_canJoin (h : RX σ T r) (hb : RB r) (hs : SX σ t a) (hd : ∀ i, i < r 0 0 → a (3 + i) ≤ rH r i) {i j : Nat} (hi : i < r 0 0) (hj : j < r 0 0) : fX7_canJoin t T (nI i) (nI j) σ = some (if canJ r a i j then 1 else 0) := by
  have hw := hb.1
  have hBi := hb.2.2.2.2.1 i hi
  have hBj := hb.2.2.2.2.1 j hj
  have hcp : fX5_couldPair T (nI i) (nI j) σ = some (if i ≠ j ∧ r 2 i = r 2 j then 1 else 0) := by
    unfold fX5_couldPair
    rw [fxG_t h.1, x_hasWare_in h hb hi, fxBP_s, if_neg (by decide), x_hasWare_in h hb hj, fxBP_s, if_neg (by decide), fxG_t (fx_inN (by omega) (by decide)), fxG_t (fx_inN (by omega) (by decide)), fx_clN (by omega), fx_clN (by omega), (h.2.2.2.2.1 i hi).2.1, (h.2.2.2.2.1 j hj).2.1]
    by_cases e : i = j
    · rw [if_pos (by rw [e]), if_neg (by omega)]
    · rw [if_neg (fun q => e (nI_inj (by omega) (by omega) q))]
      by_cases e2 : r 2 i = r 2 j
      · rw [if_pos (by rw [e2]), if_pos ⟨e, e2⟩]
      · rw [if_neg (fun q => e2 (nI_inj (by omega) (by omega) q)), if_neg (by omega)]
  unfold fX7_canJoin
  rw [fxG_t hs.1, fxG_t h.1, hcp, fxBP_s, x_isHalf h hb hs hd hi, fxBP_s, x_isHalf h hb hs hd hj, fxBP_s]
  unfold canJ
  by_cases c1 : i ≠ j ∧ r 2 i = r 2 j
  · rw [if_pos c1, if_neg (by decide)]
    by_cases c2 : a (3 + i) = rH r i
    · rw [if_pos c2, if_neg (by decide)]
      by_cases c3 : a (3 + j) = rH r j
      · rw [if_pos c3, if_neg (by decide), if_pos (decide_eq_true ⟨c1.1, c1.2, c2, c3⟩)]
      · rw [if_neg c3, if_pos rfl, if_neg (by simp; omega)]
    · rw [if_neg c2, if_pos rfl, if_neg (by simp; omega)]
  · rw [if_neg c1, if_pos rfl, if_neg (by simp; omega)]
theorem x_canJoin_out (h : RX σ T r) (hb : RB r) (hs : SX σ t a) {x y : Int32} (ho : (x < 0 ∨ nI (r 0 0) ≤ x) ∨ (y < 0 ∨ nI (r 0 0) ≤ y)) : fX7_canJoin t T x y σ = some 0 := by
  have hw := hb.1
  have hcp : fX5_couldPair T x y σ = some 0 := by
    unfold fX5_couldPair
    rw [fxG_t h.1]
    rcases pk_ix x (n := r 0 0) (by omega) with hx | hx | ⟨j, hj, rfl⟩
    · rw [x_hasWare_out h (Or.inl hx), fxBP_s, if_pos rfl]
    · rw [x_hasWare_out h (Or.inr hx), fxBP_s, if_pos rfl]
    · rw [x_hasWare_in h hb hj, fxBP_s, if_neg (by decide)]
      have hy : y < 0 ∨ nI (r 0 0) ≤ y := ho.resolve_left (fun q => q.elim (nI_pos (by omega)) (fun z => by rw [nI_leI (by omega) (by omega)] at z; omega))
      rw [x_hasWare_out h hy, fxBP_s, if_pos rfl]
  unfold fX7_canJoin
  rw [fxG_t hs.1, fxG_t h.1, hcp, fxBP_s, if_pos rfl]
theorem x_arrest (h : RX σ T r) (hb : RB r) (hs : SX σ t a) {i j : Nat} (hi : i < r 0 0) (hj : j < r 0 0) : ∃ σ', fX7_arrest t T (nI i) (nI j) σ = some σ' ∧ SX σ' t (jn r a i j) ∧ agr (fun b => b = t ∨ b = t + 1) σ σ' := by
  have hw := hb.1
  have hdis := dis_s hs h
  unfold fX7_arrest
  rw [fxG_t hs.1, fxG_t h.1, fxG_t (fx_inN (by omega) (by decide)), fxL_r, fxG_t (fx_inN (by omega) (by decide)), fxL_r, fx_clN (by omega), fx_clN (by omega)]
  have e3 : (fx_si (fx_si σ (t + 1) i 0) (t + 1) j 0).1 t 3 = nI (a 1) := by rw [si1, if_neg (by omega), si1, if_neg (by omega)]; exact hs.2.2.1
  have e9 : (fx_si (fx_si σ (t + 1) i 0) (t + 1) j 0).1 T 9 = nI (r 0 2) := by rw [si1, if_neg (by omega), si1, if_neg (by omega)]; exact h.2.2.2.1
  rw [e3, e9, show (10 : Int32) * nI (r 0 2) = nI (10 * r 0 2) from pk_mul 10 _, nI_add, fxL_r]
  have e4 : (fx_si (fx_si (fx_si σ (t + 1) i 0) (t + 1) j 0) t 3 (nI (a 1 + 10 * r 0 2))).1 t 4 = nI (a 2) := by rw [si1, if_neg (by omega), si1, if_neg (by omega), si1, if_neg (by omega)]; exact hs.2.2.2.1
  rw [e4, nI_1, fxL_r]
  refine ⟨_, rfl, ⟨hs.1, ?_, ?_, ?_, fun k hk => ?_, fun p hp => ?_⟩, agr_sit (Or.inl rfl) (agr_sit (Or.inl rfl) (agr_sit (Or.inr rfl) (agr_si (Or.inr rfl))))⟩
  · rw [si1, if_neg (by omega), si1, if_neg (by omega), si1, if_neg (by omega), si1, if_neg (by omega), hs.2.1, jn, upS_ne (by omega), upS_ne (by omega), upS_ne (by omega), upS_ne (by omega)]
  · rw [si1, if_neg (by omega), si1, if_pos ⟨rfl, rfl⟩, jn, upS_ne (by omega), upS_eq]
  · rw [si1, if_pos ⟨rfl, rfl⟩, jn, upS_eq]
  · rw [si1, if_neg (by omega), si1, if_neg (by omega), si1, jn, upS_ne (by omega), upS_ne (by omega)]
    by_cases e : k = j
    · subst e; rw [if_pos ⟨rfl, rfl⟩, upS_eq]; rfl
    · rw [if_neg (by omega), si1, upS_ne (by omega)]
      by_cases e2 : k = i
      · subst e2; rw [if_pos ⟨rfl, rfl⟩, upS_eq]; rfl
      · rw [if_neg (by omega), hs.2.2.2.2.1 k hk, upS_ne (by omega)]
  · rw [si1, if_neg (by omega), si1, if_neg (by omega), si1, if_neg (by omega), si1, if_neg (by omega), hs.2.2.2.2.2 p hp, jn, upS_ne (by omega), upS_ne (by omega), upS_ne (by omega), upS_ne (by omega)]
theorem x_canLend (h : RX σ T r) (hb : RB r) (hs : SX σ t a) (hsb : ∀ p, p < r 0 1 → a (9 + p) ≤ 99) {p o s : Nat} (hp : p < r 0 1) (ho : o < r 0 1) (hs2 : s ≤ 20) : fX7_canLend t T (nI p) (nI o) (nI s) σ = some (if canL a p o s then 1 else 0) := by
  have hq := hb.2.1
  have h1 := hsb p hp
  have h2 := hsb o ho
  unfold fX7_canLend canL
  rw [fxG_t hs.1, fxG_t h.1, x_hasParty_in h hb hp, fxBP_s, if_neg (by decide), x_hasParty_in h hb ho, fxBP_s, if_neg (by decide), fxG_t (fx_inN (by omega) (by decide)), fxG_t (fx_inN (by omega) (by decide)), fx_clN (by omega), fx_clN (by omega), hs.2.2.2.2.2 p (by omega), hs.2.2.2.2.2 o (by omega), nI_add]
  by_cases e : p = o
  · rw [if_pos (by rw [e]), if_neg (by simp; omega)]
  · rw [if_neg (fun q => e (nI_inj (by omega) (by omega) q))]
    by_cases e2 : s ≤ a (9 + p)
    · rw [if_neg (by rw [nI_ltI (by omega) (by omega)]; omega)]
      by_cases e3 : a (9 + o) + s ≤ 99
      · rw [if_neg (by rw [show (99 : Int32) = nI 99 from rfl, nI_ltI (by omega) (by omega)]; omega), if_pos (decide_eq_true ⟨e, e2, e3⟩)]
      · rw [if_pos (by rw [show (99 : Int32) = nI 99 from rfl, nI_ltI (by omega) (by omega)]; omega), if_neg (by simp; omega)]
    · rw [if_pos (nI_lt (by omega) (by omega)), if_neg (by simp; omega)]
theorem x_canLend_out (h : RX σ T r) (hb : RB r) (hs : SX σ t a) {x y z : Int32} (ho : (x < 0 ∨ nI (r 0 1) ≤ x) ∨ (y < 0 ∨ nI (r 0 1) ≤ y)) : fX7_canLend t T x y z σ = some 0 := by
  have hw := hb.2.1
  unfold fX7_canLend
  rw [fxG_t hs.1, fxG_t h.1]
  rcases pk_ix x (n := r 0 1) (by omega) with hx | hx | ⟨j, hj, rfl⟩
  · rw [x_hasParty_out h (Or.inl hx), fxBP_s, if_pos rfl]
  · rw [x_hasParty_out h (Or.inr hx), fxBP_s, if_pos rfl]
  · rw [x_hasParty_in h hb hj, fxBP_s, if_neg (by decide)]
    have hy : y < 0 ∨ nI (r 0 1) ≤ y := ho.resolve_left (fun q => q.elim (nI_pos (by omega)) (fun z => by rw [nI_leI (by omega) (by omega)] at z; omega))
    rw [x_hasParty_out h hy, fxBP_s, if_pos rfl]
theorem x_moveSeats (hs : SX σ t a) {p o s : Nat} (hp : p < 5) (ho : o < 5) (hc : canL a p o s = true) : ∃ σ', fX7_moveSeats t (nI p) (nI o) (nI s) σ = some σ' ∧ SX σ' t (ld a p o s) ∧ agr (fun b => b = t + 2) σ σ' := by
  obtain ⟨c1, c2, c3⟩ := of_decide_eq_true hc
  unfold fX7_moveSeats
  rw [fxG_t hs.1, fxG_t (fx_inN (by omega) (by decide)), fxG_t (fx_inN (by omega) (by decide)), fx_clN (by omega), hs.2.2.2.2.2 p hp, pk_sub c2, fxL_r, fxG_t (fx_inN (by omega) (by decide)), fxG_t (fx_inN (by omega) (by decide)), fx_clN (by omega)]
  have e : (fx_si σ (t + 2) p (nI (a (9 + p) - s))).1 (t + 2) o = nI (a (9 + o)) := by rw [si1, if_neg (by omega)]; exact hs.2.2.2.2.2 o ho
  rw [e, nI_add, fxL_r]
  refine ⟨_, rfl, ⟨hs.1, ?_, ?_, ?_, fun k hk => ?_, fun q hq => ?_⟩, agr_sit rfl (agr_si rfl)⟩
  · rw [si1, if_neg (by omega), si1, if_neg (by omega), hs.2.1, ld, upS_ne (by omega), upS_ne (by omega)]
  · rw [si1, if_neg (by omega), si1, if_neg (by omega), hs.2.2.1, ld, upS_ne (by omega), upS_ne (by omega)]
  · rw [si1, if_neg (by omega), si1, if_neg (by omega), hs.2.2.2.1, ld, upS_ne (by omega), upS_ne (by omega)]
  · rw [si1, if_neg (by omega), si1, if_neg (by omega), hs.2.2.2.2.1 k hk, ld, upS_ne (by omega), upS_ne (by omega)]
  · rw [si1, ld]
    by_cases e1 : q = o
    · subst e1; rw [if_pos ⟨rfl, rfl⟩, upS_eq]
    · rw [if_neg (by omega), si1, upS_ne (by omega)]
      by_cases e2 : q = p
      · subst e2; rw [if_pos ⟨rfl, rfl⟩, upS_eq]
      · rw [if_neg (by omega), hs.2.2.2.2.2 q hq, upS_ne (by omega)]
end HX
