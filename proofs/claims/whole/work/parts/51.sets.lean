/-! ===== bloc, orphans, rival; bits ===== -/
def pop (x : Nat) : Nat := bt x 0 + bt x 1 + bt x 2 + bt x 3 + bt x 4 + bt x 5
theorem bitC_all : ∀ x, x < 64 → (let a0 := nI x
  let v1 := a0 - (((Int32.toUInt32 a0 >>> (Int32.toUInt32 1 &&& Int32.toUInt32 31)).toInt32) &&& 1431655765)
  let v2 := (v1 &&& 858993459) + (((Int32.toUInt32 v1 >>> (Int32.toUInt32 2 &&& Int32.toUInt32 31)).toInt32) &&& 858993459)
  let v3 := (v2 + ((Int32.toUInt32 v2 >>> (Int32.toUInt32 4 &&& Int32.toUInt32 31)).toInt32)) &&& 252645135
  let v4 := v3 + ((Int32.toUInt32 v3 >>> (Int32.toUInt32 8 &&& Int32.toUInt32 31)).toInt32)
  let v5 := v4 + ((Int32.toUInt32 v4 >>> (Int32.toUInt32 16 &&& Int32.toUInt32 31)).toInt32)
  v5 &&& 63) = nI (pop x) := by decide +kernel
theorem x_bits {x : Nat} (hx : x < 64) (σ : FH) : fJ6_bitCount_0f7a4 (nI x) σ = some (nI (pop x)) := by
  rw [← bitC_all x hx]
  rfl
theorem m_bits {x : Nat} (hx : x < 64) (σ : FH) : fX12_bits (nI x) σ = some (nI (pop x)) := by
  unfold fX12_bits
  rw [fxL_r]
  have := loopP (F := fun n b i => fX12_bits_4 (nI x) (fun v => some v) n (nI b) (nI i)) (K := fun b => some (nI b)) (f := fun i b => b + bt x i) (N := 6) (Inv := fun _ _ => True) (fun n b _ => by rw [fX12_bits_4, if_pos (by decide)]) (fun n b i hi _ => ⟨by
    have c6 : ¬ (6 : Int32) ≤ nI i := le_no (b := 6) hi (by decide)
    rw [fX12_bits_4, if_neg c6, bitN x hx i hi, nI_add, fxL_r, nI_1], trivial⟩) 6 FU 0 0 (by omega) (by decide) trivial
  rw [itr_sum] at this
  refine this.trans ?_
  simp only [sF, pop, Nat.zero_add, Nat.add_zero, Nat.add_assoc]
theorem pop_le : ∀ x, x < 64 → pop x ≤ 6 := by decide +kernel
theorem xorN : ∀ x, x < 64 → ∀ y, y < 64 → (nI x ^^^ nI y) = nI (x ^^^ y) ∧ x ^^^ y < 64 := by decide +kernel
theorem orS : ∀ i, i < 6 → ∀ x, x < 2 ^ i → ∀ b, b < 2 → (if nI b = 0 then nI x else (nI x ||| (1 <<< (nI i &&& 31)))) = nI (x + b * 2 ^ i) := by decide +kernel
theorem orT : ∀ i, i < 6 → ∀ x, x < 2 ^ i → (nI x ||| (1 <<< (nI i &&& 31))) = nI (x + 2 ^ i) := by decide +kernel
section BL
variable {σ : FH} {r : AR} {a : AS}
theorem x_bloc_loop (h : RX σ (σ.2.2 2) r) (hb : RB r) {j : Nat} (hj : j < 6) : fX11_bloc_17 (nI j) σ (fun x => some x) FU 0 0 = some (nI (blc r j)) := by
  have h5 := hb.2.1
  have := loopP (F := fun n b i => fX11_bloc_17 (nI j) σ (fun x => some x) n (nI b) (nI i)) (K := fun b => some (nI b)) (f := fun i b => b + bt (r 5 i) j * 2 ^ i) (N := r 0 1) (Inv := fun i b => b < 2 ^ i) (fun n b _ => by rw [fX11_bloc_17, fxG_t h.1, h.2.2.1, if_pos (le_yes (by omega))]) (fun n b i hi hv => by
    have h2 := bt_lt (r 5 i) j
    refine ⟨?_, ?_⟩
    · rw [fX11_bloc_17, fxG_t h.1, h.2.2.1, if_neg (le_no hi (by omega)), fxG_t h.1, x_isFor h hb hi hj, fxBP_s, fxL_r, orS i (by omega) b hv _ h2, nI_1]
    · rw [Nat.pow_succ]
      have : bt (r 5 i) j * 2 ^ i ≤ 1 * 2 ^ i := Nat.mul_le_mul_right _ (by omega)
      omega) (r 0 1) FU 0 0 (by omega) (by unfold FU; omega) (by decide)
  rw [itr_sum, Nat.zero_add] at this
  exact this
/-- the wares that nobody is for -/
def orp (r : AR) (a : AS) : Nat := sF (fun k => (if vts r a k = 0 then 1 else 0) * 2 ^ k) 0 (r 0 0)
theorem x_orphans (h : RX σ (σ.2.2 2) r) (hb : RB r) (hs : SX σ 7 a) (hsb : ∀ p, p < r 0 1 → a (9 + p) ≤ 99) : fX11_orphans σ = some (nI (orp r a)) := by
  have h5 := hb.1
  unfold fX11_orphans
  rw [fxL_r]
  have := loopP (F := fun n b i => fX11_orphans_4 σ (fun x => some x) n (nI b) (nI i)) (K := fun b => some (nI b)) (f := fun k b => b + (if vts r a k = 0 then 1 else 0) * 2 ^ k) (N := r 0 0) (Inv := fun i b => b < 2 ^ i) (fun n b _ => by rw [fX11_orphans_4, fxG_t h.1, h.2.1, if_pos (le_yes (by omega))]) (fun n b i hi hv => by
    have hvl := vts_le hb hsb i
    rw [Nat.pow_succ]
    rw [fX11_orphans_4, fxG_t h.1, h.2.1, if_neg (le_no hi (by omega)), fxG_t h.1, x_votesFor h hb hs hsb (by omega), fxBP_s, fxL_r, nI_1]
    by_cases c : vts r a i = 0
    · rw [if_pos c, c, if_pos (by decide), orT i (by omega) b hv, Nat.one_mul]
      exact ⟨rfl, by omega⟩
    · rw [if_neg c, if_neg (show ¬ nI (vts r a i) = 0 from fun q => c (nI_inj (b := 0) (by omega) (by decide) q)), Nat.zero_mul, Nat.add_zero]
      exact ⟨rfl, by omega⟩) (r 0 0) FU 0 0 (by omega) (by unfold FU; omega) (by decide)
  rw [itr_sum, Nat.zero_add] at this
  exact this
theorem m_orphans (h : RM σ 0 r) (hb : RB r) (hs : SM σ 33 0 a) (hsb : ∀ p, p < r 0 1 → a (9 + p) ≤ 99) (K : Int32 → Option (Int32 × FH)) : fX12_orphans_9 σ K FU 0 0 = K (nI (orp r a)) := by
  have h5 := hb.1
  have := loopP (F := fun n b i => fX12_orphans_9 σ K n (nI b) (nI i)) (K := fun b => K (nI b)) (f := fun k b => b + (if vts r a k = 0 then 1 else 0) * 2 ^ k) (N := r 0 0) (Inv := fun i b => b < 2 ^ i) (fun n b _ => by rw [fX12_orphans_9, fxG_t (by decide), cl0, rm_w h, if_pos (le_yes (by omega))]) (fun n b i hi hv => by
    have hvl := vts_le hb hsb i
    rw [Nat.pow_succ]
    rw [fX12_orphans_9, fxG_t (by decide), cl0, rm_w h, if_neg (le_no hi (by omega)), m_votesOf h hb hs (by omega), fxBP_s, fxL_r, fxL_r, nI_1]
    by_cases c : vts r a i = 0
    · rw [if_pos c, c, if_pos (by decide), orT i (by omega) b hv, Nat.one_mul]
      exact ⟨rfl, by omega⟩
    · rw [if_neg c, if_neg (show ¬ nI (vts r a i) = 0 from fun q => c (nI_inj (b := 0) (by omega) (by decide) q)), Nat.zero_mul, Nat.add_zero, or0]
      exact ⟨rfl, by omega⟩) (r 0 0) FU 0 0 (by omega) (by unfold FU; omega) (by decide)
  rw [itr_sum, Nat.zero_add] at this
  exact this
/-- in how much two parties agree -/
def agI (r : AR) (p o : Nat) : Int32 := nI (r 0 0) - nI (pop (r 5 p ^^^ r 5 o))
theorem x_agree (h : RX σ (σ.2.2 2) r) (hb : RB r) {p o : Nat} (hp : p < r 0 1) (ho : o < r 0 1) : fX5_agreement (σ.2.2 2) (nI p) (nI o) σ = some (agI r p o) := by
  have h5 := hb.2.1
  have hx := xorN _ (hb.2.2.2.2.2 p hp).2 _ (hb.2.2.2.2.2 o ho).2
  unfold fX5_agreement
  rw [fxG_t h.1, fxG_t (fx_inN (by omega) (by decide)), fxG_t (fx_inN (by omega) (by decide)), fx_clN (by omega), fx_clN (by omega), (h.2.2.2.2.2 p hp).2, (h.2.2.2.2.2 o ho).2, hx.1, x_bits hx.2, fxBP_s, h.2.1]
  rfl
theorem m_agree (h : RM σ 0 r) (hb : RB r) {p o : Nat} (hp : p < r 0 1) (ho : o < r 0 1) : fX12_agreeOf (nI p) (nI o) σ = some (agI r p o) := by
  have h5 := hb.2.1
  have hx := xorN _ (hb.2.2.2.2.2 p hp).2 _ (hb.2.2.2.2.2 o ho).2
  unfold fX12_agreeOf
  rw [fxG_t (by decide), fxG_t (fx_inN (by omega) (by decide)), fxG_t (fx_inN (by omega) (by decide)), fx_clN (by omega), fx_clN (by omega), rm_c h hp, rm_c h ho, hx.1, m_bits hx.2, fxBP_s, cl0, rm_w h]
  rfl
def rvl (r : AR) (p : Nat) (i : Nat) (o : Option Nat) : Option Nat := if i = p then o else match o with
  | none => some i
  | some b => if agI r p b ≤ agI r p i then some b else some i
theorem rvl_lt {r : AR} {p i : Nat} {o : Option Nat} (ho : ∀ b, o = some b → b < i) : ∀ b, rvl r p i o = some b → b < i + 1 := by
  intro b hb
  unfold rvl at hb
  split at hb
  · have := ho b hb; omega
  · cases o with
    | none => simp at hb; omega
    | some c =>
      have := ho c rfl
      simp only at hb
      split at hb <;> simp at hb <;> omega
def lst (r : AR) (p : Nat) (o : Option Nat) : Int32 := match o with
  | none => 0
  | some b => agI r p b
theorem x_rival (h : RX σ (σ.2.2 2) r) (hb : RB r) {p : Nat} (hp : p < r 0 1) : fX11_rival_20 (nI p) σ (fun x => some x) FU (-1) 0 0 = some (oI (itr (rvl r p) 0 (r 0 1) none)) := by
  have h5 := hb.2.1
  exact loopP (F := fun n b i => fX11_rival_20 (nI p) σ (fun x => some x) n (oI b) (lst r p b) (nI i)) (K := fun b => some (oI b)) (f := rvl r p) (N := r 0 1) (Inv := fun i o => ∀ b, o = some b → b < i) (fun n b _ => by rw [fX11_rival_20, fxG_t h.1, h.2.2.1, if_pos (le_yes (by omega))]) (fun n o i hi hv => by
    refine ⟨?_, rvl_lt hv⟩
    rw [fX11_rival_20, fxG_t h.1, h.2.2.1, if_neg (le_no hi (by omega)), fxG_t h.1, x_agree h hb hp hi, fxBP_s, nI_1]
    unfold rvl
    by_cases c : i = p
    · rw [if_pos (by rw [c]), if_pos c]
    · rw [if_neg (fun q => c (nI_inj (by omega) (by omega) q)), if_neg c]
      cases o with
      | none => rw [if_pos (show oI none = -1 from rfl)]; rfl
      | some b =>
        have := hv b rfl
        rw [if_neg (show ¬ oI (some b) = -1 from nIne (by omega))]
        show (if agI r p b ≤ agI r p i then _ else _) = _
        by_cases c2 : agI r p b ≤ agI r p i
        · rw [if_pos c2]
          simp only [if_pos c2]
        · rw [if_neg c2]
          simp only [if_neg c2]
          rfl) (r 0 1) FU 0 none (by omega) (by unfold FU; omega) (fun b hb => by simp at hb)
theorem m_rival (h : RM σ 0 r) (hb : RB r) {p : Nat} (hp : p < r 0 1) (K : Int32 → Option (Int32 × FH)) : fX12_rival_19 (nI p) σ K FU (-1) 0 = K (oI (itr (rvl r p) 0 (r 0 1) none)) := by
  have h5 := hb.2.1
  exact loopP (F := fun n b i => fX12_rival_19 (nI p) σ K n (oI b) (nI i)) (K := fun b => K (oI b)) (f := rvl r p) (N := r 0 1) (Inv := fun i o => ∀ b, o = some b → b < i) (fun n b _ => by rw [fX12_rival_19, fxG_t (by decide), cl1, rm_q h, if_pos (le_yes (by omega))]) (fun n o i hi hv => by
    refine ⟨?_, rvl_lt hv⟩
    rw [fX12_rival_19, fxG_t (by decide), cl1, rm_q h, if_neg (le_no hi (by omega)), nI_1]
    unfold rvl
    by_cases c : i = p
    · rw [if_pos (by rw [c]), if_pos c]
    · rw [if_neg (fun q => c (nI_inj (by omega) (by omega) q)), if_neg c]
      cases o with
      | none => rw [if_pos (show oI none < 0 by decide)]; rfl
      | some b =>
        have hb2 := hv b rfl
        rw [if_neg (show ¬ oI (some b) < 0 from nI_pos (by omega)), m_agree h hb hp hi, fxBP_s, oI_s, m_agree h hb hp (by omega : b < r 0 1), fxBP_s]
        by_cases c2 : agI r p b ≤ agI r p i
        · rw [if_pos c2]
          simp only [if_pos c2]
          rfl
        · rw [if_neg c2]
          simp only [if_neg c2]
          rfl) (r 0 1) FU 0 none (by omega) (by unfold FU; omega) (fun b hb => by simp at hb)
end BL
theorem op_bloc (x : Int32) : OpP (fX11_bloc x) (fX12_bloc x) := by
  intro n σx σm hn h
  have h1 := Rel_th h
  unfold fX11_bloc fX12_bloc
  rw [fxL_r (fx_si σm 0 0 0)]
  generalize fx_si σm 0 0 0 = σ1 at h1 ⊢
  obtain ⟨r, ef, a, t, d, hA⟩ := id h1
  obtain ⟨hMV, hRB, hEB, hRX, hEX, hRM, hEM, hNX, hSX, hSM, hSB, -⟩ := id hA
  have hw := hRB.1
  rw [fxG_t hRX.1]
  rcases pk_ix x (n := r 0 0) (by omega) with hx | hx | ⟨j, hj, rfl⟩
  · exact ⟨-1, σ1, by rw [x_hasWare_out hRX (Or.inl hx), fxBP_s, if_pos rfl], by rw [m_isWare_out hRM (Or.inl hx), fxBP_s, if_pos rfl], Rel_up h1 (by omega)⟩
  · exact ⟨-1, σ1, by rw [x_hasWare_out hRX (Or.inr hx), fxBP_s, if_pos rfl], by rw [m_isWare_out hRM (Or.inr hx), fxBP_s, if_pos rfl], Rel_up h1 (by omega)⟩
  · exact ⟨nI (blc r j), σ1, by rw [x_hasWare_in hRX hRB hj, fxBP_s, if_neg (by decide), fxL_r, x_bloc_loop hRX hRB (by omega)], by rw [m_isWare_in hRM hRB hj, fxBP_s, if_neg (by decide), m_blocOf hRM hRB (by omega), fxBP_s], Rel_up h1 (by omega)⟩
theorem op_orphans : OpP fX11_orphans fX12_orphans := by
  intro n σx σm hn h
  have h1 := Rel_th h
  unfold fX12_orphans
  rw [fxL_r (fx_si σm 0 0 0)]
  generalize fx_si σm 0 0 0 = σ1 at h1 ⊢
  obtain ⟨r, ef, a, t, d, hA⟩ := id h1
  obtain ⟨hMV, hRB, hEB, hRX, hEX, hRM, hEM, hNX, hSX, hSM, hSB, -⟩ := id hA
  exact ⟨_, σ1, x_orphans hRX hRB hSX hSB.2.2.2.2.2.1, by rw [fxL_r]; exact m_orphans hRM hRB hSM hSB.2.2.2.2.2.1 _, Rel_up h1 (by omega)⟩
theorem op_rival (x : Int32) : OpP (fX11_rival x) (fX12_rival x) := by
  intro n σx σm hn h
  have h1 := Rel_th h
  unfold fX11_rival fX12_rival
  rw [fxL_r (fx_si σm 0 0 0)]
  generalize fx_si σm 0 0 0 = σ1 at h1 ⊢
  obtain ⟨r, ef, a, t, d, hA⟩ := id h1
  obtain ⟨hMV, hRB, hEB, hRX, hEX, hRM, hEM, hNX, hSX, hSM, hSB, -⟩ := id hA
  have hw := hRB.2.1
  rw [fxG_t hRX.1]
  rcases pk_ix x (n := r 0 1) (by omega) with hx | hx | ⟨j, hj, rfl⟩
  · exact ⟨-1, σ1, by rw [x_hasParty_out hRX (Or.inl hx), fxBP_s, if_pos rfl], by rw [m_isParty_out hRM (Or.inl hx), fxBP_s, if_pos rfl], Rel_up h1 (by omega)⟩
  · exact ⟨-1, σ1, by rw [x_hasParty_out hRX (Or.inr hx), fxBP_s, if_pos rfl], by rw [m_isParty_out hRM (Or.inr hx), fxBP_s, if_pos rfl], Rel_up h1 (by omega)⟩
  · exact ⟨_, σ1, by rw [x_hasParty_in hRX hRB hj, fxBP_s, if_neg (by decide), fxL_r, x_rival hRX hRB hj], by rw [m_isParty_in hRM hRB hj, fxBP_s, if_neg (by decide), fxL_r]; exact m_rival hRM hRB hj _, Rel_up h1 (by omega)⟩
