theorem andN : ∀ x, x < 64 → ∀ y, y < 64 → (nI x &&& nI y) = nI (x &&& y) ∧ x &&& y < 64 := by decide +kernel
def crF (r : AR) (a : AS) (s b : Nat) : Nat := if mj r a s then b &&& s else b
def lnF (r : AR) (a : AS) (s : Nat) (o : Option Nat) : Option Nat := if mj r a s then (match o with
  | none => some s
  | some b => if pop b ≤ pop s then some b else some s) else o
theorem lnF_lt {r : AR} {a : AS} {i : Nat} {o : Option Nat} (ho : ∀ b, o = some b → b < i) : ∀ b, lnF r a i o = some b → b < i + 1 := by
  intro b hb
  unfold lnF at hb
  split at hb
  · cases o with
    | none => simp at hb; omega
    | some c =>
      have := ho c rfl
      simp only at hb
      split at hb <;> simp at hb <;> omega
  · have := ho b hb; omega
section CO
variable {σ : FH} {r : AR} {a : AS} {n : Nat}
theorem x_lean (hm : MS σ r a) (hb : RB r) (hsb : SB r a n) : fX0_leastMajority σ = some (oI (itr (lnF r a) 0 (2 ^ r 0 1) none)) := by
  have hp := pw_le hb.2.1
  unfold fX0_leastMajority
  rw [fxL_r]
  exact loopP (F := fun n b i => fX0_leastMajority_4 σ (fun x => some x) n (oI b) (nI i)) (K := fun b => some (oI b)) (f := lnF r a) (N := 2 ^ r 0 1) (Inv := fun i o => ∀ b, o = some b → b < i) (fun n b _ => by rw [fX0_leastMajority_4, hm.1, if_pos (le_yes (by omega))]) (fun n o i hi hv => by
    refine ⟨?_, lnF_lt hv⟩
    rw [fX0_leastMajority_4, hm.1, if_neg (le_no hi (by omega)), x_isMaj hm hb hsb hi, fxBP_s, nI_1]
    unfold lnF
    cases q : mj r a i with
    | false => rw [if_pos (by decide), if_neg (by decide)]
    | true =>
      rw [if_neg (by decide), if_pos rfl]
      cases o with
      | none => rw [if_pos (show oI none = -1 from rfl)]; rfl
      | some b =>
        have hb2 := hv b rfl
        rw [if_neg (show ¬ oI (some b) = -1 from nIne (by omega)), oI_s, x_bits (by omega), fxBP_s, x_bits (by omega), fxBP_s]
        have h1 := pop_le i (by omega)
        have h2 := pop_le b (by omega)
        by_cases c : pop b ≤ pop i
        · rw [if_pos (nI_le c (by omega))]; simp only [if_pos c]; rfl
        · rw [if_neg (le_no (by omega) (by omega))]; simp only [if_neg c]; rfl) (2 ^ r 0 1) FU 0 none (by omega) (by unfold FU; omega) (fun b hb => by simp at hb)
theorem m_lean (h : RM σ 0 r) (hb : RB r) (hs : SM σ 33 0 a) (hsb : SB r a n) (K : Int32 → Option (Int32 × FH)) : fX12_lean_9 σ K FU (-1) 0 = K (oI (itr (lnF r a) 0 (2 ^ r 0 1) none)) := by
  have h5 := hb.2.1
  have hp := pw_le hb.2.1
  exact loopP (F := fun n b i => fX12_lean_9 σ K n (oI b) (nI i)) (K := fun b => K (oI b)) (f := lnF r a) (N := 2 ^ r 0 1) (Inv := fun i o => ∀ b, o = some b → b < i) (fun n b _ => by rw [fX12_lean_9, fxG_t (by decide), cl1, rm_q h, shl1 _ (by omega), if_pos (le_yes (by omega))]) (fun n o i hi hv => by
    refine ⟨?_, lnF_lt hv⟩
    rw [fX12_lean_9, fxG_t (by decide), cl1, rm_q h, shl1 _ (by omega), if_neg (le_no hi (by omega)), m_isMore h hb hs hsb (by omega), fxBP_s, nI_1]
    unfold lnF
    cases q : mj r a i with
    | false => rw [if_pos (by decide), if_neg (by decide)]
    | true =>
      rw [if_neg (by decide), if_pos rfl]
      cases o with
      | none => rw [if_pos (show oI none < 0 by decide)]; rfl
      | some b =>
        have hb2 := hv b rfl
        rw [if_neg (show ¬ oI (some b) < 0 from nI_pos (by omega)), oI_s, m_bits (by omega), fxBP_s, m_bits (by omega), fxBP_s]
        have h1 := pop_le i (by omega)
        have h2 := pop_le b (by omega)
        by_cases c : pop b ≤ pop i
        · rw [if_pos (nI_le c (by omega))]; simp only [if_pos c]; rfl
        · rw [if_neg (le_no (by omega) (by omega))]; simp only [if_neg c]; rfl) (2 ^ r 0 1) FU 0 none (by omega) (by unfold FU; omega) (fun b hb => by simp at hb)
theorem crF_lt {s b : Nat} (hs : s < 64) (hb : b < 64) : crF r a s b < 64 := by
  unfold crF
  split
  · exact (andN b hb s hs).2
  · exact hb
/-- what all majorities have in common -/
def crv (r : AR) (a : AS) : Nat := if mj r a (2 ^ r 0 1 - 1) then itr (crF r a) 0 (2 ^ r 0 1) (2 ^ r 0 1 - 1) else 0
theorem mj_top (hb : RB r) (hsb : SB r a n) {s : Nat} (h : mj r a s = true) : mj r a (2 ^ r 0 1 - 1) = true := by
  have h := of_decide_eq_true h
  have h1 : sts r a (2 ^ r 0 1 - 1) = alls r a := sts_top rfl hb.2.1
  refine decide_eq_true ?_
  rw [h1]
  have h2 : sts r a s ≤ alls r a := by
    unfold sts alls
    generalize r 0 1 = q
    have : ∀ m i, sF (fun p => if bt s p = 1 then a (9 + p) else 0) i m ≤ sF (fun p => a (9 + p)) i m := by
      intro m
      induction m with
      | zero => intro i; exact Nat.le_refl 0
      | succ m ih =>
        intro i
        have := ih (i + 1)
        simp only [sF]
        split <;> omega
    exact this q 0
  omega
theorem itr_0 {f : Nat → Nat → Nat} : ∀ (m i b : Nat), (∀ k, i ≤ k → k < i + m → f k b = b) → itr f i m b = b
  | 0, i, b, _ => rfl
  | m + 1, i, b, h => by rw [itr, h i (by omega) (by omega), itr_0 m (i + 1) b (fun k h1 h2 => h k (by omega) (by omega))]
theorem x_core (hm : MS σ r a) (hb : RB r) (hsb : SB r a n) : fX0_inEveryMajority σ = some (nI (crv r a)) := by
  have hp := pw_le hb.2.1
  have hp1 : 1 ≤ 2 ^ r 0 1 := Nat.one_le_two_pow
  have hl : ∀ b, b < 64 → fX0_inEveryMajority_26 σ (fun x => some x) FU (nI b) 0 = some (nI (itr (crF r a) 0 (2 ^ r 0 1) b)) := fun b hb0 => loopP (F := fun n b i => fX0_inEveryMajority_26 σ (fun x => some x) n (nI b) (nI i)) (K := fun b => some (nI b)) (f := crF r a) (N := 2 ^ r 0 1) (Inv := fun _ b => b < 64) (fun n b _ => by rw [fX0_inEveryMajority_26, hm.1, if_pos (le_yes (by omega))]) (fun n b i hi hv => ⟨by
    rw [fX0_inEveryMajority_26, hm.1, if_neg (le_no hi (by omega)), x_isMaj hm hb hsb hi, fxBP_s, fxL_r, nI_1, (andN b hv i (by omega)).1]
    unfold crF
    cases mj r a i <;> rfl, crF_lt (by omega) hv⟩) (2 ^ r 0 1) FU 0 b (by omega) (by unfold FU; omega) hb0
  unfold fX0_inEveryMajority
  rw [hm.1, nI_m1 (by omega), x_isMaj hm hb hsb (by omega), fxBP_s, fxL_r, fxL_r]
  unfold crv
  cases c : mj r a (2 ^ r 0 1 - 1) with
  | true => rw [if_neg (by decide), if_pos rfl, hl _ (by omega)]
  | false =>
    rw [if_pos (by decide), if_neg (by decide)]
    refine (hl 0 (by omega)).trans ?_
    rw [itr_0 (f := crF r a) _ _ _ (fun k _ _ => by
      unfold crF
      split
      · exact Nat.zero_and k
      · rfl)]
theorem itr_fst {f : Nat → Nat → Nat} {g : Nat → Nat → Nat} : ∀ (m i : Nat) (b : Nat × Nat), (itr (fun s (b : Nat × Nat) => (f s b.1, g s b.2)) i m b) = (itr f i m b.1, itr g i m b.2)
  | 0, i, b => rfl
  | m + 1, i, b => by rw [itr, itr_fst m (i + 1)]; rfl
theorem m_core (h : RM σ 0 r) (hb : RB r) (hs : SM σ 33 0 a) (hsb : SB r a n) (K : Int32 → Int32 → Option (Int32 × FH)) : ∃ x, fX12_core_20 σ K FU (nI (2 ^ r 0 1 - 1)) 0 0 = K (nI (itr (crF r a) 0 (2 ^ r 0 1) (2 ^ r 0 1 - 1))) (nI x) ∧ x ≤ 1 ∧ (x = 1 ↔ mj r a (2 ^ r 0 1 - 1) = true) := by
  have h5 := hb.2.1
  have hp := pw_le hb.2.1
  have hp1 : 1 ≤ 2 ^ r 0 1 := Nat.one_le_two_pow
  let g : Nat → Nat → Nat := fun s x => if mj r a s then 1 else x
  have := loopP (F := fun n (b : Nat × Nat) i => fX12_core_20 σ K n (nI b.1) (nI b.2) (nI i)) (K := fun b => K (nI b.1) (nI b.2)) (f := fun s b => (crF r a s b.1, g s b.2)) (N := 2 ^ r 0 1) (Inv := fun _ b => b.1 < 64) (fun n b _ => by rw [fX12_core_20, fxG_t (by decide), cl1, rm_q h, shl1 _ (by omega), if_pos (le_yes (by omega))]) (fun n b i hi hv => ⟨by
    rw [fX12_core_20, fxG_t (by decide), cl1, rm_q h, shl1 _ (by omega), if_neg (le_no hi (by omega)), m_isMore h hb hs hsb (by omega), fxBP_s, nI_1, (andN b.1 hv i (by omega)).1]
    simp only [crF, g]
    cases mj r a i <;> rfl, crF_lt (by omega) hv⟩) (2 ^ r 0 1) FU 0 (2 ^ r 0 1 - 1, 0) (by omega) (by unfold FU; omega) (by show 2 ^ r 0 1 - 1 < 64; omega)
  rw [itr_fst] at this
  refine ⟨itr g 0 (2 ^ r 0 1) 0, this, ?_, ?_⟩
  · exact itr_inv g (fun _ x => x ≤ 1) (2 ^ r 0 1) (fun x i _ hx => by
      show (if mj r a i then 1 else x) ≤ 1
      split <;> omega) (2 ^ r 0 1) 0 0 (by omega) (by omega)
  · constructor
    · intro hx
      cases c : mj r a (2 ^ r 0 1 - 1) with
      | true => rfl
      | false =>
        have hz : itr g 0 (2 ^ r 0 1) 0 = 0 := itr_0 _ _ _ (fun k _ _ => by
          show (if mj r a k then 1 else 0) = 0
          split
          · rename_i q
            rw [mj_top hb hsb q] at c
            exact absurd c (by decide)
          · rfl)
        omega
    · intro hm
      have key := itr_inv g (fun i x => 2 ^ r 0 1 - 1 < i → x = 1) (2 ^ r 0 1) (fun x i hi hx hlt => by
        show (if mj r a i then 1 else x) = 1
        by_cases c : i = 2 ^ r 0 1 - 1
        · rw [c, if_pos hm]
        · split
          · rfl
          · exact hx (by omega)) (2 ^ r 0 1) 0 0 (by omega) (fun q => absurd q (by omega))
      exact key (by omega)
end CO
theorem scX_56 {σ σ' : FH} (g : agr (fun b => b = 5 ∨ b = 6) σ σ') : agr scX σ σ' := agr_mono (fun q hq => by unfold scX; omega) g
theorem op_ways (x : Int32) : OpI (fX11_ways x) (fX12_ways x) := by
  intro n σx σm hn h
  have h1 := Rel_th h
  unfold fX11_ways fX12_ways
  rw [fxL_r (fx_si σm 0 0 0)]
  generalize fx_si σm 0 0 0 = σ1 at h1 ⊢
  obtain ⟨r, ef, a, t, d, hA⟩ := id h1
  obtain ⟨hMV, hRB, hEB, hRX, hEX, hRM, hEM, hNX, hSX, hSM, hSB, -⟩ := id hA
  rcases pk_ix x (n := 201) (by decide) with hx | hx | ⟨w, hw, rfl⟩
  · exact ⟨-1, σx, σ1, by rw [if_pos hx], by rw [wi_f (Or.inl hx), fxBP_s, if_pos rfl], Rel_up h1 (by omega)⟩
  · have hx3 : 200 < x := nle_lt (a := 200) (by decide) hx (by decide)
    refine ⟨-1, σx, σ1, ?_, by rw [wi_f (Or.inr hx3), fxBP_s, if_pos rfl], Rel_up h1 (by omega)⟩
    by_cases c : x < 0
    · rw [if_pos c]
    · rw [if_neg c, if_neg (Int32.not_le.mpr hx3)]
  · have h200 : nI w ≤ 200 := nI_le (b := 200) (by omega) (by decide)
    obtain ⟨σx2, e2, g2, m2, a2⟩ := x_meet hRX hRB hSX
    have hMS : MS σx2 r a := ⟨m2.1, m2.2, a2⟩
    refine ⟨nI (wyC r a w), σx2, σ1, ?_, ?_, Rel_up (Rel_sc h1 (scX_56 g2) (agQ_rf _)) (by omega)⟩
    · rw [if_neg (nI_pos (by omega)), if_pos h200, fxG_t hRX.1, e2, fxBV_s, x_setsOf hMS hRB hSB.2.2.2.2.2.1 (by omega), fxBP_s]
    · rw [wi_t (nI_pos (by omega)) (Int32.not_lt.mpr h200), fxBP_s, if_neg (by decide), fxL_r]
      exact m_ways hRM hRB hSM hSB.2.2.2.2.2.1 (by omega) _
theorem op_pivot (x : Int32) : OpI (fX11_pivot x) (fX12_pivot x) := by
  intro n σx σm hn h
  have h1 := Rel_th h
  unfold fX11_pivot fX12_pivot
  rw [fxL_r (fx_si σm 0 0 0)]
  generalize fx_si σm 0 0 0 = σ1 at h1 ⊢
  obtain ⟨r, ef, a, t, d, hA⟩ := id h1
  obtain ⟨hMV, hRB, hEB, hRX, hEX, hRM, hEM, hNX, hSX, hSM, hSB, -⟩ := id hA
  have hw := hRB.2.1
  rw [fxG_t hRX.1]
  rcases pk_ix x (n := r 0 1) (by omega) with hx | hx | ⟨j, hj, rfl⟩
  · exact ⟨-1, σx, σ1, by rw [x_hasParty_out hRX (Or.inl hx), fxBP_s, if_pos rfl], by rw [m_isParty_out hRM (Or.inl hx), fxBP_s, if_pos rfl], Rel_up h1 (by omega)⟩
  · exact ⟨-1, σx, σ1, by rw [x_hasParty_out hRX (Or.inr hx), fxBP_s, if_pos rfl], by rw [m_isParty_out hRM (Or.inr hx), fxBP_s, if_pos rfl], Rel_up h1 (by omega)⟩
  · obtain ⟨σx2, e2, g2, m2, a2⟩ := x_meet hRX hRB hSX
    have hMS : MS σx2 r a := ⟨m2.1, m2.2, a2⟩
    refine ⟨nI (pvC r a j), σx2, σ1, ?_, ?_, Rel_up (Rel_sc h1 (scX_56 g2) (agQ_rf _)) (by omega)⟩
    · rw [x_hasParty_in hRX hRB hj, fxBP_s, if_neg (by decide), fxG_t hRX.1, e2, fxBV_s, x_turnsBy hMS hRB hSB hj, fxBP_s]
    · rw [m_isParty_in hRM hRB hj, fxBP_s, if_neg (by decide), m_pivotsOf hRM hRB hSM hSB hj, fxBP_s]
theorem op_core : OpI fX11_core fX12_core := by
  intro n σx σm hn h
  have h1 := Rel_th h
  unfold fX11_core fX12_core
  rw [fxL_r (fx_si σm 0 0 0)]
  generalize fx_si σm 0 0 0 = σ1 at h1 ⊢
  obtain ⟨r, ef, a, t, d, hA⟩ := id h1
  obtain ⟨hMV, hRB, hEB, hRX, hEX, hRM, hEM, hNX, hSX, hSM, hSB, -⟩ := id hA
  have h5 := hRB.2.1
  have hp1 : 1 ≤ 2 ^ r 0 1 := Nat.one_le_two_pow
  obtain ⟨σx2, e2, g2, m2, a2⟩ := x_meet hRX hRB hSX
  have hMS : MS σx2 r a := ⟨m2.1, m2.2, a2⟩
  refine ⟨nI (crv r a), σx2, σ1, ?_, ?_, Rel_up (Rel_sc h1 (scX_56 g2) (agQ_rf _)) (by omega)⟩
  · rw [fxG_t hRX.1, e2, fxBV_s, x_core hMS hRB hSB, fxBP_s]
  · rw [fxG_t (by decide), cl1, rm_q hRM, shl1 _ (by omega), nI_m1 (by omega), fxL_r, fxL_r]
    obtain ⟨x, e, hx, hi⟩ := m_core hRM hRB hSM hSB (fun x5 x6 => fxL (α := Int32) (if x6 = 0 then 0 else x5) <| fun v7 => some (v7, σ1))
    refine e.trans ?_
    rw [fxL_r]
    unfold crv
    rcases (show x = 0 ∨ x = 1 by omega) with rfl | rfl
    · rw [if_pos (by decide), if_neg (fun q => absurd (hi.mpr q) (by decide))]; rfl
    · rw [if_neg (by decide), if_pos (hi.mp rfl)]
theorem op_lean : OpI fX11_lean fX12_lean := by
  intro n σx σm hn h
  have h1 := Rel_th h
  unfold fX11_lean fX12_lean
  rw [fxL_r (fx_si σm 0 0 0)]
  generalize fx_si σm 0 0 0 = σ1 at h1 ⊢
  obtain ⟨r, ef, a, t, d, hA⟩ := id h1
  obtain ⟨hMV, hRB, hEB, hRX, hEX, hRM, hEM, hNX, hSX, hSM, hSB, -⟩ := id hA
  obtain ⟨σx2, e2, g2, m2, a2⟩ := x_meet hRX hRB hSX
  have hMS : MS σx2 r a := ⟨m2.1, m2.2, a2⟩
  refine ⟨oI (itr (lnF r a) 0 (2 ^ r 0 1) none), σx2, σ1, ?_, ?_, Rel_up (Rel_sc h1 (scX_56 g2) (agQ_rf _)) (by omega)⟩
  · rw [fxG_t hRX.1, e2, fxBV_s, x_lean hMS hRB hSB, fxBP_s]
  · rw [fxL_r]
    exact m_lean hRM hRB hSM hSB _
