/-! ===== weeks ahead: fines, when, caught, joined ===== -/
def wki (r : AR) (ef : EF) (a : AS) : Nat → AS
  | 0 => a
  | k + 1 => wk r ef (wki r ef a k)
def wfs (r : AR) (ef : EF) (a : AS) : Nat → Nat
  | 0 => 0
  | k + 1 => wfs r ef a k + wf r ef (wki r ef a k)
theorem SB_wki {r : AR} {ef : EF} {a : AS} {n : Nat} (hb : RB r) (heb : EB ef) (h : SB r a n) : ∀ k, SB r (wki r ef a k) (n + k)
  | 0 => h
  | k + 1 => SB_wk hb heb (SB_wki hb heb h k)
theorem mch_wks (r : AR) (ef : EF) (a : AS) {n j : Nat} (hn : n ≤ 6) (hj : n ≤ j) (h5 : r 0 1 ≤ 5) : mch r ef (wks r ef a n) j = mch r ef a j := by
  unfold mch
  rw [wks_keep r ef a n (3 + j) hn (by omega), wks_keep r ef a n 0 hn (by omega), vts_eq (b := a) (fun p hp => wks_keep r ef a n (9 + p) hn (by omega))]
theorem wks_at (r : AR) (ef : EF) (a : AS) {j : Nat} (h5 : r 0 1 ≤ 5) : ∀ n, j < n → n ≤ 6 → wks r ef a n (3 + j) = min (a (3 + j) + mch r ef a j) (rH r j)
  | 0, h, _ => absurd h (by omega)
  | n + 1, h, h6 => by
    rw [wks, wrk, upS_ne (by omega)]
    by_cases e : j = n
    · subst e
      rw [upS_eq, wks_keep r ef a j (3 + j) (by omega) (by omega), mch_wks r ef a (by omega) (Nat.le_refl _) h5]
    · rw [upS_ne (by omega)]
      exact wks_at r ef a h5 n (by omega) (by omega)
theorem wk_at {r : AR} {ef : EF} {a : AS} (hb : RB r) {j : Nat} (hj : j < r 0 0) : wk r ef a (3 + j) = min (a (3 + j) + mch r ef a j) (rH r j) := by
  have hw := hb.1
  rw [wk, upS_ne (by omega)]
  exact wks_at r ef a hb.2.1 _ hj hw
theorem wk_0 (r : AR) (ef : EF) (a : AS) : wk r ef a 0 = a 0 + 1 := by rw [wk, upS_eq]
theorem wk_9 {r : AR} {ef : EF} {a : AS} (hb : RB r) (p : Nat) : wk r ef a (9 + p) = a (9 + p) := by
  rw [wk, upS_ne (by omega), wks_keep r ef a _ (9 + p) hb.1 (by have := hb.1; omega)]
theorem wki_0 (r : AR) (ef : EF) (a : AS) : ∀ k, wki r ef a k 0 = a 0 + k
  | 0 => rfl
  | k + 1 => by rw [wki, wk_0, wki_0 r ef a k]; omega
theorem wki_9 {r : AR} {ef : EF} {a : AS} (hb : RB r) (p : Nat) : ∀ k, wki r ef a k (9 + p) = a (9 + p)
  | 0 => rfl
  | k + 1 => by rw [wki, wk_9 hb, wki_9 hb p k]
theorem bitB : ∀ n, n < 6 → ∀ x, x < 2 ^ n → ∀ b, b < 2 → bt (x + b * 2 ^ n) n = b ∧ ∀ j, j < n → bt (x + b * 2 ^ n) j = bt x j := by decide +kernel
theorem wkb_bt (r : AR) (ef : EF) (a : AS) {j : Nat} : ∀ n, n ≤ 6 → j < n → bt (wkb r ef a n) j = if 0 < wfi r (wks r ef a j) j (mch r ef (wks r ef a j) j) then 1 else 0
  | 0, _, h => absurd h (by omega)
  | n + 1, h6, h => by
    have hb := bitB n (by omega) (wkb r ef a n) (wkb_lt r ef a n) (if 0 < wfi r (wks r ef a n) n (mch r ef (wks r ef a n) n) then 1 else 0) (by split <;> omega)
    rw [wkb]
    by_cases e : j = n
    · subst e; exact hb.1
    · rw [hb.2 j (by omega)]
      exact wkb_bt r ef a n (by omega) (by omega)
/-- whether a ware is fined in a week -/
theorem wkb_at {r : AR} {ef : EF} {a : AS} (hb : RB r) {j : Nat} (hj : j < r 0 0) : bt (wkb r ef a (r 0 0)) j = if rH r j < a (3 + j) + mch r ef a j then 1 else 0 := by
  have hw := hb.1
  have hf := hb.2.2.1
  rw [wkb_bt r ef a _ hw hj, mch_wks r ef a (by omega) (Nat.le_refl _) hb.2.1, wfi, wks_keep r ef a j (3 + j) (by omega) (by omega)]
  by_cases c : rH r j < a (3 + j) + mch r ef a j
  · rw [if_pos c, if_pos (Nat.mul_pos (by omega) (by omega))]
  · rw [if_neg c, show a (3 + j) + mch r ef a j - rH r j = 0 by omega, Nat.zero_mul, if_neg (by omega)]
/-- the first one in a stretch that is so -/
def fst1 (P : Nat → Bool) : Nat → Nat → Option Nat
  | 0, _ => none
  | m + 1, i => if P i = true then some i else fst1 P m (i + 1)
def oI (o : Option Nat) : Int32 := match o with
  | some k => nI k
  | none => -1
theorem fst1_ge {P : Nat → Bool} : ∀ (m i k : Nat), fst1 P m i = some k → i ≤ k ∧ k < i + m
  | 0, i, k, h => by cases h
  | m + 1, i, k, h => by
    rw [fst1] at h
    split at h
    · cases h; omega
    · have := fst1_ge m (i + 1) k h; omega
theorem fst1_and {P Q : Nat → Bool} (hP : ∀ k, P k = true → P (k + 1) = true) (hQ : ∀ k, Q k = true → Q (k + 1) = true) : ∀ (m i : Nat), fst1 (fun k => P k && Q k) m i = (match fst1 P m i, fst1 Q m i with | some p, some q => some (max p q) | _, _ => none)
  | 0, i => rfl
  | m + 1, i => by
    have ih := fst1_and hP hQ m (i + 1)
    rw [fst1, fst1, fst1, ih]
    by_cases p : P i = true
    · by_cases q : Q i = true
      · simp [p, q]
      · rw [if_neg (by simp [p, q]), if_pos p, if_neg q]
        cases m with
        | zero => rfl
        | succ m =>
          rw [show fst1 P (m + 1) (i + 1) = some (i + 1) by rw [fst1, if_pos (hP i p)]]
          cases hq : fst1 Q (m + 1) (i + 1) with
          | none => rfl
          | some k => have := fst1_ge _ _ _ hq; simp only; congr 1; omega
    · by_cases q : Q i = true
      · rw [if_neg (by simp [p]), if_neg p, if_pos q]
        cases m with
        | zero => rfl
        | succ m =>
          rw [show fst1 Q (m + 1) (i + 1) = some (i + 1) by rw [fst1, if_pos (hQ i q)]]
          cases hq : fst1 P (m + 1) (i + 1) with
          | none => rfl
          | some k => have := fst1_ge _ _ _ hq; simp only; congr 1; omega
      · rw [if_neg (by simp [p]), if_neg p, if_neg q]
/-- the reference looks ahead, and goes back -/
theorem m_ahead {σ1 : FH} {a : AS} (hs : SM σ1 33 0 a) : ∃ σ8, fX12_copies 33 14 0 35 14 0 σ1 = some σ8 ∧ SM σ8 33 0 a ∧ agr (fun b => b = 35) σ1 σ8 ∧ ∀ σ', agrM σ8 σ' → ∃ σ14, fX12_copies 35 14 0 33 14 0 σ' = some σ14 ∧ SM σ14 33 0 a ∧ agS σ1 σ14 ∧ σ14.1 0 = σ'.1 0 := by
  obtain ⟨σ8, e8, g8, o8, d8⟩ := m_copies (c2 := 35) (n1 := 14) (n2 := 14) (o2 := 0) hs (by decide) (by decide) (by decide) (by decide) (by decide) rfl rfl
  refine ⟨σ8, e8, fun k hk => by rw [g8.1 33 (by decide)]; exact hs k hk, g8, fun σ' g => ?_⟩
  have h35 : SM σ' 35 0 a := fun k hk => by rw [g.1 35 (by decide) (by decide) (by unfold scrM; omega)]; exact d8 k hk
  obtain ⟨σ14, e14, g14, o14, d14⟩ := m_copies (c2 := 33) (n1 := 14) (n2 := 14) (o2 := 0) h35 (by decide) (by decide) (by decide) (by decide) (by decide) rfl rfl
  refine ⟨σ14, e14, d14, ?_, g14.1 0 (by decide)⟩
  have g8' : agS σ1 σ8 := ⟨fun b h1 h2 h3 => g8.1 b (fun q => h3 (by unfold scQ; omega)), fun k _ _ => by rw [g8.1 0 (by decide)], fun b j _ => by rw [g8.2], by rw [g8.2]⟩
  exact agS_tr g8' (agS_tr (agS_M g) (agS_33 g14))
theorem sixty (x : Int32) : (x < 1 ∨ 60 < x) ∨ ∃ m, 1 ≤ m ∧ m ≤ 60 ∧ x = nI m := by
  rcases pk_ix x (n := 61) (by decide) with h | h | ⟨j, hj, rfl⟩
  · exact Or.inl (Or.inl (Int32.lt_trans h (by decide)))
  · exact Or.inl (Or.inr (nle_lt (a := 60) (by decide) h (by decide)))
  · by_cases h0 : j = 0
    · subst h0; exact Or.inl (Or.inl (by decide))
    · exact Or.inr ⟨j, by omega, by omega, rfl⟩
theorem x_fines_loop {σ : FH} {T : Nat} {r : AR} {ef : EF} {a : AS} {n0 : Nat} (hT : T = 17 ∨ T = 28) (hv : σ.2.2 2 = T) (h : RX σ T r) (hb : RB r) (he : EX σ T ef) (heb : EB ef) (hsb : SB r a n0) (hn0 : n0 < 700) {w : Nat} (hw : w ≤ 99) (K : Int32 → FH → Option (Int32 × FH)) :
    ∀ (m n i : Nat) (σ1 : FH), i + m = w → m < n → SX σ1 10 (wki r ef a i) → agr scX σ σ1 → ∃ σ', fX11_fines_28 (nI w) K n (nI (wfs r ef a i)) (nI i) σ1 = K (nI (wfs r ef a w)) σ' ∧ agr scX σ σ'
  | m, 0, i, σ1, _, h2, _, _ => absurd h2 (by omega)
  | 0, n + 1, i, σ1, h1, _, hs1, g1 => by
    obtain rfl : i = w := by omega
    exact ⟨σ1, by rw [fX11_fines_28, if_pos (nI_le (Nat.le_refl _) (by omega))], g1⟩
  | m + 1, n + 1, i, σ1, h1, h2, hs1, g1 => by
    have hR := RX_agr h g1 (fun k hk => by unfold scX; omega)
    have hE := EX_agr he g1 (by unfold scX; omega) (by unfold scX; omega)
    have hB := SB_wki hb heb hsb i
    obtain ⟨σ2, e2, hs2, g2⟩ := x_passWeek hR hb hE heb hs1 hB.2.2.2.1 hB.2.2.2.2.2.1 (by have := hB.1; omega)
    obtain ⟨σ', e', g'⟩ := x_fines_loop hT hv h hb he heb hsb hn0 hw K m n (i + 1) σ2 (by omega) (by omega) hs2 (agr_tr g1 (agr_mono (fun q hq => by unfold scX; omega) g2))
    refine ⟨σ', ?_, g'⟩
    rw [fX11_fines_28, if_neg (by rw [nI_leI (by omega) (by omega)]; omega), g1.2, hv, fxG_t hR.1, e2, fxBI_s, nI_add, fxL_r, nI_1]
    exact e'
theorem m_fines_loop {σ : FH} {r : AR} {ef : EF} {a : AS} {n0 : Nat} (h : RM σ 0 r) (hb : RB r) (he : EM σ ef) (heb : EB ef) (hsb : SB r a n0) (hn0 : n0 < 700) {w : Nat} (hw : w ≤ 99) (K : Int32 → FH → Option (Int32 × FH)) :
    ∀ (m n i : Nat) (σ1 : FH), i + m = w → m < n → SM σ1 33 0 (wki r ef a i) → agrM σ σ1 → ∃ σ', fX12_fines_34 (nI w) K n (nI (wfs r ef a i)) (nI i) σ1 = K (nI (wfs r ef a w)) σ' ∧ agrM σ σ'
  | m, 0, i, σ1, _, h2, _, _ => absurd h2 (by omega)
  | 0, n + 1, i, σ1, h1, _, hs1, g1 => by
    obtain rfl : i = w := by omega
    exact ⟨σ1, by rw [fX12_fines_34, if_pos (nI_le (Nat.le_refl _) (by omega))], g1⟩
  | m + 1, n + 1, i, σ1, h1, h2, hs1, g1 => by
    have hB := SB_wki hb heb hsb i
    obtain ⟨σ2, e2, hs2, -, g2⟩ := m_passes (RM_agrM h g1) hb (EM_agrM he g1) heb hs1 hB.2.2.2.1 hB.2.2.2.2.2.1 (by have := hB.1; omega)
    obtain ⟨σ', e', g'⟩ := m_fines_loop h hb he heb hsb hn0 hw K m n (i + 1) σ2 (by omega) (by omega) hs2 (agrM_tr g1 g2)
    refine ⟨σ', ?_, g'⟩
    rw [fX12_fines_34, if_neg (by rw [nI_leI (by omega) (by omega)]; omega), e2, fxBI_s, nI_add, fxL_r, nI_1]
    exact e'
theorem RM_35 {σ σ' : FH} {r : AR} (h : RM σ 0 r) (g : agr (fun b => b = 35) σ σ') : RM σ' 0 r := by
  rw [RM, g.1 2 (by decide), g.1 5 (by decide), g.1 6 (by decide), g.1 7 (by decide), g.1 8 (by decide), g.1 9 (by decide)]
  exact h
theorem EM_35 {σ σ' : FH} {ef : EF} (h : EM σ ef) (g : agr (fun b => b = 35) σ σ') : EM σ' ef := by
  intro so half votes date σ0 a1 a2 a3 a4 e1 e2 e3
  rw [g.1 10 (by decide)] at e1
  rw [g.1 11 (by decide)] at e2
  exact h so half votes date σ0 a1 a2 a3 a4 e1 e2 (fun k hk => by rw [e3 k hk, g.1 12 (by decide)])
theorem op_fines (x : Int32) : OpI (fX11_fines x) (fX12_fines x) := by
  intro n σx σm hn h
  have h1 := Rel_th h
  unfold fX11_fines fX12_fines
  rw [fxL_r (fx_si σm 0 0 0)]
  generalize fx_si σm 0 0 0 = σ1 at h1 ⊢
  obtain ⟨r, ef, a, t, d, hA⟩ := id h1
  obtain ⟨hMV, hRB, hEB, hRX, hEX, hRM, hEM, hNX, hSX, hSM, hSB, -⟩ := id hA
  have hT : σx.2.2 2 = 17 ∨ σx.2.2 2 = 28 := by rcases hMV.1 with z | z <;> omega
  rcases sixty x with hx | ⟨w, w1, w2, rfl⟩
  · refine ⟨-1, σx, σ1, ?_, by rw [wi_f hx, fxBP_s, if_pos rfl], Rel_up h1 (by omega)⟩
    rcases hx with hx | hx
    · rw [if_pos hx]
    · by_cases c : x < 1
      · rw [if_pos c]
      · rw [if_neg c, if_neg (Int32.not_le.mpr hx)]
  · obtain ⟨σx5, e5, hs5, g5⟩ := x_copyOf (t := 10) hSX rfl (by omega)
    have g5' : agr scX σx σx5 := agr_mono (fun q hq => by unfold scX; omega) g5
    obtain ⟨σx6, e6, g6⟩ := x_fines_loop hT rfl hRX hRB hEX hEB hSB (by omega) (w := w) (by omega) (fun x7 σ8 => some (x7, σ8)) w FU 0 σx5 (by omega) (by unfold FU; omega) hs5 g5'
    obtain ⟨σ8, e8, hs8, g8, back⟩ := m_ahead hSM
    obtain ⟨σ9, e9, g9⟩ := m_fines_loop (RM_35 hRM g8) hRB (EM_35 hEM g8) hEB hSB (by omega) (w := w) (by omega) (fun x10 σ11 => fxBV (fX12_copies 35 14 0 33 14 0 σ11) <| fun σ14 => some (x10, σ14)) w FU 0 σ8 (by omega) (by unfold FU; omega) hs8 (agrM_rf _)
    obtain ⟨σ14, e14, hs14, g14, -⟩ := back σ9 g9
    refine ⟨nI (wfs r ef a w), σx6, σ14, ?_, ?_, ⟨r, ef, a, t, d, RelA_st hA (agr_mono (fun q hq => Or.inr (Or.inr (Or.inr hq))) g6) g14 (SX_sc hSX g6 (Or.inl rfl)) hs14 (SB_up hSB (by omega)) (by omega)⟩⟩
    · have h60 : nI w ≤ 60 := nI_le (b := 60) (by omega) (by decide)
      rw [if_neg (by rw [one_nI, nI_ltI (by omega) (by omega)]; omega), if_pos h60, e5, fxBV_s, fxL_r]
      exact e6
    · rw [wi_t (by rw [one_nI, nI_ltI (by omega) (by omega)]; omega) (by rw [show (60 : Int32) = nI 60 from rfl, nI_ltI (by omega) (by omega)]; omega), fxBP_s, if_neg (by decide), e8, fxBV_s, fxL_r]
      refine e9.trans ?_
      rw [e14, fxBV_s]
