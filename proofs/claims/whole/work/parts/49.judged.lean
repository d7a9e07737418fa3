/-! ===== judged: line by line ===== -/
def lnS (r : AR) (ef : EF) (t : AT) (a : AS) (k : Nat) : AS := if t 1 k = 0 then wrk r a (t 2 k) (t 4 k) else if t 1 k = 1 then stp a (t 2 k) (t 4 k) else if t 1 k = 2 then (if canJ r a (t 2 k) (t 3 k) then jn r a (t 2 k) (t 3 k) else a) else if t 1 k = 3 then (if canL a (t 2 k) (t 3 k) (t 4 k) then ld a (t 2 k) (t 3 k) (t 4 k) else a) else wk r ef a
def lnO (r : AR) (t : AT) (a : AS) (k : Nat) : Bool := if t 1 k = 2 then canJ r a (t 2 k) (t 3 k) else if t 1 k = 3 then canL a (t 2 k) (t 3 k) (t 4 k) else true
theorem SB_ln {r : AR} {ef : EF} {t : AT} {a : AS} {n k : Nat} (hb : RB r) (heb : EB ef) (htb : TB r t) (hk : k < t 0 0) (h : SB r a n) : SB r (lnS r ef t a k) (n + 1) := by
  obtain ⟨b1, b2, b3, b4⟩ := htb.2 k hk
  unfold lnS
  split
  · exact SB_wrk hb h (b2 (by omega)).1 (b2 (by omega)).2.2
  · split
    · exact SB_stp h (b2 (by omega)).1
    · split
      · split
        · exact SB_jn hb h (b3 (by omega)).1 (b3 (by omega)).2.1
        · exact SB_up h (by omega)
      · split
        · split
          · exact SB_ld hb h (b4 (by omega)).1 (b4 (by omega)).2.1 (by assumption)
          · exact SB_up h (by omega)
        · exact SB_wk hb heb h
theorem lnS_fin {r : AR} {ef : EF} {t : AT} {a : AS} {k : Nat} : a 1 ≤ lnS r ef t a k 1 := by
  unfold lnS
  repeat' split
  · rw [wrk, upS_eq]; omega
  · rw [stp, upS_ne (by omega)]; omega
  · rw [jn, upS_ne (by omega), upS_eq]; omega
  · omega
  · rw [ld, upS_ne (by omega), upS_ne (by omega)]; omega
  · omega
  · rw [wk, upS_ne (by omega), wks_fin]; omega
theorem lnS_0 {r : AR} {ef : EF} {t : AT} {a : AS} {k : Nat} (q : t 1 k = 0) : lnS r ef t a k = wrk r a (t 2 k) (t 4 k) := by unfold lnS; rw [if_pos q]
theorem lnS_1 {r : AR} {ef : EF} {t : AT} {a : AS} {k : Nat} (q : t 1 k = 1) : lnS r ef t a k = stp a (t 2 k) (t 4 k) := by unfold lnS; rw [if_neg (by omega), if_pos q]
theorem lnS_2 {r : AR} {ef : EF} {t : AT} {a : AS} {k : Nat} (q : t 1 k = 2) : lnS r ef t a k = if canJ r a (t 2 k) (t 3 k) then jn r a (t 2 k) (t 3 k) else a := by unfold lnS; rw [if_neg (by omega), if_neg (by omega), if_pos q]
theorem lnS_3 {r : AR} {ef : EF} {t : AT} {a : AS} {k : Nat} (q : t 1 k = 3) : lnS r ef t a k = if canL a (t 2 k) (t 3 k) (t 4 k) then ld a (t 2 k) (t 3 k) (t 4 k) else a := by unfold lnS; rw [if_neg (by omega), if_neg (by omega), if_neg (by omega), if_pos q]
theorem lnS_4 {r : AR} {ef : EF} {t : AT} {a : AS} {k : Nat} (q : t 1 k = 4) : lnS r ef t a k = wk r ef a := by unfold lnS; rw [if_neg (by omega), if_neg (by omega), if_neg (by omega), if_neg (by omega)]
theorem lnO_2 {r : AR} {t : AT} {a : AS} {k : Nat} (q : t 1 k = 2) : lnO r t a k = canJ r a (t 2 k) (t 3 k) := by unfold lnO; rw [if_pos q]
theorem lnO_3 {r : AR} {t : AT} {a : AS} {k : Nat} (q : t 1 k = 3) : lnO r t a k = canL a (t 2 k) (t 3 k) (t 4 k) := by unfold lnO; rw [if_neg (by omega), if_pos q]
theorem lnO_t {r : AR} {t : AT} {a : AS} {k : Nat} (q : t 1 k ≠ 2) (q3 : t 1 k ≠ 3) : lnO r t a k = true := by unfold lnO; rw [if_neg q, if_neg q3]
def bI (b : Bool) : Int32 := if b then 1 else 0
section LN
variable {σ : FH} {T C tc : Nat} {r : AR} {ef : EF} {a : AS} {t : AT} {n : Nat}
theorem x_follow (h : RX σ T r) (hb : RB r) (he : EX σ T ef) (heb : EB ef) (hs : SX σ tc a) (hsb : SB r a n) (hn : n < 50000) (ht : TX σ C t) (htb : TB r t) {k : Nat} (hk : k < t 0 0) : ∃ σ', fX7_follow tc T C (nI k) σ = some (bI (lnO r t a k), σ') ∧ SX σ' tc (lnS r ef t a k) ∧ agr (fun b => b = tc ∨ b = tc + 1 ∨ b = tc + 2 ∨ b = T + 10) σ σ' := by
  obtain ⟨b1, b2, b3, b4⟩ := htb.2 k hk
  obtain ⟨t1, t2, t3, t4⟩ := ht.2.2 k hk
  have hw := hb.1
  have hq := hb.2.1
  have h40 := htb.1
  have g40 : fx_in (nI k) 40 = true := fx_inN (by omega) (by decide)
  have hd : ∀ i, i < r 0 0 → a (3 + i) ≤ 30 := fun i hi => by have := hsb.2.2.2.1 i hi; have := (hb.2.2.2.2.1 i hi); unfold rH at *; omega
  unfold fX7_follow
  rw [fxG_t hs.1, fxG_t h.1, fxG_t ht.1, fxG_t g40, fx_clN (by omega), fxL_r, fxG_t g40, fxL_r, fxG_t g40, fxL_r, fxG_t g40, t1]
  rcases (show t 1 k = 0 ∨ t 1 k = 1 ∨ t 1 k = 2 ∨ t 1 k = 3 ∨ t 1 k = 4 by omega) with q | q | q | q | q
  · obtain ⟨c1, c2, c3⟩ := b2 (by omega)
    have := hd _ c1
    obtain ⟨σ', e', s', g'⟩ := x_workOn h hb hs (j := t 2 k) (m := t 4 k) c1 (by omega) (by omega)
    refine ⟨σ', ?_, ?_, agr_mono (fun z hz => by omega) g'⟩
    · rw [lnO_t (by omega) (by omega), q, if_pos (by decide), t2 (by omega), t4 (by omega), e', fxBI_s]; rfl
    · rw [lnS_0 q]; exact s'
  · obtain ⟨c1, c2, c3⟩ := b2 (by omega)
    have := hd _ c1
    obtain ⟨σ', e', s', g'⟩ := x_takeOff hs (i := t 2 k) (m := t 4 k) (by omega) (by omega) (by omega)
    refine ⟨σ', ?_, ?_, agr_mono (fun z hz => by omega) g'⟩
    · rw [lnO_t (by omega) (by omega), q, if_neg (by decide), if_pos (by decide), t2 (by omega), t4 (by omega), e', fxBV_s]; rfl
    · rw [lnS_1 q]; exact s'
  · obtain ⟨c1, c2, c3⟩ := b3 q
    rw [lnO_2 q, lnS_2 q, q, if_neg (by decide), if_neg (by decide), if_pos (by decide), t2 (by omega), t3 (by omega), x_canJoin h hb hs hsb.2.2.2.1 c1 c2, fxBP_s]
    by_cases c : canJ r a (t 2 k) (t 3 k) = true
    · obtain ⟨σ', e', s', g'⟩ := x_arrest h hb hs c1 c2
      refine ⟨σ', ?_, ?_, agr_mono (fun z hz => by omega) g'⟩
      · rw [if_pos c, if_neg (by decide), e', fxBV_s, c]; rfl
      · rw [if_pos c]; exact s'
    · refine ⟨σ, ?_, ?_, agr_rf _ _⟩
      · rw [if_neg c, if_pos rfl, Bool.eq_false_iff.mpr c]; rfl
      · rw [if_neg c]; exact hs
  · obtain ⟨c1, c2, c3, c4, c5⟩ := b4 q
    rw [lnO_3 q, lnS_3 q, q, if_neg (by decide), if_neg (by decide), if_neg (by decide), if_pos (by decide), t2 (by omega), t3 (by omega), t4 (by omega), x_canLend h hb hs hsb.2.2.2.2.2.1 c1 c2 c5, fxBP_s]
    by_cases c : canL a (t 2 k) (t 3 k) (t 4 k) = true
    · obtain ⟨σ', e', s', g'⟩ := x_moveSeats hs (by omega) (by omega) c
      refine ⟨σ', ?_, ?_, agr_mono (fun z hz => by omega) g'⟩
      · rw [if_pos c, if_neg (by decide), e', fxBV_s, c]; rfl
      · rw [if_pos c]; exact s'
    · refine ⟨σ, ?_, ?_, agr_rf _ _⟩
      · rw [if_neg c, if_pos rfl, Bool.eq_false_iff.mpr c]; rfl
      · rw [if_neg c]; exact hs
  · obtain ⟨σ', e', s', g'⟩ := x_passWeek h hb he heb hs hsb.2.2.2.1 hsb.2.2.2.2.2.1 (by have := hsb.1; omega)
    refine ⟨σ', ?_, ?_, agr_mono (fun z hz => by omega) g'⟩
    · rw [lnO_t (by omega) (by omega), q, if_neg (by decide), if_neg (by decide), if_neg (by decide), if_neg (by decide), e', fxBI_s]; rfl
    · rw [lnS_4 q]; exact s'
theorem m_goes (h : RM σ 0 r) (hb : RB r) (he : EM σ ef) (heb : EB ef) (hs : SM σ 33 0 a) (hsb : SB r a n) (hn : n < 50000) (ht : TM σ 0 t) (htb : TB r t) {k : Nat} (hk : k < t 0 0) : ∃ σ', fX12_goes (nI k) σ = some (bI (lnO r t a k), σ') ∧ SM σ' 33 0 (lnS r ef t a k) ∧ agrM σ σ' := by
  obtain ⟨b1, b2, b3, b4⟩ := htb.2 k hk
  obtain ⟨t1, t2, t3, t4⟩ := ht.2 k hk
  rw [Nat.mul_zero, Nat.zero_add] at t1 t2 t3 t4
  have hw := hb.1
  have hq := hb.2.1
  have h40 := htb.1
  have g40 : fx_in (nI k) 240 = true := fx_inN (by omega) (by decide)
  have hd : ∀ i, i < r 0 0 → a (3 + i) ≤ 30 := fun i hi => by have := hsb.2.2.2.1 i hi; have := (hb.2.2.2.2.1 i hi); unfold rH at *; omega
  unfold fX12_goes
  rw [fxG_t g40, fx_clN (by omega), fxL_r, fxG_t g40, fxL_r, t1]
  rcases (show t 1 k = 0 ∨ t 1 k = 1 ∨ t 1 k = 2 ∨ t 1 k = 3 ∨ t 1 k = 4 by omega) with q | q | q | q | q
  · obtain ⟨c1, c2, c3⟩ := b2 (by omega)
    obtain ⟨σ', e', s', g'⟩ := m_works h hb hs (j := t 2 k) (m := t 4 k) c1 (by omega) (hsb.2.2.2.1 _ c1)
    refine ⟨σ', ?_, ?_, agrM_33 g'⟩
    · rw [lnO_t (by omega) (by omega), q, if_pos (by decide), fxG_t g40, t2 (by omega), t4 (by omega), e', fxBI_s]; rfl
    · rw [lnS_0 q]; exact s'
  · obtain ⟨c1, c2, c3⟩ := b2 (by omega)
    have := hd _ c1
    have hs4 : SM (fx_si σ 33 (3 + t 2 k) (nI (a (3 + t 2 k) - t 4 k))) 33 0 (stp a (t 2 k) (t 4 k)) := SM_up hs
    refine ⟨fx_si σ 33 (3 + t 2 k) (nI (a (3 + t 2 k) - t 4 k)), ?_, ?_, agrM_s33⟩
    · rw [lnO_t (by omega) (by omega), q, if_neg (by decide), if_pos (by decide), t2 (by omega), t4 (by omega), thN, fxG_t (fx_inN (by omega) (by decide)), fxG_t g40, fxG_t (fx_inN (by omega) (by decide)), fx_clN (by omega), sm_k hs (by omega), posN (by omega) (by omega), fxL_r]; rfl
    · rw [lnS_1 q]; exact hs4
  · obtain ⟨c1, c2, c3⟩ := b3 q
    rw [lnO_2 q, lnS_2 q, q, if_neg (by decide), if_neg (by decide), if_pos (by decide), fxG_t g40, t2 (by omega), t3 (by omega), m_canJoin h hb hs hsb.2.2.2.1 c1 c2, fxBP_s]
    by_cases c : canJ r a (t 2 k) (t 3 k) = true
    · obtain ⟨σ', e', s', g'⟩ := m_joins h hb hs c1 c2
      refine ⟨σ', ?_, ?_, agrM_33 g'⟩
      · rw [if_pos c, if_neg (by decide), fxG_t g40, e', fxBV_s, c]; rfl
      · rw [if_pos c]; exact s'
    · refine ⟨σ, ?_, ?_, agrM_rf _⟩
      · rw [if_neg c, if_pos rfl, Bool.eq_false_iff.mpr c]; rfl
      · rw [if_neg c]; exact hs
  · obtain ⟨c1, c2, c3, c4, c5⟩ := b4 q
    rw [lnO_3 q, lnS_3 q, q, if_neg (by decide), if_neg (by decide), if_neg (by decide), if_pos (by decide), fxG_t g40, fxG_t g40, t2 (by omega), t3 (by omega), t4 (by omega), m_canLend h hb hs hsb.2.2.2.2.2.1 c1 c2 c5, fxBP_s]
    by_cases c : canL a (t 2 k) (t 3 k) (t 4 k) = true
    · obtain ⟨σ', e', s', g'⟩ := m_lends hs (by omega) (by omega) c
      refine ⟨σ', ?_, ?_, agrM_33 g'⟩
      · rw [if_pos c, if_neg (by decide), fxG_t g40, fxG_t g40, e', fxBV_s, c]; rfl
      · rw [if_pos c]; exact s'
    · refine ⟨σ, ?_, ?_, agrM_rf _⟩
      · rw [if_neg c, if_pos rfl, Bool.eq_false_iff.mpr c]; rfl
      · rw [if_neg c]; exact hs
  · obtain ⟨σ', e', s', -, g'⟩ := m_passes h hb he heb hs hsb.2.2.2.1 hsb.2.2.2.2.2.1 (by have := hsb.1; omega)
    refine ⟨σ', ?_, ?_, g'⟩
    · rw [lnO_t (by omega) (by omega), q, if_neg (by decide), if_neg (by decide), if_neg (by decide), if_neg (by decide), e', fxBI_s]; rfl
    · rw [lnS_4 q]; exact s'
end LN
/-- the state before line k -/
def lns (r : AR) (ef : EF) (t : AT) : Nat → AS
  | 0 => fr0 r
  | k + 1 => lnS r ef t (lns r ef t k) k
def jBad (r : AR) (ef : EF) (t : AT) : Nat → Option Nat
  | 0 => none
  | k + 1 => if lnO r t (lns r ef t k) k then jBad r ef t k else (match jBad r ef t k with | none => some k | some j => some j)
def jFin (r : AR) (ef : EF) (t : AT) : Nat → Option Nat
  | 0 => none
  | k + 1 => match jFin r ef t k with | some j => some j | none => if 0 < lns r ef t (k + 1) 1 then some k else none
theorem jFin_0 {r : AR} {ef : EF} {t : AT} : ∀ k, jFin r ef t k = none → lns r ef t k 1 = 0
  | 0, _ => rfl
  | k + 1, h => by
    unfold jFin at h
    cases e : jFin r ef t k with
    | some j => rw [e] at h; exact absurd h (by simp)
    | none =>
      rw [e] at h
      by_cases c : 0 < lns r ef t (k + 1) 1
      · rw [show (match (none : Option Nat) with | some j => some j | none => if 0 < lns r ef t (k + 1) 1 then some k else none) = some k from if_pos c] at h
        exact absurd h (by simp)
      · omega
theorem jB_lt {r : AR} {ef : EF} {t : AT} : ∀ k j, jBad r ef t k = some j → j < k
  | 0, j, h => by simp [jBad] at h
  | k + 1, j, h => by
    unfold jBad at h
    split at h
    · have := jB_lt k j h; omega
    · cases e : jBad r ef t k with
      | none => rw [e] at h; simp at h; omega
      | some i => rw [e] at h; simp at h; have := jB_lt k i e; omega
theorem jF_lt {r : AR} {ef : EF} {t : AT} : ∀ k j, jFin r ef t k = some j → j < k
  | 0, j, h => by simp [jFin] at h
  | k + 1, j, h => by
    unfold jFin at h
    cases e : jFin r ef t k with
    | none => rw [e] at h; simp at h; omega
    | some i => rw [e] at h; simp at h; have := jF_lt k i e; omega
theorem SB_lns {r : AR} {ef : EF} {t : AT} (hb : RB r) (heb : EB ef) (htb : TB r t) : ∀ k, k ≤ t 0 0 → SB r (lns r ef t k) k
  | 0, _ => SB_fr0 hb
  | k + 1, h => SB_ln hb heb htb (by omega) (SB_lns hb heb htb k (by omega))
theorem oI_ge {o : Option Nat} (h : ∀ j, o = some j → j < 1000) : (0 ≤ oI o ↔ o ≠ none) ∧ (oI o = -1 ↔ o = none) := by
  cases o with
  | none => exact ⟨⟨fun q => absurd q (by decide), fun q => absurd rfl q⟩, ⟨fun _ => rfl, fun _ => rfl⟩⟩
  | some k =>
    have hk := h k rfl
    exact ⟨⟨fun _ => by simp, fun _ => nI_pos' (by omega)⟩, ⟨fun q => absurd q (nIne (by omega)), fun q => by simp at q⟩⟩
theorem x_judge_loop {σ : FH} {T C : Nat} {r : AR} {ef : EF} {t : AT} (hT : T = 17 ∨ T = 28) (hC : C = 39 ∨ C = 44) (hv : σ.2.2 2 = T) (hv4 : σ.2.2 4 = C) (h : RX σ T r) (hb : RB r) (he : EX σ T ef) (heb : EB ef) (ht : TX σ C t) (htb : TB r t) (K : Int32 → Int32 → FH → Option (Int32 × FH)) :
    ∀ (m n i : Nat) (σ1 : FH), i + m = t 0 0 → m < n → SX σ1 10 (lns r ef t i) → agr scX σ σ1 → ∃ σ', fX11_judged_30 K n (oI (jBad r ef t i)) (oI (jFin r ef t i)) (nI i) σ1 = K (oI (jBad r ef t (t 0 0))) (oI (jFin r ef t (t 0 0))) σ' ∧ SX σ' 10 (lns r ef t (t 0 0)) ∧ agr scX σ σ'
  | m, 0, i, σ1, _, h2, _, _ => absurd h2 (by omega)
  | 0, n + 1, i, σ1, h1, _, hs1, g1 => by
    obtain rfl : i = t 0 0 := by omega
    have h40 := htb.1
    refine ⟨σ1, ?_, hs1, g1⟩
    have ht1 := TX_sc ht g1 (by omega)
    rw [fX11_judged_30, g1.2, hv4, fxG_t ht.1, ht1.2.1, if_pos (nI_le (Nat.le_refl _) (by omega))]
  | m + 1, n + 1, i, σ1, h1, h2, hs1, g1 => by
    have h40 := htb.1
    have hR := RX_agr h g1 (fun k hk => by unfold scX; omega)
    have hE := EX_agr he g1 (by unfold scX; omega) (by unfold scX; omega)
    have ht1 := TX_sc ht g1 (by omega)
    have hB := SB_lns (ef := ef) hb heb htb i (by omega)
    have hB2 := SB_lns (ef := ef) hb heb htb (i + 1) (by omega)
    obtain ⟨σ2, e2, hs2, g2⟩ := x_follow hR hb hE heb hs1 hB (by omega) ht1 htb (k := i) (by omega)
    have g2' : agr scX σ1 σ2 := agr_mono (fun q hq => by unfold scX; omega) g2
    obtain ⟨σ', e', s', g'⟩ := x_judge_loop hT hC hv hv4 h hb he heb ht htb K m n (i + 1) σ2 (by omega) (by omega) hs2 (agr_tr g1 g2')
    refine ⟨σ', ?_, s', g'⟩
    have f1 : σ1.1 10 3 = nI (lns r ef t i 1) := hs1.2.2.1
    have f2 : σ2.1 10 3 = nI (lns r ef t (i + 1) 1) := hs2.2.2.1
    have hbad : (if bI (lnO r t (lns r ef t i) i) = 0 then (if oI (jBad r ef t i) = -1 then nI i else oI (jBad r ef t i)) else oI (jBad r ef t i)) = oI (jBad r ef t (i + 1)) := by
      have ho := (oI_ge (o := jBad r ef t i) (fun j hj => by have := jB_lt _ _ hj; omega)).2
      cases c : lnO r t (lns r ef t i) i with
      | true => rw [if_neg (by decide), jBad, if_pos c]
      | false =>
        rw [if_pos (by decide), jBad, if_neg (show ¬ lnO r t (lns r ef t i) i = true by rw [c]; decide)]
        cases e : jBad r ef t i with
        | none => rw [if_pos (show oI none = -1 from rfl)]; rfl
        | some j => rw [if_neg (show ¬ oI (some j) = -1 from fun q => by rw [e] at ho; exact absurd (ho.mp q) (by simp))]
    have hmono : lns r ef t i 1 ≤ lns r ef t (i + 1) 1 := lnS_fin
    have hfl := hB2.2.1
    have hfin : (if nI (lns r ef t (i + 1) 1) ≤ nI (lns r ef t i 1) then oI (jFin r ef t i) else (if oI (jFin r ef t i) = -1 then nI i else oI (jFin r ef t i))) = oI (jFin r ef t (i + 1)) := by
      have ho := (oI_ge (o := jFin r ef t i) (fun j hj => by have := jF_lt _ _ hj; omega)).2
      cases e : jFin r ef t i with
      | some j =>
        have hne : ¬ oI (some j) = -1 := fun q => by rw [e] at ho; exact absurd (ho.mp q) (by simp)
        rw [if_neg hne, jFin, e]
        simp
      | none =>
        have hz := jFin_0 i e
        rw [jFin, e, hz]
        by_cases c : 0 < lns r ef t (i + 1) 1
        · rw [if_neg (by rw [nI_leI (by omega) (by omega)]; omega), if_pos (show oI none = -1 from rfl)]
          simp only [if_pos c]
          rfl
        · rw [if_pos (nI_le (by omega) (by omega))]
          simp only [if_neg c]
    rw [fX11_judged_30, g1.2, hv4, hv, fxG_t ht.1, ht1.2.1, if_neg (by rw [nI_leI (by omega) (by omega)]; omega), fxL_r, fxG_t h.1, fxG_t ht.1, e2, fxBI_s, fxL_r, fxL_r, f1, f2, hbad, hfin, nI_1]
    exact e'
theorem TM_agrM {σ σ' : FH} {o : Nat} {t : AT} (h : TM σ o t) (g : agrM σ σ') : TM σ' o t := by
  unfold TM
  rw [g.1 25 (by decide) (by decide) (by unfold scrM; omega), g.1 26 (by decide) (by decide) (by unfold scrM; omega), g.1 27 (by decide) (by decide) (by unfold scrM; omega), g.1 28 (by decide) (by decide) (by unfold scrM; omega), g.1 29 (by decide) (by decide) (by unfold scrM; omega)]
  exact h
theorem m_judge_loop {σ : FH} {r : AR} {ef : EF} {t : AT} (h : RM σ 0 r) (hb : RB r) (he : EM σ ef) (heb : EB ef) (ht : TM σ 0 t) (htb : TB r t) (K : Int32 → Int32 → FH → Option (Int32 × FH)) :
    ∀ (m n i : Nat) (σ1 : FH), i + m = t 0 0 → m < n → SM σ1 33 0 (lns r ef t i) → agrM σ σ1 → ∃ σ', fX12_judged_41 K n (oI (jBad r ef t i)) (oI (jFin r ef t i)) (nI i) σ1 = K (oI (jBad r ef t (t 0 0))) (oI (jFin r ef t (t 0 0))) σ' ∧ SM σ' 33 0 (lns r ef t (t 0 0)) ∧ agrM σ σ'
  | m, 0, i, σ1, _, h2, _, _ => absurd h2 (by omega)
  | 0, n + 1, i, σ1, h1, _, hs1, g1 => by
    obtain rfl : i = t 0 0 := by omega
    have h40 := htb.1
    refine ⟨σ1, ?_, hs1, g1⟩
    rw [fX12_judged_41, fxG_t (by decide), cl0, (TM_agrM ht g1).1, if_pos (nI_le (Nat.le_refl _) (by omega))]
  | m + 1, n + 1, i, σ1, h1, h2, hs1, g1 => by
    have h40 := htb.1
    have hB := SB_lns (ef := ef) hb heb htb i (by omega)
    have hB2 := SB_lns (ef := ef) hb heb htb (i + 1) (by omega)
    obtain ⟨σ2, e2, hs2, g2⟩ := m_goes (RM_agrM h g1) hb (EM_agrM he g1) heb hs1 hB (by omega) (TM_agrM ht g1) htb (k := i) (by omega)
    obtain ⟨σ', e', s', g'⟩ := m_judge_loop h hb he heb ht htb K m n (i + 1) σ2 (by omega) (by omega) hs2 (agrM_tr g1 g2)
    refine ⟨σ', ?_, s', g'⟩
    have f2 : σ2.1 33 1 = nI (lns r ef t (i + 1) 1) := sm_k hs2 (by omega)
    have hbad : (if bI (lnO r t (lns r ef t i) i) = 0 then (if 0 ≤ oI (jBad r ef t i) then oI (jBad r ef t i) else nI i) else oI (jBad r ef t i)) = oI (jBad r ef t (i + 1)) := by
      have ho := (oI_ge (o := jBad r ef t i) (fun j hj => by have := jB_lt _ _ hj; omega)).1
      cases c : lnO r t (lns r ef t i) i with
      | true => rw [if_neg (by decide), jBad, if_pos c]
      | false =>
        rw [if_pos (by decide), jBad, if_neg (show ¬ lnO r t (lns r ef t i) i = true by rw [c]; decide)]
        cases e : jBad r ef t i with
        | none => rw [if_neg (show ¬ 0 ≤ oI none from fun q => by rw [e] at ho; exact ho.mp q rfl)]; rfl
        | some j => rw [if_pos (show 0 ≤ oI (some j) by rw [e] at ho; exact ho.mpr (by simp))]
    have hfl := hB2.2.1
    have hfin : (if nI (lns r ef t (i + 1) 1) ≤ 0 then oI (jFin r ef t i) else (if 0 ≤ oI (jFin r ef t i) then oI (jFin r ef t i) else nI i)) = oI (jFin r ef t (i + 1)) := by
      have ho := (oI_ge (o := jFin r ef t i) (fun j hj => by have := jF_lt _ _ hj; omega)).1
      cases e : jFin r ef t i with
      | some j =>
        rw [if_pos (by rw [e] at ho; exact ho.mpr (by simp) : 0 ≤ oI (some j)), jFin, e]
        simp
      | none =>
        rw [jFin, e]
        by_cases c : 0 < lns r ef t (i + 1) 1
        · rw [if_neg (by rw [n0, nI_leI (by omega) (by omega)]; omega), if_neg (by decide)]
          simp only [if_pos c]
          rfl
        · have : lns r ef t (i + 1) 1 = 0 := by omega
          rw [this, if_pos (by decide)]
          simp
    rw [fX12_judged_41, fxG_t (by decide), cl0, (TM_agrM ht g1).1, if_neg (by rw [nI_leI (by omega) (by omega)]; omega), e2, fxBI_s, fxL_r, fxG_t (by decide), cl1, f2, fxL_r, hbad, hfin, nI_1]
    exact e'
theorem m_aside {σ1 : FH} {a : AS} (hs : SM σ1 33 0 a) : ∃ σ8, fX12_copies 33 14 0 34 14 0 σ1 = some σ8 ∧ SM σ8 33 0 a ∧ SM σ8 34 0 a ∧ agr (fun b => b = 34) σ1 σ8 ∧ ∀ σ', agrM σ8 σ' → ∃ σ14, fX12_copies 34 14 0 33 14 0 σ' = some σ14 ∧ SM σ14 33 0 a ∧ agS σ1 σ14 := by
  obtain ⟨σ8, e8, g8, -, d8⟩ := m_copies (o1 := 0) (c2 := 34) (n2 := 14) (o2 := 0) (n1 := 14) hs (by decide) (by omega) (by omega) (by omega) (by omega) rfl rfl
  refine ⟨σ8, e8, fun k hk => by rw [g8.1 33 (by decide)]; exact hs k hk, d8, g8, fun σ' g => ?_⟩
  have d' : SM σ' 34 0 a := fun k hk => by rw [g.1 34 (by decide) (by decide) (by unfold scrM; omega)]; exact d8 k hk
  obtain ⟨σ14, e14, g14, -, d14⟩ := m_copies (o1 := 0) (c2 := 33) (n2 := 14) (o2 := 0) (n1 := 14) d' (by decide) (by omega) (by omega) (by omega) (by omega) rfl rfl
  refine ⟨σ14, e14, d14, ?_⟩
  have g8' : agS σ1 σ8 := ⟨fun b h1 h2 h3 => g8.1 b (fun q => h3 (by unfold scQ; omega)), fun k _ _ => by rw [g8.1 0 (by decide)], fun b j _ => by rw [g8.2], by rw [g8.2]⟩
  exact agS_tr g8' (agS_tr (agS_M g) (agS_33 g14))
theorem RM_34 {σ σ' : FH} {r : AR} (h : RM σ 0 r) (g : agr (fun b => b = 34) σ σ') : RM σ' 0 r := by
  rw [RM, g.1 2 (by decide), g.1 5 (by decide), g.1 6 (by decide), g.1 7 (by decide), g.1 8 (by decide), g.1 9 (by decide)]
  exact h
theorem EM_34 {σ σ' : FH} {ef : EF} (h : EM σ ef) (g : agr (fun b => b = 34) σ σ') : EM σ' ef := by
  intro so half votes date σ0 a1 a2 a3 a4 e1 e2 e3
  rw [g.1 10 (by decide)] at e1
  rw [g.1 11 (by decide)] at e2
  exact h so half votes date σ0 a1 a2 a3 a4 e1 e2 (fun k hk => by rw [e3 k hk, g.1 12 (by decide)])
theorem three (x : Int32) : (x < 0 ∨ 2 < x) ∨ x = 0 ∨ x = 1 ∨ x = 2 := by
  rcases pk_ix x (n := 3) (by decide) with h | h | ⟨j, hj, rfl⟩
  · exact Or.inl (Or.inl h)
  · exact Or.inl (Or.inr (nle_lt (a := 2) (by decide) h (by decide)))
  · rcases (show j = 0 ∨ j = 1 ∨ j = 2 by omega) with rfl | rfl | rfl
    · exact Or.inr (Or.inl rfl)
    · exact Or.inr (Or.inr (Or.inl rfl))
    · exact Or.inr (Or.inr (Or.inr rfl))
theorem op_judged (x : Int32) : OpI (fX11_judged x) (fX12_judged x) := by
  intro n σx σm hn h
  have h1 := Rel_th h
  unfold fX11_judged fX12_judged
  rw [fxL_r (fx_si σm 0 0 0)]
  generalize fx_si σm 0 0 0 = σ1 at h1 ⊢
  obtain ⟨r, ef, a, t, d, hA⟩ := id h1
  obtain ⟨hMV, hRB, hEB, hRX, hEX, hRM, hEM, hNX, hSX, hSM, hSB, hTX, hTM, hTB, hDX, hDM, hDB, hPX, hUX, hKX⟩ := id hA
  have hT : σx.2.2 2 = 17 ∨ σx.2.2 2 = 28 := by rcases hMV.1 with z | z <;> omega
  have hTT : σx.2.2 4 = 39 ∨ σx.2.2 4 = 44 := by rcases hMV.2 with z | z <;> omega
  rcases three x with hx | hx
  · refine ⟨-2, σx, σ1, ?_, by rw [wi_f hx, fxBP_s, if_pos rfl], Rel_up h1 (by omega)⟩
    rcases hx with hx | hx
    · rw [if_pos hx]
    · by_cases c : x < 0
      · rw [if_pos c]
      · rw [if_neg c, if_neg (Int32.not_le.mpr hx)]
  · have hx0 : ¬ x < 0 := by rcases hx with rfl | rfl | rfl <;> decide
    have hx2 : x ≤ 2 := by rcases hx with rfl | rfl | rfl <;> decide
    obtain ⟨σx5, e5, hs5, g5⟩ := x_begin (t := 10) hRX hRB rfl
    have g5' : agr scX σx σx5 := agr_mono (fun q hq => by unfold scX; omega) g5
    obtain ⟨σx6, e6, s6, g6⟩ := x_judge_loop hT hTT rfl rfl hRX hRB hEX hEB hTX hTB (fun x8 x9 σ10 => fxL (α := Int32) (if x = 0 then x8 else (if x = 1 then x9 else (σ10.1 10 3))) <| fun v11 => some (v11, σ10)) (t 0 0) FU 0 σx5 (by omega) (by have := hTB.1; unfold FU; omega) hs5 g5'
    obtain ⟨σ8, e8, hs8, -, g8, back⟩ := m_aside hSM
    obtain ⟨σ9, e9, hs9, g9⟩ := m_fresh0 (RM_34 hRM g8) hRB
    have hTM8 : TM σ8 0 t := TM_fr hTM hTB (by rw [g8.1 25 (by decide)]) (fun b b1 b2 k hk => by rw [g8.1 b (by omega)])
    obtain ⟨σ10, e10, s10, g10⟩ := m_judge_loop (RM_34 hRM g8) hRB (EM_34 hEM g8) hEB hTM8 hTB (fun x13 x14 σ15 => fxG (fx_in 1 14 = true) <| fxL (α := Int32) (σ15.1 33 (Int32.toNatClampNeg 1)) <| fun v17 => fxBV (fX12_copies 34 14 0 33 14 0 σ15) <| fun σ20 => fxL (α := Int32) (if x = 0 then x13 else (if x = 1 then x14 else v17)) <| fun v21 => some (v21, σ20)) (t 0 0) FU 0 σ9 (by omega) (by have := hTB.1; unfold FU; omega) hs9 (agrM_33 g9)
    obtain ⟨σ14, e14, hs14, g14⟩ := back σ10 g10
    refine ⟨if x = 0 then oI (jBad r ef t (t 0 0)) else if x = 1 then oI (jFin r ef t (t 0 0)) else nI (lns r ef t (t 0 0) 1), σx6, σ14, ?_, ?_, ⟨r, ef, a, t, d, RelA_st hA (agr_mono (fun q hq => Or.inr (Or.inr (Or.inr hq))) g6) g14 (SX_sc hSX g6 (Or.inl rfl)) hs14 (SB_up hSB (by omega)) (by omega)⟩⟩
    · rw [if_neg hx0, if_pos hx2, fxG_t hRX.1, e5, fxBV_s, fxL_r]
      refine e6.trans ?_
      rw [fxL_r, show σx6.1 10 3 = nI (lns r ef t (t 0 0) 1) from s6.2.2.1]
    · rw [wi_t hx0 (Int32.not_lt.mpr hx2), fxBP_s, if_neg (by decide), e8, fxBV_s, e9, fxBV_s, fxL_r]
      refine e10.trans ?_
      rw [fxG_t (by decide), cl1, fxL_r, e14, fxBV_s, fxL_r, sm_k s10 (by omega)]
