/-! ===== reading a law: the class and the reference together ===== -/
def HL (L d : Nat) : Nat := 1 + 4 * (4 - d) + (4 - L)
/-- no step of these levels stands here -/
def TLc (L d : Nat) (t : TP) (τ : TK) (σ : FH) : Prop := (L ≤ 3 → opx 3 t τ = 0) ∧ (L ≤ 2 → opx 2 t τ = 0) ∧ (L ≤ 1 → opx 1 t τ = 0 ∨ σ.1 14 d = 1) ∧ (L = 0 → opx 0 t τ = 0)
/-- both end with one fault -/
def JF (q : Nat) (σx σm : FH) (rx rm : Option (Int32 × FH)) : Prop := ∃ (e : Nat) (σx' σm' : FH), 0 < e ∧ e < 100000 ∧ rx = some (0, σx') ∧ σx'.1 3 8 = nI e ∧ gX q σx σx' ∧ rm = some (0, σm') ∧ σm'.1 0 9 = nI e ∧ gM σm σm'
/-- both have read a piece of level L -/
def JP (q : Nat) (t : TP) (τ0 : TK) (C I : List Int32) (L d : Nat) (σx0 σm0 : FH) (C' I' : List Int32) (v : EVV) (τ : TK) (σx σm : FH) : Prop := d ≤ 4 ∧ XC σx t τ q (C ++ C') ∧ gX q σx0 σx ∧ MC σm t τ (I ++ I') ∧ gM σm0 σm ∧ C'.length + τ0.2.1 ≤ τ.2.1 ∧ Sp (HL L d) C' v ∧ SL L d I' v ∧ (∀ i, i ≤ d → σm.1 13 i = σm0.1 13 i) ∧ (∀ i, i < d → σm.1 14 i = σm0.1 14 i) ∧ (2 ≤ L → σm.1 14 d = σm0.1 14 d)
def JG (q : Nat) (t : TP) (τ : TK) (C I : List Int32) (L d dm : Nat) (σx σm : FH) (rx rm : Option (Int32 × FH)) : Prop := ∃ (C' I' : List Int32) (v : EVV) (τ' : TK) (σx' σm' : FH) (n' : Nat), JP q t τ C I L d σx σm C' I' v τ' σx' σm' ∧ rx = some (1, σx') ∧ rm = fX12_reads_11 n' (nI dm) 0 σm' ∧ t.1 < n' + τ'.2.1 ∧ TLc L d t τ' σm'
def LvP (L d : Nat) : Prop := ∀ (D q : Nat) (t : TP) (τ : TK) (C I : List Int32) (σx σm : FH) (n : Nat), qOK q → 6 * (5 - d) + (5 - L) + 1 ≤ D → XC σx t τ q C → MC σm t τ I → (d = 0 ∨ ¬ σm.1 13 d = 1) → (L ≤ 1 → σm.1 14 d = 0) → t.1 < n + τ.2.1 → JF q σx σm (fX2_readLevel D q (nI L) (nI d) σx) (fX12_reads_11 n (nI d) 1 σm) ∨ JG q t τ C I L d d σx σm (fX2_readLevel D q (nI L) (nI d) σx) (fX12_reads_11 n (nI d) 1 σm)
def PaP (d : Nat) : Prop := ∀ (D q : Nat) (t : TP) (τ : TK) (C I : List Int32) (σx σm : FH) (n : Nat), qOK q → 6 * (5 - d) + 1 ≤ D → XC σx t τ q C → MC σm t τ I → t.1 < n + τ.2.1 → JF q σx σm (fX2_readPart D q (nI d) σx) (fX12_reads_11 n (nI d) 1 σm) ∨ JG q t τ C I 4 d (pp (σm.1 13) d) σx σm (fX2_readPart D q (nI d) σx) (fX12_reads_11 n (nI d) 1 σm)
theorem opx_lt {L : Nat} {t : TP} {τ : TK} (hL : L ≤ 3) (h : opx L t τ ≠ 0) : opx L t τ < -5 := by
  rcases (show L = 0 ∨ L = 1 ∨ L = 2 ∨ L = 3 by omega) with rfl | rfl | rfl | rfl
  · rw [opx_0] at h ⊢
    by_cases c : wx τ = 18
    · rw [if_pos c]; decide
    · rw [if_neg c] at h ⊢
      by_cases e : wx τ = 19
      · rw [if_pos e]; decide
      · rw [if_neg e] at h; exact absurd rfl h
  · rw [opx_1] at h ⊢
    by_cases c : sx t τ = 60
    · rw [if_pos c]; decide
    · rw [if_neg c] at h ⊢
      by_cases e : sx t τ = 61
      · rw [if_pos e]; decide
      · rw [if_neg e] at h; exact absurd rfl h
  · rw [opx_2] at h ⊢
    by_cases c : sx t τ = 43
    · rw [if_pos c]; decide
    · rw [if_neg c] at h ⊢
      by_cases e : sx t τ = 45
      · rw [if_pos e]; decide
      · rw [if_neg e] at h; exact absurd rfl h
  · rw [opx_3] at h ⊢
    by_cases c : sx t τ = 42
    · rw [if_pos c]; decide
    · rw [if_neg c] at h; exact absurd rfl h
theorem opx_k {L : Nat} {t : TP} {τ : TK} (hL : L ≤ 3) (h : opx L t τ ≠ 0) : τ.1 ≠ 1 := by
  intro k
  have s0 : sx t τ = 0 := by unfold sx; rw [if_neg (by omega)]
  have w0 : wx τ = 25 := by unfold wx; rw [if_neg (by omega)]
  rcases (show L = 0 ∨ L = 1 ∨ L = 2 ∨ L = 3 by omega) with rfl | rfl | rfl | rfl
  · rw [opx_0, w0] at h; exact h rfl
  · rw [opx_1, s0] at h; exact h rfl
  · rw [opx_2, s0] at h; exact h rfl
  · rw [opx_3, s0] at h; exact h rfl
theorem cmb_m6 (a b : Int32) : cmb (-6) a b = if a = 0 then 0 else (if b = 0 then 0 else 1) := by unfold cmb; rw [if_neg (by decide), if_neg (by decide), if_neg (by decide), if_neg (by decide), if_neg (by decide), if_pos rfl]
theorem cmb_m7 (a b : Int32) : cmb (-7) a b = if a = 0 then (if b = 0 then 0 else 1) else 1 := by unfold cmb; rw [if_neg (by decide), if_neg (by decide), if_neg (by decide), if_neg (by decide), if_pos rfl]
theorem cmb_m8 (a b : Int32) : cmb (-8) a b = if b ≤ a then 0 else 1 := by unfold cmb; rw [if_neg (by decide), if_neg (by decide), if_neg (by decide), if_pos rfl]
theorem cmb_m9 (a b : Int32) : cmb (-9) a b = if a = b then 1 else 0 := by unfold cmb; rw [if_neg (by decide), if_neg (by decide), if_pos rfl]
theorem cmb_m10 (a b : Int32) : cmb (-10) a b = a + b := by unfold cmb; rw [if_neg (by decide), if_pos rfl]
theorem cmb_m11 (a b : Int32) : cmb (-11) a b = a - b := by unfold cmb; rw [if_pos rfl]
theorem cmb_m12 (a b : Int32) : cmb (-12) a b = a * b := by unfold cmb; rw [if_neg (by decide), if_neg (by decide), if_neg (by decide), if_neg (by decide), if_neg (by decide), if_neg (by decide)]
theorem sl_bin {L LL d : Nat} {t : TP} {τ : TK} {I I' : List Int32} {v v' : EVV} (hL : L ≤ 3) (hLL : LL = if L = 1 then 2 else L) (hop : opx L t τ ≠ 0) (h : SL LL d I v) (h' : SL (L + 1) d I' v') : SL L d (I ++ opm L t τ :: I') (fun ev => cmb (opx L t τ) (v ev) (v' ev)) := by
  subst hLL
  rcases (show L = 0 ∨ L = 1 ∨ L = 2 ∨ L = 3 by omega) with rfl | rfl | rfl | rfl
  · by_cases c : wx τ = 18
    · have e1 : opx 0 t τ = -6 := if_pos c
      have e2 : opm 0 t τ = 26 := if_pos c
      have h2 := s0_and (c := 26) (Or.inl rfl) h h'
      rw [e1, e2]
      simp only [cmb_m6]
      exact h2
    · have e : wx τ = 19 := by
        rw [opx_0, if_neg c] at hop
        by_cases e : wx τ = 19
        · exact e
        · rw [if_neg e] at hop; exact absurd rfl hop
      have e1 : opx 0 t τ = -7 := by rw [opx_0, if_neg c, if_pos e]
      have e2 : opm 0 t τ = 27 := if_neg c
      have h2 := s0_and (c := 27) (Or.inr rfl) h h'
      rw [e1, e2]
      simp only [cmb_m7]
      exact h2
  · by_cases c : sx t τ = 60
    · have e1 : opx 1 t τ = -8 := if_pos c
      have e2 : opm 1 t τ = 24 := if_pos c
      have h2 := s1_cmp (c := 24) (Or.inl rfl) h h'
      rw [e1, e2]
      simp only [cmb_m8]
      exact h2
    · have e : sx t τ = 61 := by
        rw [opx_1, if_neg c] at hop
        by_cases e : sx t τ = 61
        · exact e
        · rw [if_neg e] at hop; exact absurd rfl hop
      have e1 : opx 1 t τ = -9 := by rw [opx_1, if_neg c, if_pos e]
      have e2 : opm 1 t τ = 25 := if_neg c
      have h2 := s1_cmp (c := 25) (Or.inr rfl) h h'
      rw [e1, e2]
      simp only [cmb_m9]
      exact h2
  · by_cases c : sx t τ = 43
    · have e1 : opx 2 t τ = -10 := if_pos c
      have e2 : opm 2 t τ = 20 := if_pos c
      have h2 := s2_add (c := 20) (Or.inl rfl) h h'
      rw [e1, e2]
      simp only [cmb_m10]
      exact h2
    · have e : sx t τ = 45 := by
        rw [opx_2, if_neg c] at hop
        by_cases e : sx t τ = 45
        · exact e
        · rw [if_neg e] at hop; exact absurd rfl hop
      have e1 : opx 2 t τ = -11 := by rw [opx_2, if_neg c, if_pos e]
      have e2 : opm 2 t τ = 21 := if_neg c
      have h2 := s2_add (c := 21) (Or.inr rfl) h h'
      rw [e1, e2]
      simp only [cmb_m11]
      exact h2
  · have c : sx t τ = 42 := by
      rw [opx_3] at hop
      by_cases e : sx t τ = 42
      · exact e
      · rw [if_neg e] at hop; exact absurd rfl hop
    have e1 : opx 3 t τ = -12 := if_pos c
    have e2 : opm 3 t τ = 22 := rfl
    have h2 := s3_mul h h'
    rw [e1, e2]
    simp only [cmb_m12]
    exact h2
/-- the reference passes a step -/
theorem m_op {σ : FH} {t : TP} {τ : TK} {I : List Int32} {n d L : Nat} (h : MC σ t τ I) (hd : d < 6) (hL : L ≤ 3) (hop : opx L t τ ≠ 0) (hc : L = 1 → σ.1 14 d = 0) : ∃ σ', fX12_reads_11 (n + 1) (nI d) 0 σ = fX12_reads_11 n (nI d) 1 σ' ∧ MC σ' t (tkAt t τ.2.2.1) (I ++ [opm L t τ]) ∧ (∀ i, σ'.1 13 i = σ.1 13 i) ∧ (∀ i, i < d → σ'.1 14 i = σ.1 14 i) ∧ (2 ≤ L → σ'.1 14 d = σ.1 14 d) ∧ (L = 1 → σ'.1 14 d = 1) ∧ (L = 0 → σ'.1 14 d = 0) ∧ gM σ σ' := by
  rcases (show L = 0 ∨ L = 1 ∨ L = 2 ∨ L = 3 by omega) with rfl | rfl | rfl | rfl
  · have hs : wx τ = 18 ∨ wx τ = 19 := by
      rw [opx_0] at hop
      by_cases c : wx τ = 18
      · exact Or.inl c
      · rw [if_neg c] at hop
        by_cases e : wx τ = 19
        · exact Or.inr e
        · rw [if_neg e] at hop; exact absurd rfl hop
    obtain ⟨σ', e1, e2, e3, e4, e5, e6⟩ := m_op0 (n := n) h hd hs
    exact ⟨σ', e1, e2, e3, e4, fun z => absurd z (by decide), fun z => absurd z (by decide), fun _ => e5, e6⟩
  · have hs : sx t τ = 60 ∨ sx t τ = 61 := by
      rw [opx_1] at hop
      by_cases c : sx t τ = 60
      · exact Or.inl c
      · rw [if_neg c] at hop
        by_cases e : sx t τ = 61
        · exact Or.inr e
        · rw [if_neg e] at hop; exact absurd rfl hop
    obtain ⟨σ', e1, e2, e3, e4, e5, e6⟩ := m_op1 (n := n) h hd hs (hc rfl)
    exact ⟨σ', e1, e2, e3, e4, fun z => absurd z (by decide), fun _ => e5, fun z => absurd z (by decide), e6⟩
  · have hs : sx t τ = 43 ∨ sx t τ = 45 := by
      rw [opx_2] at hop
      by_cases c : sx t τ = 43
      · exact Or.inl c
      · rw [if_neg c] at hop
        by_cases e : sx t τ = 45
        · exact Or.inr e
        · rw [if_neg e] at hop; exact absurd rfl hop
    obtain ⟨σ', e1, e2, e3, e4, e6⟩ := m_op23 (n := n) (d := d) h (by omega)
    have e : (if sx t τ = 43 then (20 : Int32) else if sx t τ = 45 then 21 else 22) = opm 2 t τ := by
      show _ = if sx t τ = 43 then (20 : Int32) else 21
      by_cases c : sx t τ = 43
      · rw [if_pos c, if_pos c]
      · rw [if_neg c, if_neg c, if_pos (by omega)]
    rw [e] at e2
    exact ⟨σ', e1, e2, e3, fun i _ => e4 i, fun _ => e4 d, fun z => absurd z (by decide), fun z => absurd z (by decide), e6⟩
  · have hs : sx t τ = 42 := by
      rw [opx_3] at hop
      by_cases e : sx t τ = 42
      · exact e
      · rw [if_neg e] at hop; exact absurd rfl hop
    obtain ⟨σ', e1, e2, e3, e4, e6⟩ := m_op23 (n := n) (d := d) h (by omega)
    rw [if_neg (by omega), if_neg (by omega)] at e2
    exact ⟨σ', e1, e2, e3, fun i _ => e4 i, fun _ => e4 d, fun z => absurd z (by decide), fun z => absurd z (by decide), e6⟩
def K8 : Int32 → FH → Option (Int32 × FH) := fun x9 σ10 => fxG (fx_bo x9 = true) (some (x9, σ10))
theorem lv33_0 {rc : Nat → Int32 → Int32 → FH → Option (Int32 × FH)} {q k : Nat} {L d w i : Int32} {σ : FH} : fX2_readLevel_33 rc q L d K8 (k + 1) 0 w i σ = some (0, σ) := by
  rw [fX2_readLevel_33]
  by_cases c : 1000 ≤ i
  · rw [if_pos c, K8, fxG_t bo0]
  · rw [if_neg c, if_pos rfl, K8, fxG_t bo0]
theorem lv33_s {rc : Nat → Int32 → Int32 → FH → Option (Int32 × FH)} {q k : Nat} {L d i : Int32} {σ : FH} : fX2_readLevel_33 rc q L d K8 (k + 1) 1 0 i σ = some (1, σ) := by
  rw [fX2_readLevel_33]
  by_cases c : 1000 ≤ i
  · rw [if_pos c, K8, fxG_t bo1]
  · rw [if_neg c, if_neg (by decide), if_pos rfl, K8, fxG_t bo1]
theorem nI_L1 {L : Nat} (hL : L ≤ 3) : (nI L = 1) = (L = 1) := by
  have h : ∀ n, n < 4 → (nI n = 1 ↔ n = 1) := by decide
  exact propext (h _ (by omega))
/-- a step and what stands behind it -/
theorem jp_step {q : Nat} {t : TP} {τ0 : TK} {C I : List Int32} {L LL d D : Nat} {σx0 σm0 : FH} {C' I' : List Int32} {v : EVV} {τ : TK} {σx σm : FH} {n k i : Nat} (hq : qOK q) (hL : L ≤ 3) (hLL : LL = if L = 1 then 2 else L) (ih : LvP (L + 1) d) (hD : 6 * (5 - d) + (5 - (L + 1)) + 1 ≤ D) (hb : d = 0 ∨ ¬ σm0.1 13 d = 1) (J : JP q t τ0 C I LL d σx0 σm0 C' I' v τ σx σm) (hop : opx L t τ ≠ 0) (hc : L = 1 → σm.1 14 d = 0) (hn : t.1 < n + τ.2.1) (hi : i < 1000) :
    JF q σx0 σm0 (fX2_readLevel_33 (fX2_readLevel D) q (nI L) (nI d) K8 (k + 2) 1 (opx L t τ) (nI i) σx) (fX12_reads_11 n (nI d) 0 σm) ∨ ∃ (C2 I2 : List Int32) (v2 : EVV) (τ2 : TK) (σx3 σm2 : FH) (n2 : Nat), JP q t τ0 C I L d σx0 σm0 C2 I2 v2 τ2 σx3 σm2 ∧ TLc (L + 1) d t τ2 σm2 ∧ (L = 1 → σm2.1 14 d = 1) ∧ t.1 < n2 + τ2.2.1 ∧ τ.2.1 < τ2.2.1 ∧ fX12_reads_11 n (nI d) 0 σm = fX12_reads_11 n2 (nI d) 0 σm2 ∧ fX2_readLevel_33 (fX2_readLevel D) q (nI L) (nI d) K8 (k + 2) 1 (opx L t τ) (nI i) σx = fX2_readLevel_33 (fX2_readLevel D) q (nI L) (nI d) K8 (k + 1) 1 (if L = 1 then 0 else opx L t τ2) (nI (i + 1)) σx3 := by
  have hq' : q = 25 ∨ q = 36 := hq
  obtain ⟨j1, j2, j3, j4, j5, j6, j7, j8, j9, j10, j11⟩ := J
  have hk := opx_k hL hop
  have hT := j2.2.1
  have hlt := (hT.2.2.2.1 hk).2
  have hle := hT.2.2.1
  have hL0 := j4.1.1.1
  obtain ⟨n, rfl⟩ : ∃ n', n = n' + 1 := ⟨n - 1, by omega⟩
  obtain ⟨σxa, ea, hxa, pa, ga⟩ := x_advC hq j2
  obtain ⟨σma, em, hma, o13, o14, o2, o1, o0, gm⟩ := m_op (n := n) j4 (by omega) hL hop hc
  have hhead : ∀ r σ', fX2_readLevel D q (nI (L + 1)) (nI d) σxa = some (r, σ') → fX2_readLevel_33 (fX2_readLevel D) q (nI L) (nI d) K8 (k + 2) 1 (opx L t τ) (nI i) σx = fxBV (fX1_put q (opx L t τ) σ') fun σ29 => if nI L = 1 then fX2_readLevel_33 (fX2_readLevel D) q (nI L) (nI d) K8 (k + 1) r 0 (nI (i + 1)) σ29 else fxBP (fX2_stepHere (nI L) σ29) fun r32 => fX2_readLevel_33 (fX2_readLevel D) q (nI L) (nI d) K8 (k + 1) r r32 (nI (i + 1)) σ29 := by
    intro r σ' e
    rw [fX2_readLevel_33, if_neg (show ¬ (1000 : Int32) ≤ nI i from le_no (b := 1000) hi (by decide)), if_neg (by decide), if_neg hop, ea, fxBV_s, nI_1, e, fxBI_s, nI_1]
  rcases ih D q t _ (C ++ C') ((I ++ I') ++ [opm L t τ]) σxa σma n hq hD hxa hma (by rw [o13, j9 d (Nat.le_refl d)]; exact hb) (fun z => o0 (by omega)) (by omega) with F | G
  · obtain ⟨e, σx', σm', e0, e1, r1, r2, r3, r4, r5, r6⟩ := F
    obtain ⟨σx2, ep, gp⟩ := x_put_any hq (opx L t τ) σx'
    refine Or.inl ⟨e, σx2, σm', e0, e1, ?_, ?_, gX_tr j3 (gX_tr (gX_fA ga) (gX_tr r3 (gX_gP gp))), em.trans r4, r5, gM_tr j5 (gM_tr gm r6)⟩
    · rw [hhead _ _ r1, ep, fxBV_s]
      by_cases c : nI L = 1
      · rw [if_pos c, lv33_0]
      · obtain ⟨r, er⟩ := x_step_any hL σx2
        rw [if_neg c, er, fxBP_s, lv33_0]
    · rw [gp.1 3 8 (by omega) (by omega)]; exact r2
  · obtain ⟨C2, I2, v2, τ2, σx2, σm2, n2, ⟨g1, g2, g3, g4, g5, g6, g7, g8, g9, g10, g11⟩, r1, r2, r3, r4⟩ := G
    have hl2 := g2.2.2.2.2.2
    have hT2 := g2.2.1
    have t1 := hT2.2.1
    have t2 := hT2.2.2.1
    have hxl := j2.2.2.2.2.2
    have hlen : (C ++ C' ++ C2).length < 1000 := by
      rw [List.length_append] at hl2 ⊢
      have := List.length_append (as := C) (bs := C')
      omega
    obtain ⟨σx3, ep, l3, c3, gp⟩ := x_putC hq g2.2.2.2.1 g2.2.2.2.2.1 hlen (opx L t τ)
    have eC : C ++ C' ++ C2 ++ [opx L t τ] = C ++ (C' ++ (C2 ++ [opx L t τ])) := by simp only [List.append_assoc]
    have eI : I ++ I' ++ [opm L t τ] ++ I2 = I ++ (I' ++ opm L t τ :: I2) := by simp only [List.append_assoc, List.singleton_append]
    rw [eC] at l3 c3
    rw [eI] at g4
    have hLLH : HL LL d ≤ HL L d := by
      unfold HL
      by_cases c : L = 1
      · rw [if_pos c] at hLL; omega
      · rw [if_neg c] at hLL; omega
    refine Or.inr ⟨C' ++ (C2 ++ [opx L t τ]), I' ++ opm L t τ :: I2, fun ev => cmb (opx L t τ) (v ev) (v2 ev), τ2, σx3, σm2, n2, ⟨j1, ⟨XT_gP hq g2.1 gp, hT2, by rw [gp.1 3 8 (by omega) (by omega)]; exact g2.2.2.1, l3, c3, ?_⟩, gX_tr j3 (gX_tr (gX_fA ga) (gX_tr g3 (gX_gP gp))), g4, gM_tr j5 (gM_tr gm g5), ?_, ?_, ?_, ?_, ?_, ?_⟩, r4, ?_, r3, ?_, em.trans r2, ?_⟩
    · simp only [List.length_append, List.length_cons, List.length_nil] at hxl hl2 ⊢
      omega
    · simp only [List.length_append, List.length_cons, List.length_nil]
      omega
    · exact sp_bin (opx_lt hL hop) (by unfold HL; omega) (sp_mono hLLH j7) g7
    · exact sl_bin hL hLL hop j8 g8
    · exact fun z hz => (g9 z hz).trans ((o13 z).trans (j9 z hz))
    · exact fun z hz => (g10 z hz).trans ((o14 z hz).trans (j10 z hz))
    · intro z
      have hne : ¬ L = 1 := by omega
      rw [if_neg hne] at hLL
      exact (g11 (by omega)).trans ((o2 z).trans (j11 (by omega)))
    · intro z
      exact (g11 (by omega)).trans (o1 z)
    · have := g6; omega
    · rw [hhead _ _ r1, ep, fxBV_s]
      by_cases c : L = 1
      · rw [if_pos (by rw [nI_L1 hL]; exact c), if_pos c]
      · rw [if_neg (by rw [nI_L1 hL]; exact c), if_neg c, x_stepHere (XT_gP hq g2.1 gp) hT2 hL, fxBP_s]
theorem tlc_down {L d : Nat} {t : TP} {τ : TK} {σ : FH} (h : TLc (L + 1) d t τ σ) (h0 : opx L t τ = 0) : TLc L d t τ σ := by
  obtain ⟨h1, h2, h3, h4⟩ := h
  refine ⟨fun z => ?_, fun z => ?_, fun z => ?_, fun z => ?_⟩
  · by_cases c : L = 3
    · subst c; exact h0
    · exact h1 (by omega)
  · by_cases c : L = 2
    · subst c; exact h0
    · exact h2 (by omega)
  · by_cases c : L = 1
    · subst c; exact Or.inl h0
    · exact h3 (by omega)
  · subst z; exact h0
theorem lp_loop {q : Nat} {t : TP} {τ0 : TK} {C I : List Int32} {L d D : Nat} {σx0 σm0 : FH} (hq : qOK q) (hL : L ≤ 3) (hL1 : L ≠ 1) (ih : LvP (L + 1) d) (hD : 6 * (5 - d) + (5 - (L + 1)) + 1 ≤ D) (hb : d = 0 ∨ ¬ σm0.1 13 d = 1) : ∀ (m k i n : Nat) (C' I' : List Int32) (v : EVV) (τ : TK) (σx σm : FH), t.1 < m + τ.2.1 → m + 1 < k → i ≤ τ.2.1 → JP q t τ0 C I L d σx0 σm0 C' I' v τ σx σm → TLc (L + 1) d t τ σm → t.1 < n + τ.2.1 → JF q σx0 σm0 (fX2_readLevel_33 (fX2_readLevel D) q (nI L) (nI d) K8 k 1 (opx L t τ) (nI i) σx) (fX12_reads_11 n (nI d) 0 σm) ∨ JG q t τ0 C I L d d σx0 σm0 (fX2_readLevel_33 (fX2_readLevel D) q (nI L) (nI d) K8 k 1 (opx L t τ) (nI i) σx) (fX12_reads_11 n (nI d) 0 σm)
  | 0, k, i, n, C', I', v, τ, σx, σm, h1, _, _, J, _, _ => absurd h1 (by have := J.2.1.2.1.2.1; have := J.2.1.2.1.2.2.1; omega)
  | m + 1, k, i, n, C', I', v, τ, σx, σm, h1, h2, h3, J, T, hn => by
    obtain ⟨k, rfl⟩ : ∃ k', k = k' + 2 := ⟨k - 2, by omega⟩
    by_cases c : opx L t τ = 0
    · rw [c, lv33_s]
      exact Or.inr ⟨C', I', v, τ, σx, σm, n, J, rfl, rfl, hn, tlc_down T c⟩
    · have hk := (J.2.1.2.1.2.2.2.1 (opx_k hL c)).1
      have hL0 := J.2.2.2.1.1.1.1
      rcases jp_step (n := n) (k := k) (i := i) (LL := L) hq hL (by rw [if_neg hL1]) ih hD hb J c (fun z => absurd z hL1) hn (by omega) with F | ⟨C2, I2, v2, τ2, σx3, σm2, n2, J2, T2, -, hn2, hlt, em, ex⟩
      · exact Or.inl F
      · rw [ex, em, if_neg hL1]
        exact lp_loop hq hL hL1 ih hD hb m (k + 1) (i + 1) n2 C2 I2 v2 τ2 σx3 σm2 (by omega) (by omega) (by omega) J2 T2 hn2
theorem lv_ch {Q : (Int32 → FH → Option (Int32 × FH)) → Nat → Int32 → Int32 → Int32 → FH → Option (Int32 × FH)} {o : Option (Int32 × FH)} {s : FH → Option Int32} {k : Int32 → FH → Option (Int32 × FH)} {F : Nat} {z : Int32} : (fxBI o fun r3 σ4 => fxBP (s σ4) fun r6 => fxL k fun K => Q K F r3 r6 z σ4) = fxBI o fun r3 σ4 => fxBP (s σ4) fun r6 => Q k F r3 r6 z σ4 := rfl
theorem lp_level {L d : Nat} (hL : L ≤ 3) (ih : LvP (L + 1) d) : LvP L d := by
  intro D q t τ C I σx σm n hq hD hx hm hb hc hn
  obtain ⟨D, rfl⟩ : ∃ D', D = D' + 1 := ⟨D - 1, by omega⟩
  have h3 : nI L ≤ 3 := nI_le (b := 3) hL (by decide)
  have eq : fX2_readLevel (D + 1) q (nI L) (nI d) σx = fxBI (fX2_readLevel D q (nI (L + 1)) (nI d) σx) fun r3 σ4 => fxBP (fX2_stepHere (nI L) σ4) fun r6 => fX2_readLevel_33 (fX2_readLevel D) q (nI L) (nI d) K8 FU r3 r6 0 σ4 := by
    rw [x_level_eq]
    unfold bX2_readLevel
    rw [fxG_t (qOK_L hq), if_pos h3, nI_1]
    exact lv_ch (Q := fX2_readLevel_33 (fX2_readLevel D) q (nI L) (nI d)) (s := fX2_stepHere (nI L)) (k := K8)
  rcases ih D q t τ C I σx σm n hq (by omega) hx hm hb (fun z => hc (by omega)) hn with F | G
  · obtain ⟨e, σx', σm', e0, e1, r1, r2, r3, r4, r5, r6⟩ := F
    obtain ⟨r, er⟩ := x_step_any hL σx'
    refine Or.inl ⟨e, σx', σm', e0, e1, ?_, r2, r3, r4, r5, r6⟩
    rw [eq, r1, fxBI_s, er, fxBP_s, show FU = 4999 + 1 from rfl, lv33_0]
  · obtain ⟨C1, I1, v1, τ1, σx1, σm1, n1, J, r1, r2, r3, r4⟩ := G
    have ex : fX2_readLevel (D + 1) q (nI L) (nI d) σx = fX2_readLevel_33 (fX2_readLevel D) q (nI L) (nI d) K8 FU 1 (opx L t τ1) (nI 0) σx1 := by
      rw [eq, r1, fxBI_s, x_stepHere J.2.1.1 J.2.1.2.1 hL, fxBP_s, ← n0]
    have hle1 := J.2.1.2.1.2.1
    have hle2 := J.2.1.2.1.2.2.1
    have hL0 := J.2.2.2.1.1.1.1
    rw [ex, r2]
    by_cases hL1 : L = 1
    · subst hL1
      have hc1 : σm1.1 14 d = 0 := by
        obtain ⟨j1, j2, j3, j4, j5, j6, j7, j8, j9, j10, j11⟩ := J
        rw [j11 (by decide)]; exact hc (by decide)
      have J' : JP q t τ C I 1 d σx σm C1 I1 v1 τ1 σx1 σm1 := by
        obtain ⟨j1, j2, j3, j4, j5, j6, j7, j8, j9, j10, j11⟩ := J
        exact ⟨j1, j2, j3, j4, j5, j6, sp_mono (by unfold HL; omega) j7, sl_one (by decide) j8, j9, j10, fun z => absurd z (by decide)⟩
      by_cases c : opx 1 t τ1 = 0
      · rw [c, show FU = 4999 + 1 from rfl, lv33_s]
        exact Or.inr ⟨C1, I1, v1, τ1, σx1, σm1, n1, J', rfl, rfl, r3, tlc_down r4 c⟩
      · rcases jp_step (D := D) (n := n1) (k := 4998) (i := 0) (LL := 2) hq hL rfl ih (by omega) hb J c (fun _ => hc1) r3 (by decide) with F | ⟨C2, I2, v2, τ2, σx3, σm2, n2, J2, T2, h14, hn2, hlt, em, ex2⟩
        · exact Or.inl F
        · have ex3 : fX2_readLevel_33 (fX2_readLevel D) q (nI 1) (nI d) K8 FU 1 (opx 1 t τ1) (nI 0) σx1 = some (1, σx3) := by
            rw [show FU = 4998 + 2 from rfl, ex2, if_pos rfl, lv33_s]
          rw [ex3, em]
          exact Or.inr ⟨C2, I2, v2, τ2, σx3, σm2, n2, J2, rfl, rfl, hn2, ⟨fun _ => T2.1 (by decide), fun _ => T2.2.1 (by decide), fun _ => Or.inr (h14 rfl), fun z => absurd z (by decide)⟩⟩
    · have J' : JP q t τ C I L d σx σm C1 I1 v1 τ1 σx1 σm1 := by
        obtain ⟨j1, j2, j3, j4, j5, j6, j7, j8, j9, j10, j11⟩ := J
        exact ⟨j1, j2, j3, j4, j5, j6, sp_mono (by unfold HL; omega) j7, sl_one hL j8, j9, j10, fun z => j11 (by omega)⟩
      exact lp_loop hq hL hL1 ih (by omega) hb 1001 FU 0 n1 C1 I1 v1 τ1 σx1 σm1 (by omega) (by decide) (by omega) J' r4 r3
theorem lp_part {d : Nat} (h : PaP d) : LvP 4 d := by
  intro D q t τ C I σx σm n hq hD hx hm hb hc hn
  obtain ⟨D, rfl⟩ : ∃ D', D = D' + 1 := ⟨D - 1, by omega⟩
  have eq : fX2_readLevel (D + 1) q (nI 4) (nI d) σx = fxBI (fX2_readPart D q (nI d) σx) fun r36 σ37 => fxG (fx_bo r36 = true) (some (r36, σ37)) := by
    rw [x_level_eq]
    unfold bX2_readLevel
    rw [fxG_t (qOK_L hq), if_neg (by decide)]
  rcases h D q t τ C I σx σm n hq (by omega) hx hm hn with F | G
  · obtain ⟨e, σx', σm', e0, e1, r1, r2, r3, r4, r5, r6⟩ := F
    refine Or.inl ⟨e, σx', σm', e0, e1, ?_, r2, r3, r4, r5, r6⟩
    rw [eq, r1, fxBI_s, fxG_t bo0]
  · obtain ⟨C1, I1, v1, τ1, σx1, σm1, n1, J, r1, r2, r3, r4⟩ := G
    rw [pp_bse d hb] at r2
    refine Or.inr ⟨C1, I1, v1, τ1, σx1, σm1, n1, J, ?_, r2, r3, r4⟩
    rw [eq, r1, fxBI_s, fxG_t bo1]
/-- what a number, a fact is put as -/
def lfx (τ : TK) : Int32 := if fct τ = 0 then nI τ.2.2.2.2 else - nI (fct τ)
def lfv (τ : TK) : EVV := if fct τ = 0 then fun _ => nI τ.2.2.2.2 else fun ev => ev (fct τ)
theorem lf_s4 {t : TP} {τ : TK} {d : Nat} (ho : TKok t τ) (h : fct τ = 0 → τ.1 = 2) : S4 d [lfm τ] (lfv τ) ∧ Sp 1 [lfx τ] (lfv τ) := by
  have h4 := fct_4 τ
  unfold lfm lfx lfv
  by_cases c : fct τ = 0
  · rw [if_pos c, if_pos c, if_pos c]
    have := ho.2.2.2.2.2.1 (h c)
    exact ⟨s4_num this, sp_num this⟩
  · rw [if_neg c, if_neg c, if_neg c]
    exact ⟨s4_fact (by omega) h4, sp_fact (by omega) h4⟩
theorem tlc4 {d : Nat} {t : TP} {τ : TK} {σ : FH} : TLc 4 d t τ σ := ⟨fun z => absurd z (by decide), fun z => absurd z (by decide), fun z => absurd z (by decide), fun z => absurd z (by decide)⟩
theorem pp_step {d : Nat} (hd : d ≤ 5) (ihP : d < 5 → PaP (d + 1)) (ihL : d < 5 → LvP 0 (d + 1)) : PaP d := by
  intro D q t τ C I σx σm n hq hD hx hm hn
  have hq' : q = 25 ∨ q = 36 := hq
  obtain ⟨D, rfl⟩ : ∃ D', D = D' + 1 := ⟨D - 1, by omega⟩
  have hT := hx.2.1
  have hT1 := hT.2.1
  have hT2 := hT.2.2.1
  have hL0 := hm.1.1.1
  obtain ⟨n, rfl⟩ : ∃ n', n = n' + 1 := ⟨n - 1, by omega⟩
  by_cases hp : pst t τ
  · have hk := pst_1 hp
    have hlt := (hT.2.2.2.1 hk).2
    have hlt1 := (hT.2.2.2.1 hk).1
    by_cases h5 : d = 5
    · subst h5
      refine Or.inl ⟨5 + 16 * τ.2.1, fx_si σx 3 8 (nI (5 + 16 * τ.2.1)), _, by omega, by omega, ?_, ?_, gX_w, m_part_f5 hm hp, ?_, gM_si (Or.inl ⟨rfl, Or.inl ⟨by decide, by decide⟩⟩)⟩
      · rw [x_part_g hq hx hp, xpt, if_neg (by decide), x_wrong hx.1 hx.2.2.1 5 (x := 5) rfl, fxBI_s, fxG_t bo0]
      · rw [si1, if_pos ⟨rfl, rfl⟩]
      · rw [si1, if_pos ⟨rfl, rfl⟩]
    · have hd5 : d < 5 := by omega
      have hd5' : nI d < 5 := nI_lt (b := 5) hd5 (by decide)
      by_cases hw : wx τ = 17
      · obtain ⟨σx1, ea, hx1, pa, ga⟩ := x_advC hq hx
        obtain ⟨σm1, em, hm1, o1, c1, os, cs, gm⟩ := m_part_push (n := n) hm hd5 (Or.inl hw)
        rw [if_pos hw] at hm1 o1
        have hpp : pp (σm1.1 13) (d + 1) = pp (σm.1 13) d := by rw [pp, if_pos o1]; exact pp_eq d os
        rcases ihP hd5 D q t _ C (I ++ [30]) σx1 σm1 n hq (by omega) hx1 hm1 (by omega) with F | G
        · obtain ⟨e, σx', σm', e0, e1, r1, r2, r3, r4, r5, r6⟩ := F
          obtain ⟨σx2, ep, gp⟩ := x_put_any hq (-5) σx'
          refine Or.inl ⟨e, σx2, σm', e0, e1, ?_, ?_, gX_tr (gX_fA ga) (gX_tr r3 (gX_gP gp)), em.trans r4, r5, gM_tr gm r6⟩
          · rw [x_part_g hq hx hp, xpt, if_pos hd5', b1 hw, io, ea, fxBV_s, nI_1, r1, fxBI_s, ep, fxBV_s, fxG_t bo0]
          · rw [gp.1 3 8 (by omega) (by omega)]; exact r2
        · obtain ⟨C1, I1, v1, τ1, σx2, σm2, n2, ⟨g1, g2, g3, g4, g5, g6, g7, g8, g9, g10, g11⟩, r1, r2, r3, r4⟩ := G
          have hl2 := g2.2.2.2.2.2
          have t1 := g2.2.1.2.1
          have t2 := g2.2.1.2.2.1
          have hxl := hx.2.2.2.2.2
          have hlen : (C ++ C1).length < 1000 := by
            rw [List.length_append]
            omega
          obtain ⟨σx3, ep, l3, c3, gp⟩ := x_putC hq g2.2.2.2.1 g2.2.2.2.2.1 hlen (-5)
          rw [List.append_assoc] at l3 c3 g4
          rw [hpp] at r2
          refine Or.inr ⟨C1 ++ [-5], 30 :: I1, fun ev => ngt (v1 ev), τ1, σx3, σm2, n2, ⟨by omega, ⟨XT_gP hq g2.1 gp, g2.2.1, by rw [gp.1 3 8 (by omega) (by omega)]; exact g2.2.2.1, l3, c3, ?_⟩, gX_tr (gX_fA ga) (gX_tr g3 (gX_gP gp)), g4, gM_tr gm g5, ?_, sp_mono (by unfold HL; omega) (sp_not g7), s4_not (by omega) g8, fun z hz => (g9 z (by omega)).trans (os z hz), fun z hz => (g10 z (by omega)).trans (cs z (by omega)), fun _ => (g10 d (by omega)).trans (cs d (Nat.le_refl d))⟩, ?_, em.trans r2, r3, tlc4⟩
          · simp only [List.length_append, List.length_cons, List.length_nil]
            omega
          · simp only [List.length_append, List.length_cons, List.length_nil]
            omega
          · rw [x_part_g hq hx hp, xpt, if_pos hd5', b1 hw, io, ea, fxBV_s, nI_1, r1, fxBI_s, ep, fxBV_s, fxG_t bo1]
      · by_cases hs : sx t τ = 40
        · obtain ⟨σx1, ea, hx1, pa, ga⟩ := x_advC hq hx
          obtain ⟨σm1, em, hm1, o1, c1, os, cs, gm⟩ := m_part_push (n := n) hm hd5 (Or.inr hs)
          rw [if_neg hw] at hm1 o1
          have hxe : fX2_readPart (D + 1) q (nI d) σx = fxBI (fX2_readLevel D q (nI 0) (nI (d + 1)) σx1) fun r29 σ30 => if r29 = 0 then some ((0 : Int32), σ30) else fxBP (fX9_isSign 41 σ30) fun r33 => if r33 = 0 then (fxBI (fX9_wrong 1 σ30) fun r37 σ38 => fxG (fx_bo r37 = true) (some (r37, σ38))) else fxBV (fX9_advance σ30) fun σ17 => some ((1 : Int32), σ17) := by
            rw [x_part_g hq hx hp, xpt, if_pos hd5', b0 hw, b1 hs, iz, io, ea, fxBV_s, nI_1]
            rfl
          rcases ihL hd5 D q t _ C (I ++ [28]) σx1 σm1 n hq (by omega) hx1 hm1 (Or.inr (by rw [o1]; decide)) (fun _ => c1) (by omega) with F | G
          · obtain ⟨e, σx', σm', e0, e1, r1, r2, r3, r4, r5, r6⟩ := F
            refine Or.inl ⟨e, σx', σm', e0, e1, ?_, r2, gX_tr (gX_fA ga) r3, em.trans r4, r5, gM_tr gm r6⟩
            rw [hxe, r1, fxBI_s, if_pos rfl]
          · obtain ⟨C1, I1, v1, τ1, σx2, σm2, n2, ⟨g1, g2, g3, g4, g5, g6, g7, g8, g9, g10, g11⟩, r1, r2, r3, r4⟩ := G
            have t1 := g2.2.1.2.1
            have t2 := g2.2.1.2.2.1
            obtain ⟨n2, rfl⟩ : ∃ n', n2 = n' + 1 := ⟨n2 - 1, by omega⟩
            by_cases hcl : sx t τ1 = 41
            · have hk1 : τ1.1 ≠ 1 := by rw [sx_1 (t := t) (τ := τ1) (by omega)]; decide
              have hlt2 := (g2.2.1.2.2.2.1 hk1).2
              obtain ⟨σx3, ea3, hx3, pa3, ga3⟩ := x_advC hq g2
              obtain ⟨σm3, em3, hm3, os3, cs3, gm3⟩ := m_close (n := n2) (d := d) g4 (by omega) hcl
              have hpp : pp (σm2.1 13) d = pp (σm.1 13) d := pp_eq d (fun z hz => (g9 z (by omega)).trans (os z hz))
              rw [hpp] at em3
              have eI : I ++ [28] ++ I1 ++ [29] = I ++ 28 :: (I1 ++ [29]) := by simp
              rw [eI] at hm3
              refine Or.inr ⟨C1, 28 :: (I1 ++ [29]), v1, _, σx3, σm3, n2, ⟨by omega, hx3, gX_tr (gX_fA ga) (gX_tr g3 (gX_fA ga3)), hm3, gM_tr gm (gM_tr g5 gm3), ?_, sp_mono (by unfold HL; omega) g7, s4_par (by omega) g8, fun z hz => (os3 z).trans ((g9 z (by omega)).trans (os z hz)), fun z hz => (cs3 z).trans ((g10 z (by omega)).trans (cs z (by omega))), fun _ => (cs3 d).trans ((g10 d (by omega)).trans (cs d (Nat.le_refl d)))⟩, ?_, em.trans (r2.trans em3), ?_, tlc4⟩
              · omega
              · rw [hxe, r1, fxBI_s, if_neg (by decide), x_isSign g2.1 g2.2.1 41 (by decide) (by decide) (x := 41) rfl, fxBP_s, b1 hcl, io, ea3, fxBV_s]
              · omega
            · refine Or.inl ⟨1 + 16 * τ1.2.1, fx_si σx2 3 8 (nI (1 + 16 * τ1.2.1)), _, by omega, by omega, ?_, ?_, gX_tr (gX_fA ga) (gX_tr g3 gX_w), em.trans (r2.trans (m_bad g4 (by omega) (r4.1 (by decide)) (r4.2.1 (by decide)) (r4.2.2.1 (by decide)) (r4.2.2.2 rfl) (fun z => absurd z hcl) (fun _ => Nat.succ_ne_zero d))), ?_, gM_tr gm (gM_tr g5 (gM_si (Or.inl ⟨rfl, Or.inl ⟨by decide, by decide⟩⟩)))⟩
              · rw [hxe, r1, fxBI_s, if_neg (by decide), x_isSign g2.1 g2.2.1 41 (by decide) (by decide) (x := 41) rfl, fxBP_s, b0 hcl, iz, x_wrong g2.1 g2.2.2.1 1 (x := 1) rfl, fxBI_s, fxG_t bo0]
              · rw [si1, if_pos ⟨rfl, rfl⟩]
              · rw [si1, if_pos ⟨rfl, rfl⟩]
        · have hf2 : fct τ = 0 → τ.1 = 2 := fun z => by rcases hp with y | y | y | y; exact absurd z y; exact absurd y hw; exact absurd y hs; exact y
          obtain ⟨σm1, em, hm1, os, cs, gm⟩ := m_part_leaf (n := n) hm hd5 hp hw hs
          have hxl := hx.2.2.2.2.2
          obtain ⟨σx1, ep, l1, c1, gp⟩ := x_putC hq hx.2.2.2.1 hx.2.2.2.2.1 (by omega) (lfx τ)
          obtain ⟨σx2, ea, k2, o2, p2, ga⟩ := x_adv (XT_gP hq hx.1 gp) hT
          have ev : (if - nI (fct τ) = 0 then (σx.1 3 5) else - nI (fct τ)) = lfx τ := by
            unfold lfx
            by_cases c : fct τ = 0
            · rw [if_pos (by rw [nfct]; exact c), if_pos c, hx.1.2.2.2.2.2.1 (hf2 c)]
            · rw [if_neg (by rw [nfct]; exact c), if_neg c]
          obtain ⟨s1, s2⟩ := lf_s4 (d := d) hT hf2
          refine Or.inr ⟨[lfx τ], [lfm τ], lfv τ, _, σx2, σm1, n, ⟨by omega, ⟨k2, o2, by rw [ga.1 3 8 (by omega), gp.1 3 8 (by omega) (by omega)]; exact hx.2.2.1, by rw [ga.1 q 1 (by omega)]; exact l1, CD_fr _ _ c1 (fun z _ _ => ga.1 (q + 1) z (by omega)), ?_⟩, gX_tr (gX_gP gp) (gX_fA ga), hm1, gm, ?_, sp_mono (by unfold HL; omega) s2, s1, fun z _ => os z, fun z _ => cs z, fun _ => cs d⟩, ?_, em, by omega, tlc4⟩
          · simp only [List.length_append, List.length_cons, List.length_nil]
            omega
          · simp only [List.length_cons, List.length_nil]
            omega
          · rw [x_part_g hq hx hp, xpt, if_pos hd5', b0 hw, b0 hs, iz, iz, ev, ep, fxBV_s, ea, fxBV_s]
  · have h1 : fct τ = 0 := Classical.byContradiction fun z => hp (Or.inl z)
    have h2 : wx τ ≠ 17 := fun z => hp (Or.inr (Or.inl z))
    have h3 : sx t τ ≠ 40 := fun z => hp (Or.inr (Or.inr (Or.inl z)))
    have h4 : τ.1 ≠ 2 := fun z => hp (Or.inr (Or.inr (Or.inr z)))
    refine Or.inl ⟨1 + 16 * τ.2.1, _, _, by omega, by omega, x_part_f1 hq hx h1 h2 h3 h4, ?_, gX_w, m_part_f1 hm h1 h2 h3 h4, ?_, gM_si (Or.inl ⟨rfl, Or.inl ⟨by decide, by decide⟩⟩)⟩
    · rw [si1, if_pos ⟨rfl, rfl⟩]
    · rw [si1, if_pos ⟨rfl, rfl⟩]
theorem lp_down {d : Nat} (h : PaP d) : LvP 0 d := lp_level (by decide) (lp_level (by decide) (lp_level (by decide) (lp_level (by decide) (lp_part h))))
theorem pp_all : ∀ k d, d + k = 5 → PaP d
  | 0, d, h => pp_step (by omega) (fun z => absurd z (by omega)) (fun z => absurd z (by omega))
  | k + 1, d, h => pp_step (by omega) (fun _ => pp_all k (d + 1) (by omega)) (fun _ => lp_down (pp_all k (d + 1) (by omega)))
theorem lp_0 : LvP 0 0 := lp_down (pp_all 5 0 rfl)
