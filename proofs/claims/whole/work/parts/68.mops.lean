/-! ===== reading a law: the reference behind a part ===== -/
theorem iz {β : Type} (a b : β) : (if (0 : Int32) = 0 then a else b) = a := if_pos rfl
theorem io {β : Type} (a b : β) : (if (1 : Int32) = 0 then a else b) = b := if_neg (by decide)
/-- which step of a level stands here, as the class puts it; as the reference does -/
def opx (L : Nat) (t : TP) (τ : TK) : Int32 := if L = 0 then (if wx τ = 18 then -6 else if wx τ = 19 then -7 else 0) else if L = 1 then (if sx t τ = 60 then -8 else if sx t τ = 61 then -9 else 0) else if L = 2 then (if sx t τ = 43 then -10 else if sx t τ = 45 then -11 else 0) else (if sx t τ = 42 then -12 else 0)
def opm (L : Nat) (t : TP) (τ : TK) : Int32 := if L = 0 then (if wx τ = 18 then 26 else 27) else if L = 1 then (if sx t τ = 60 then 24 else 25) else if L = 2 then (if sx t τ = 43 then 20 else 21) else 22
theorem opx_0 (t : TP) (τ : TK) : opx 0 t τ = if wx τ = 18 then -6 else if wx τ = 19 then -7 else 0 := rfl
theorem opx_1 (t : TP) (τ : TK) : opx 1 t τ = if sx t τ = 60 then -8 else if sx t τ = 61 then -9 else 0 := rfl
theorem opx_2 (t : TP) (τ : TK) : opx 2 t τ = if sx t τ = 43 then -10 else if sx t τ = 45 then -11 else 0 := rfl
theorem opx_3 (t : TP) (τ : TK) : opx 3 t τ = if sx t τ = 42 then -12 else 0 := rfl
/-- what the reference does behind a part, by what stands there -/
def rdF (σ : FH) : Option (Int32 × FH) := fxBI (fX12_fails 1 σ) fun r72 σ73 => fxG (fx_bo r72 = true) (some (r72, σ73))
def rdJ (n : Nat) (w3 : Int32) (σ : FH) (y : Int32) : Option (Int32 × FH) := fxBV (fX12_puts y σ) fun σ27 => fxBV (fX12_nextToken σ27) fun σ18 => fX12_reads_11 n w3 1 σ18
def rdB (n : Nat) (w3 : Int32) (σ : FH) (y f : Int32) : Option (Int32 × FH) := fxBV (fX12_puts y σ) fun σ58 => fxG (fx_in w3 7 = true) (fxBV (fX12_nextToken (fx_si σ58 14 (Int32.toNatClampNeg w3) (vp_nar .boolean f))) fun σ18 => fX12_reads_11 n w3 1 σ18)
def rdT (w3 : Int32) (σ : FH) (s59 : Int32) : Option (Int32 × FH) := if w3 = 0 then (if s59 = 0 then rdF σ else fxBV (fX12_nextToken σ) fun σ82 => some ((1 : Int32), σ82)) else rdF σ
def rdC (n : Nat) (w3 : Int32) (σ : FH) : Option (Int32 × FH) := fxBV (fX12_puts 29 σ) fun σ87 => fX12_reads_379 σ87 (fun x89 => fxBV (fX12_nextToken σ87) fun σ92 => fX12_reads_11 n x89 0 σ92) FU (w3 + (-1))
def rdL (n : Nat) (w3 : Int32) (σ : FH) (a o s41 s59 : Int32) : Option (Int32 × FH) := if a = 0 then (if o = 0 then (if s41 = 0 then rdT w3 σ s59 else (if w3 ≤ 0 then rdT w3 σ s59 else rdC n w3 σ)) else rdB n w3 σ (if a = 0 then 27 else 26) 0) else rdB n w3 σ (if a = 0 then 27 else 26) 0
def rdK (n : Nat) (w3 : Int32) (σ : FH) (s60 a o s41 s59 : Int32) : Option (Int32 × FH) := fxG (fx_in w3 7 = true) (if (σ.1 14 (Int32.toNatClampNeg w3)) = 0 then rdB n w3 σ (if s60 = 0 then 25 else 24) 1 else rdL n w3 σ a o s41 s59)
def rdO (n : Nat) (w3 : Int32) (σ : FH) (s43 s45 : Int32) : Option (Int32 × FH) := if s43 = 0 then (if s45 = 0 then rdJ n w3 σ 22 else rdJ n w3 σ 21) else rdJ n w3 σ 20
def rd0 (n : Nat) (w3 : Int32) (σ : FH) (s43 s45 s42 s60 s61 a o s41 s59 : Int32) : Option (Int32 × FH) := if s43 = 0 then (if s45 = 0 then (if s42 = 0 then (if s60 = 0 then (if s61 = 0 then rdL n w3 σ a o s41 s59 else rdK n w3 σ s60 a o s41 s59) else rdK n w3 σ s60 a o s41 s59) else rdO n w3 σ s43 s45) else rdO n w3 σ s43 s45) else rdO n w3 σ s43 s45
set_option maxHeartbeats 4000000 in
theorem rd0_eq {n : Nat} {w3 : Int32} {σ : FH} {s43 s45 s42 s60 s61 a o s41 s59 : Int32} (h43 : fX12_isSign 43 σ = some s43) (h45 : fX12_isSign 45 σ = some s45) (h42 : fX12_isSign 42 σ = some s42) (h60 : fX12_isSign 60 σ = some s60) (h61 : fX12_isSign 61 σ = some s61) (ha : fX12_isWord 1111 σ = some a) (ho : fX12_isWord 423 σ = some o) (h41 : fX12_isSign 41 σ = some s41) (h59 : fX12_isSign 59 σ = some s59) : fX12_reads_11 (n + 1) w3 0 σ = rd0 n w3 σ s43 s45 s42 s60 s61 a o s41 s59 := by
  rw [fX12_reads_11, if_pos rfl, h43, h45, h42, h60, h61, ha, ho, h41, h59]
  rfl
theorem b0 {P : Prop} [Decidable P] (h : ¬ P) : bv (decide P) = 0 := by rw [decide_eq_false h]; rfl
theorem b1 {P : Prop} [Decidable P] (h : P) : bv (decide P) = 1 := by rw [decide_eq_true h]; rfl
section MO
variable {σ : FH} {t : TP} {τ : TK} {I : List Int32} {n d : Nat}
theorem rdm (h : MC σ t τ I) {w3 : Int32} : fX12_reads_11 (n + 1) w3 0 σ = rd0 n w3 σ (bv (decide (sx t τ = 43))) (bv (decide (sx t τ = 45))) (bv (decide (sx t τ = 42))) (bv (decide (sx t τ = 60))) (bv (decide (sx t τ = 61))) (bv (decide (wx τ = 18))) (bv (decide (wx τ = 19))) (bv (decide (sx t τ = 41))) (bv (decide (sx t τ = 59))) :=
  rd0_eq (m_sg h 43 (by decide) (by decide) (x := 43) rfl) (m_sg h 45 (by decide) (by decide) (x := 45) rfl) (m_sg h 42 (by decide) (by decide) (x := 42) rfl) (m_sg h 60 (by decide) (by decide) (x := 60) rfl) (m_sg h 61 (by decide) (by decide) (x := 61) rfl) (m_wd h (a := 18) (x := 1111) (by decide) rfl) (m_wd h (a := 19) (x := 423) (by decide) rfl) (m_sg h 41 (by decide) (by decide) (x := 41) rfl) (m_sg h 59 (by decide) (by decide) (x := 59) rfl)
theorem wx_sx (h : wx τ ≠ 25) : sx t τ = 0 := by
  unfold sx
  rw [if_neg (by rw [wx_1 h]; decide)]
theorem sx_wx (h : sx t τ ≠ 0) : wx τ = 25 := by
  unfold wx
  rw [if_neg (by rw [sx_1 h]; decide)]
/-- + - * -/
theorem m_op23 (h : MC σ t τ I) (hs : sx t τ = 43 ∨ sx t τ = 45 ∨ sx t τ = 42) : ∃ σ', fX12_reads_11 (n + 1) (nI d) 0 σ = fX12_reads_11 n (nI d) 1 σ' ∧ MC σ' t (tkAt t τ.2.2.1) (I ++ [if sx t τ = 43 then 20 else if sx t τ = 45 then 21 else 22]) ∧ (∀ i, σ'.1 13 i = σ.1 13 i) ∧ (∀ i, σ'.1 14 i = σ.1 14 i) ∧ gM σ σ' := by
  have hk : τ.1 ≠ 1 := by rw [sx_1 (t := t) (by omega)]; decide
  obtain ⟨σ1, e1, k1, l1, c1, o1, q1, g1⟩ := m_puts h hk (if sx t τ = 43 then 20 else if sx t τ = 45 then 21 else 22)
  obtain ⟨σ3, e3, m3, g3⟩ := m_adv2 (I := I) k1 h.2.1 hk l1 c1 h.2.2.2.2
  refine ⟨σ3, ?_, m3, fun i => by rw [g3.1 13 _ (by omega), o1], fun i => by rw [g3.1 14 _ (by omega), q1], gM_tr g1 (gM_fN g3)⟩
  rw [rdm h, rd0, rdO]
  rcases hs with z | z | z
  · rw [if_pos z] at e1
    rw [b1 z, io, io, rdJ, e1, fxBV_s, e3, fxBV_s]
  · rw [if_neg (by omega), if_pos z] at e1
    rw [b0 (show ¬ sx t τ = 43 by omega), b1 z, iz, io, iz, io, rdJ, e1, fxBV_s, e3, fxBV_s]
  · rw [if_neg (by omega), if_neg (by omega)] at e1
    rw [b0 (show ¬ sx t τ = 43 by omega), b0 (show ¬ sx t τ = 45 by omega), b1 z, iz, iz, io, iz, iz, rdJ, e1, fxBV_s, e3, fxBV_s]
/-- < = -/
theorem m_op1 (h : MC σ t τ I) (hd : d < 6) (hs : sx t τ = 60 ∨ sx t τ = 61) (hc : σ.1 14 d = 0) : ∃ σ', fX12_reads_11 (n + 1) (nI d) 0 σ = fX12_reads_11 n (nI d) 1 σ' ∧ MC σ' t (tkAt t τ.2.2.1) (I ++ [if sx t τ = 60 then 24 else 25]) ∧ (∀ i, σ'.1 13 i = σ.1 13 i) ∧ (∀ i, i < d → σ'.1 14 i = σ.1 14 i) ∧ σ'.1 14 d = 1 ∧ gM σ σ' := by
  have hk : τ.1 ≠ 1 := by rw [sx_1 (t := t) (by omega)]; decide
  obtain ⟨σ1, e1, k1, l1, c1, o1, q1, g1⟩ := m_puts h hk (if sx t τ = 60 then 24 else 25)
  have hdi : fx_in (nI d) 7 = true := fx_inN (by omega) (by decide)
  have hdc : Int32.toNatClampNeg (nI d) = d := fx_clN (by omega)
  have k2 : MK (fx_si σ1 14 d 1) t τ := MK_fr k1 (fun j j1 j2 => by rw [si1, if_neg (by omega)]) (fun j => by rw [si1, if_neg (by omega)]) rfl
  obtain ⟨σ3, e3, m3, g3⟩ := m_adv2 (I := I) (c := if sx t τ = 60 then 24 else 25) k2 h.2.1 hk (by rw [si1, if_neg (by omega)]; exact l1) (CD_fr _ _ c1 (fun i _ _ => by rw [si1, if_neg (by omega)])) h.2.2.2.2
  refine ⟨σ3, ?_, m3, fun i => by rw [g3.1 13 _ (by omega), si1, if_neg (by omega), o1], fun i hi => by rw [g3.1 14 _ (by omega), si1, if_neg (by omega), q1], by rw [g3.1 14 _ (by omega), si1, if_pos ⟨rfl, rfl⟩], gM_tr g1 (gM_tr (gM_si (Or.inr (Or.inr (Or.inr rfl)))) (gM_fN g3))⟩
  rw [rdm h, rd0, b0 (show ¬ sx t τ = 43 by omega), b0 (show ¬ sx t τ = 45 by omega), b0 (show ¬ sx t τ = 42 by omega), iz, iz, iz]
  rcases hs with z | z
  · rw [if_pos z] at e1
    rw [b1 z, io, rdK, fxG_t hdi, hdc, if_pos hc, io, rdB, e1, fxBV_s, fxG_t hdi, hdc, nar1, e3, fxBV_s]
  · rw [if_neg (by omega)] at e1
    rw [b0 (show ¬ sx t τ = 60 by omega), b1 z, iz, io, rdK, fxG_t hdi, hdc, if_pos hc, iz, rdB, e1, fxBV_s, fxG_t hdi, hdc, nar1, e3, fxBV_s]
/-- and, or -/
theorem m_op0 (h : MC σ t τ I) (hd : d < 6) (hs : wx τ = 18 ∨ wx τ = 19) : ∃ σ', fX12_reads_11 (n + 1) (nI d) 0 σ = fX12_reads_11 n (nI d) 1 σ' ∧ MC σ' t (tkAt t τ.2.2.1) (I ++ [if wx τ = 18 then 26 else 27]) ∧ (∀ i, σ'.1 13 i = σ.1 13 i) ∧ (∀ i, i < d → σ'.1 14 i = σ.1 14 i) ∧ σ'.1 14 d = 0 ∧ gM σ σ' := by
  have hk : τ.1 ≠ 1 := by rw [wx_1 (τ := τ) (by omega)]; decide
  have hs0 : sx t τ = 0 := wx_sx (by omega)
  obtain ⟨σ1, e1, k1, l1, c1, o1, q1, g1⟩ := m_puts h hk (if wx τ = 18 then 26 else 27)
  have hdi : fx_in (nI d) 7 = true := fx_inN (by omega) (by decide)
  have hdc : Int32.toNatClampNeg (nI d) = d := fx_clN (by omega)
  have k2 : MK (fx_si σ1 14 d 0) t τ := MK_fr k1 (fun j j1 j2 => by rw [si1, if_neg (by omega)]) (fun j => by rw [si1, if_neg (by omega)]) rfl
  obtain ⟨σ3, e3, m3, g3⟩ := m_adv2 (I := I) (c := if wx τ = 18 then 26 else 27) k2 h.2.1 hk (by rw [si1, if_neg (by omega)]; exact l1) (CD_fr _ _ c1 (fun i _ _ => by rw [si1, if_neg (by omega)])) h.2.2.2.2
  refine ⟨σ3, ?_, m3, fun i => by rw [g3.1 13 _ (by omega), si1, if_neg (by omega), o1], fun i hi => by rw [g3.1 14 _ (by omega), si1, if_neg (by omega), q1], by rw [g3.1 14 _ (by omega), si1, if_pos ⟨rfl, rfl⟩], gM_tr g1 (gM_tr (gM_si (Or.inr (Or.inr (Or.inr rfl)))) (gM_fN g3))⟩
  rw [rdm h, rd0, b0 (show ¬ sx t τ = 43 by omega), b0 (show ¬ sx t τ = 45 by omega), b0 (show ¬ sx t τ = 42 by omega), b0 (show ¬ sx t τ = 60 by omega), b0 (show ¬ sx t τ = 61 by omega), iz, iz, iz, iz, iz, rdL]
  rcases hs with z | z
  · rw [if_pos z] at e1
    rw [b1 z, io, io, rdB, e1, fxBV_s, fxG_t hdi, hdc, nar0, e3, fxBV_s]
  · rw [if_neg (by omega)] at e1
    rw [b0 (show ¬ wx τ = 18 by omega), b1 z, iz, io, iz, rdB, e1, fxBV_s, fxG_t hdi, hdc, nar0, e3, fxBV_s]
/-- ) -/
theorem m_close (h : MC σ t τ I) (hd : d < 6) (hs : sx t τ = 41) : ∃ σ', fX12_reads_11 (n + 1) (nI (d + 1)) 0 σ = fX12_reads_11 n (nI (pp (σ.1 13) d)) 0 σ' ∧ MC σ' t (tkAt t τ.2.2.1) (I ++ [29]) ∧ (∀ i, σ'.1 13 i = σ.1 13 i) ∧ (∀ i, σ'.1 14 i = σ.1 14 i) ∧ gM σ σ' := by
  have hk : τ.1 ≠ 1 := by rw [sx_1 (t := t) (by omega)]; decide
  have hw : wx τ = 25 := sx_wx (t := t) (by omega)
  obtain ⟨σ1, e1, k1, l1, c1, o1, q1, g1⟩ := m_puts h hk 29
  obtain ⟨σ3, e3, m3, g3⟩ := m_adv2 (I := I) k1 h.2.1 hk l1 c1 h.2.2.2.2
  refine ⟨σ3, ?_, m3, fun i => by rw [g3.1 13 _ (by omega), o1], fun i => by rw [g3.1 14 _ (by omega), q1], gM_tr g1 (gM_fN g3)⟩
  have hdp : ¬ nI (d + 1) ≤ 0 := le_no (b := d + 1) (a := 0) (by omega) (by omega)
  rw [rdm h, rd0, b0 (show ¬ sx t τ = 43 by omega), b0 (show ¬ sx t τ = 45 by omega), b0 (show ¬ sx t τ = 42 by omega), b0 (show ¬ sx t τ = 60 by omega), b0 (show ¬ sx t τ = 61 by omega), iz, iz, iz, iz, iz, rdL, b0 (show ¬ wx τ = 18 by omega), b0 (show ¬ wx τ = 19 by omega), b1 hs, iz, iz, io, if_neg hdp, rdC, e1, fxBV_s, pk_m1]
  rw [m_pp2 σ1 _ d FU (by omega) (by unfold FU; omega), e3, fxBV_s, pp_eq d (fun i _ => o1 i)]
/-- ; at last -/
theorem m_end (h : MC σ t τ I) (hs : sx t τ = 59) : ∃ σ', fX12_reads_11 (n + 1) 0 0 σ = some (1, σ') ∧ MK σ' t (tkAt t τ.2.2.1) ∧ TKok t (tkAt t τ.2.2.1) ∧ τ.2.2.1 ≤ (tkAt t τ.2.2.1).2.1 ∧ σ'.1 0 21 = nI (1000 + I.length) ∧ CD (σ'.1 12) 1000 I ∧ gM σ σ' := by
  have hw : wx τ = 25 := sx_wx (t := t) (by omega)
  obtain ⟨σ3, e3, k3, o3, p3, g3⟩ := m_adv h.1 h.2.1
  refine ⟨σ3, ?_, k3, o3, p3, by rw [g3.1 0 21 (by omega)]; exact h.2.2.1, CD_fr _ _ h.2.2.2.1 (fun i _ _ => g3.1 12 i (by omega)), gM_fN g3⟩
  rw [rdm h, rd0, b0 (show ¬ sx t τ = 43 by omega), b0 (show ¬ sx t τ = 45 by omega), b0 (show ¬ sx t τ = 42 by omega), b0 (show ¬ sx t τ = 60 by omega), b0 (show ¬ sx t τ = 61 by omega), iz, iz, iz, iz, iz, rdL, b0 (show ¬ wx τ = 18 by omega), b0 (show ¬ wx τ = 19 by omega), b0 (show ¬ sx t τ = 41 by omega), b1 hs, iz, iz, iz, rdT, iz, io, e3, fxBV_s]
/-- nothing that can stand here -/
theorem m_bad (h : MC σ t τ I) (hd : d < 6) (h3 : opx 3 t τ = 0) (h2 : opx 2 t τ = 0) (h1 : opx 1 t τ = 0 ∨ σ.1 14 d = 1) (h0 : opx 0 t τ = 0) (h41 : sx t τ = 41 → d = 0) (h59 : sx t τ = 59 → d ≠ 0) : fX12_reads_11 (n + 1) (nI d) 0 σ = some (0, fx_si σ 0 9 (nI (1 + 16 * τ.2.1))) := by
  have n42 : sx t τ ≠ 42 := fun z => by
    have e : opx 3 t τ = -12 := if_pos z
    rw [e] at h3; exact absurd h3 (by decide)
  have n43 : sx t τ ≠ 43 := fun z => by
    have e : opx 2 t τ = -10 := if_pos z
    rw [e] at h2; exact absurd h2 (by decide)
  have n45 : sx t τ ≠ 45 := fun z => by
    have e : opx 2 t τ = -11 := by rw [opx_2, if_neg (by omega), if_pos z]
    rw [e] at h2; exact absurd h2 (by decide)
  have n18 : wx τ ≠ 18 := fun z => by
    have e : opx 0 t τ = -6 := if_pos z
    rw [e] at h0; exact absurd h0 (by decide)
  have n19 : wx τ ≠ 19 := fun z => by
    have e : opx 0 t τ = -7 := by rw [opx_0, if_neg (by omega), if_pos z]
    rw [e] at h0; exact absurd h0 (by decide)
  have hdi : fx_in (nI d) 7 = true := fx_inN (by omega) (by decide)
  have hdc : Int32.toNatClampNeg (nI d) = d := fx_clN (by omega)
  have fl := m_fails h.1 1 (x := 1) rfl
  have J : rdT (nI d) σ (bv (decide (sx t τ = 59))) = some (0, fx_si σ 0 9 (nI (1 + 16 * τ.2.1))) := by
    unfold rdT rdF
    by_cases c : d = 0
    · rw [if_pos (by rw [c]; rfl), b0 (fun z => h59 z c), iz, fl, fxBI_s, fxG_t bo0]
    · rw [if_neg (nI_ne0 (by omega) (by omega)), fl, fxBI_s, fxG_t bo0]
  have tail : rdL n (nI d) σ (bv (decide (wx τ = 18))) (bv (decide (wx τ = 19))) (bv (decide (sx t τ = 41))) (bv (decide (sx t τ = 59))) = some (0, fx_si σ 0 9 (nI (1 + 16 * τ.2.1))) := by
    rw [rdL, b0 n18, b0 n19, iz, iz]
    by_cases c : sx t τ = 41
    · have d0 := h41 c
      rw [b1 c, io, if_pos (by rw [d0]; decide)]
      exact J
    · rw [b0 c, iz]
      exact J
  rw [rdm h, rd0, b0 n43, b0 n45, b0 n42, iz, iz, iz]
  by_cases c60 : sx t τ = 60
  · have hcm : ¬ σ.1 14 d = 0 := by
      rcases h1 with z | z
      · have e : opx 1 t τ = -8 := if_pos c60
        rw [e] at z; exact absurd z (by decide)
      · rw [z]; decide
    rw [b1 c60, io, rdK, fxG_t hdi, hdc, if_neg hcm]
    exact tail
  · rw [b0 c60, iz]
    by_cases c61 : sx t τ = 61
    · have hcm : ¬ σ.1 14 d = 0 := by
        rcases h1 with z | z
        · have e : opx 1 t τ = -9 := by rw [opx_1, if_neg (by omega), if_pos c61]
          rw [e] at z; exact absurd z (by decide)
        · rw [z]; decide
      rw [b1 c61, io, rdK, fxG_t hdi, hdc, if_neg hcm]
      exact tail
    · rw [b0 c61, iz]
      exact tail
end MO
