/-! ===== reading a law: the reference behind a part ===== -/
theorem iz {β : Type} (a b : β) : (if (0 : Int32) = 0 then a else b) = a := if_pos rfl
theorem io {β : Type} (a b : β) : (if (1 : Int32) = 0 then a else b) = b := if_neg (by decide)
/-- which step of a level stands here, as the class puts it; as the reference does -/
def opx (L : Nat) (t : TP) (τ : TK) : Int32 := if L = 0 then (if wx τ = 18 then -6 else if wx τ = 19 then -7 else 0) else if L = 1 then (if sx t τ = 60 then -8 else if sx t τ = 61 then -9 else 0) else if L = 2 then (if sx t τ = 43 then -10 else if sx t τ = 45 then -11 else 0) else (if sx t τ = 42 then -12 else 0)
def opm (L : Nat) (t : TP) (τ : TK) : Int32 := if L = 0 then (if wx τ = 18 then 26 else 27) else if L = 1 then (if sx t τ = 60 then 24 else 25) else if L = 2 then (if sx t τ = 43 then 20 else 21) else 22
theorem opx_0 (t : TP) (τ : TK) : opx 0 t τ = if wx τ = 18 then -6 else if wx τ = 19 then -7 else 0 := rfl
theorem opx_1 (t : TP) (τ : TK) : opx 1 t τ = if sx t τ = 60 then -8 else if sx t τ = 61 then -9 else 0 := rfl
theorem opx_2 (t : TP) (τ : TK) : opx 2 t τ = if sx t τ = 43 then -10 else if sx t τ = 45 then -11 else 0 := rfl
theorem opx_3 (t : TP) (τ : TK) : opx 3 t τ = if sx t τ = 42 then -12 else 0 := rfl
/-- what the reference does behind a part, by what stands there -/
def rdF (σ : FH) : Option (Int32 × FH) := fxBI (fX12_fails 1 σ) fun r72 σ73 => fxG (fx_bo r72 = true) (some (r72, σ73))
def rdJ (n : Nat) (w3 : Int32) (σ : FH) (y : Int32) : Option (Int32 × FH) := fxBV (fX12_puts y σ) fun σ27 => fxBV (fX12_nextToken σ27) fun σ18 => fX12_reads_11 n w3 1 σ18
def rdB (n : Nat) (w3 : Int32) (σ : FH) (y f : Int32) : Option (Int32 × FH) := fxBV (fX12_puts y σ) fun σ58 => fxG (fx_in w3 7 = true) (fxBV (fX12_nextToken (fx_si σ58 14 (Int32.toNatClampNeg w3) (vp_nar .boolean f))) fun σ18 => fX12_reads_11 n w3 1 σ18)
def rdT (w3 : Int32) (σ : FH) (s59 : Int32) : Option (Int32 × FH) := if w3 = 0 then (if s59 = 0 then rdF σ else fxBV (fX12_nextToken σ) fun σ82 => some ((1 : Int32), σ82)) else rdF σ
def rdC (n : Nat) (w3 : Int32) (σ : FH) : Option (Int32 × FH) := fxBV (fX12_puts 29 σ) fun σ87 => fX12_reads_379 σ87 (fun x89 => fxBV (fX12_nextToken σ87) fun σ92 => fX12_reads_11 n x89 0 σ92) FU (w3 + (-1))
def rdL (n : Nat) (w3 : Int32) (σ : FH) (a o s41 s59 : Int32) : Option (Int32 × FH) := if a = 0 then (if o = 0 then (if s41 = 0 then rdT w3 σ s59 else (if w3 ≤ 0 then rdT w3 σ s59 else rdC n w3 σ)) else rdB n w3 σ 27 0) else rdB n w3 σ 26 0
theorem k_ch {A X : Option (Int32 × FH)} {G Q : Prop} [Decidable G] [Decidable Q] {s60 s61 : Int32} (hc : (s60 = 0 ∧ s61 = 0) ∨ (G ∧ ¬ Q)) : (fxL A fun J45 => fxL (fxG G (if Q then X else J45)) fun J100 => if s60 = 0 then (fxBP (some s61) fun r => if r = 0 then J45 else J100) else J100) = A := by
  rw [fxL_r, fxL_r, fxBP_s]
  rcases hc with z | z
  · rw [if_pos z.1, if_pos z.2]
  · rw [fxG_t z.1, if_neg z.2]
    by_cases c : s60 = 0
    · rw [if_pos c]
      by_cases d : s61 = 0
      · rw [if_pos d]
      · rw [if_neg d]
    · rw [if_neg c]
theorem k_ch2 {A X : Option (Int32 × FH)} {G Q : Prop} [Decidable G] [Decidable Q] {s60 s61 : Int32} (h : ¬ s60 = 0 ∨ ¬ s61 = 0) (g : G) (q : Q) : (fxL A fun J45 => fxL (fxG G (if Q then X else J45)) fun J100 => if s60 = 0 then (fxBP (some s61) fun r => if r = 0 then J45 else J100) else J100) = X := by
  rw [fxL_r, fxL_r, fxBP_s, fxG_t g, if_pos q]
  by_cases c : s60 = 0
  · rw [if_pos c, if_neg (h.resolve_left (fun z => z c))]
  · rw [if_neg c]
theorem c_ch {Q : FH → (Int32 → Option (Int32 × FH)) → Nat → Int32 → Option (Int32 × FH)} {P : Option FH} {k : FH → Int32 → Option (Int32 × FH)} {F : Nat} {w : Int32} : (fxBV P fun σ87 => fxL (k σ87) fun K88 => Q σ87 K88 F w) = fxBV P fun σ87 => Q σ87 (k σ87) F w := rfl
theorem t_ch {F N : Option (Int32 × FH)} {w3 s59 : Int32} : (fxL F fun J70 => if w3 = 0 then (fxBP (some s59) fun r77 => if r77 = 0 then J70 else N) else J70) = if w3 = 0 then (if s59 = 0 then F else N) else F := by
  rw [fxL_r, fxBP_s]
section RD
variable {n : Nat} {w3 : Int32} {σ : FH} {s60 s61 a o s41 s59 : Int32}
theorem rd_43 (h : fX12_isSign 43 σ = some 1) : fX12_reads_11 (n + 1) w3 0 σ = rdJ n w3 σ 20 := by
  rw [fX12_reads_11, if_pos rfl, h, fxBP_s, fxL_r, fxL_r, io, fxBP_s, fxL_r, io, rdJ]
theorem rd_45 (h : fX12_isSign 43 σ = some 0) (h2 : fX12_isSign 45 σ = some 1) : fX12_reads_11 (n + 1) w3 0 σ = rdJ n w3 σ 21 := by
  rw [fX12_reads_11, if_pos rfl, h, fxBP_s, fxL_r, fxL_r, iz, h2, fxBP_s, io, fxBP_s, fxL_r, iz, fxBP_s, io, rdJ]
theorem rd_42 (h : fX12_isSign 43 σ = some 0) (h2 : fX12_isSign 45 σ = some 0) (h3 : fX12_isSign 42 σ = some 1) : fX12_reads_11 (n + 1) w3 0 σ = rdJ n w3 σ 22 := by
  rw [fX12_reads_11, if_pos rfl, h, fxBP_s, fxL_r, fxL_r, iz, h2, fxBP_s, iz, h3, fxBP_s, io, fxBP_s, fxL_r, iz, fxBP_s, iz, rdJ]
theorem rd_K (h : fX12_isSign 43 σ = some 0) (h2 : fX12_isSign 45 σ = some 0) (h3 : fX12_isSign 42 σ = some 0) (h60 : fX12_isSign 60 σ = some s60) (h61 : fX12_isSign 61 σ = some s61) (hh : ¬ s60 = 0 ∨ ¬ s61 = 0) (g : fx_in w3 7 = true) (q : σ.1 14 (Int32.toNatClampNeg w3) = 0) : fX12_reads_11 (n + 1) w3 0 σ = rdB n w3 σ (if s60 = 0 then 25 else 24) 1 := by
  rw [fX12_reads_11, if_pos rfl, h, fxBP_s, fxL_r, fxL_r, iz, h2, fxBP_s, iz, h3, fxBP_s, iz, h60, h61, fxBP_s, k_ch2 hh g q, fxBP_s, fxL_r, rdB]
  simp only [fxL_r]
theorem rd_L (h : fX12_isSign 43 σ = some 0) (h2 : fX12_isSign 45 σ = some 0) (h3 : fX12_isSign 42 σ = some 0) (h60 : fX12_isSign 60 σ = some s60) (h61 : fX12_isSign 61 σ = some s61) (hc : (s60 = 0 ∧ s61 = 0) ∨ (fx_in w3 7 = true ∧ ¬ σ.1 14 (Int32.toNatClampNeg w3) = 0)) (ha : fX12_isWord 1111 σ = some a) (ho : fX12_isWord 423 σ = some o) (h41 : fX12_isSign 41 σ = some s41) (h59 : fX12_isSign 59 σ = some s59) : fX12_reads_11 (n + 1) w3 0 σ = rdL n w3 σ a o s41 s59 := by
  rw [fX12_reads_11, if_pos rfl, h, fxBP_s, fxL_r, fxL_r, iz, h2, fxBP_s, iz, h3, fxBP_s, iz, h60, h61, fxBP_s, k_ch hc, ha, fxBP_s, fxL_r, rdL]
  by_cases ca : a = 0
  · rw [if_pos ca, ho, fxBP_s]
    by_cases co : o = 0
    · rw [if_pos co, h41, h59, fxBP_s, t_ch, fxL_r, if_pos ca, if_pos co, rdT, rdF]
      by_cases c41 : s41 = 0
      · rw [if_pos c41, if_pos c41]
      · rw [if_neg c41, if_neg c41]
        by_cases cw : w3 ≤ 0
        · rw [if_pos cw, if_pos cw]
        · rw [if_neg cw, if_neg cw, rdC]
          exact c_ch (Q := fX12_reads_379) (k := fun σ87 x89 => fxBV (fX12_nextToken σ87) fun σ92 => fX12_reads_11 n x89 0 σ92)
    · rw [if_neg co, fxBP_s, fxL_r, if_pos ca, if_pos ca, if_neg co, rdB]
      simp only [fxL_r]
  · rw [if_neg ca, fxBP_s, fxL_r, if_neg ca, if_neg ca, rdB]
    simp only [fxL_r]
end RD
theorem b0 {P : Prop} [Decidable P] (h : ¬ P) : bv (decide P) = 0 := by rw [decide_eq_false h]; rfl
theorem b1 {P : Prop} [Decidable P] (h : P) : bv (decide P) = 1 := by rw [decide_eq_true h]; rfl
section MO
variable {σ : FH} {t : TP} {τ : TK} {I : List Int32} {n d : Nat}
theorem sg1 (h : MC σ t τ I) (c : Nat) (hc0 : 0 < c) (hc : c < 127) {x : Int32} (hx : x = nI c) (e : sx t τ = c) : fX12_isSign x σ = some 1 := by rw [m_sg h c hc0 hc hx, b1 e]
theorem sg0 (h : MC σ t τ I) (c : Nat) (hc0 : 0 < c) (hc : c < 127) {x : Int32} (hx : x = nI c) (e : ¬ sx t τ = c) : fX12_isSign x σ = some 0 := by rw [m_sg h c hc0 hc hx, b0 e]
theorem rdl (h : MC σ t τ I) {w3 : Int32} (n43 : ¬ sx t τ = 43) (n45 : ¬ sx t τ = 45) (n42 : ¬ sx t τ = 42) (hc : (¬ sx t τ = 60 ∧ ¬ sx t τ = 61) ∨ (fx_in w3 7 = true ∧ ¬ σ.1 14 (Int32.toNatClampNeg w3) = 0)) : fX12_reads_11 (n + 1) w3 0 σ = rdL n w3 σ (bv (decide (wx τ = 18))) (bv (decide (wx τ = 19))) (bv (decide (sx t τ = 41))) (bv (decide (sx t τ = 59))) :=
  rd_L (sg0 h 43 (by decide) (by decide) (x := 43) rfl n43) (sg0 h 45 (by decide) (by decide) (x := 45) rfl n45) (sg0 h 42 (by decide) (by decide) (x := 42) rfl n42) (m_sg h 60 (by decide) (by decide) (x := 60) rfl) (m_sg h 61 (by decide) (by decide) (x := 61) rfl) (hc.elim (fun z => Or.inl ⟨b0 z.1, b0 z.2⟩) Or.inr) (m_wd h (a := 18) (x := 1111) (by decide) rfl) (m_wd h (a := 19) (x := 423) (by decide) rfl) (m_sg h 41 (by decide) (by decide) (x := 41) rfl) (m_sg h 59 (by decide) (by decide) (x := 59) rfl)
theorem wx_sx (h : wx τ ≠ 25) : sx t τ = 0 := by
  unfold sx
  rw [if_neg (by rw [wx_1 h]; decide)]
theorem sx_wx (h : sx t τ ≠ 0) : wx τ = 25 := by
  unfold wx
  rw [if_neg (by rw [sx_1 h]; decide)]
/-- + - * -/
theorem m_op23 (h : MC σ t τ I) (hs : sx t τ = 43 ∨ sx t τ = 45 ∨ sx t τ = 42) : ∃ σ', fX12_reads_11 (n + 1) (nI d) 0 σ = fX12_reads_11 n (nI d) 1 σ' ∧ MC σ' t (tkAt t τ.2.2.1) (I ++ [if sx t τ = 43 then 20 else if sx t τ = 45 then 21 else 22]) ∧ (∀ i, σ'.1 13 i = σ.1 13 i) ∧ (∀ i, σ'.1 14 i = σ.1 14 i) ∧ gM σ σ' := by
  have hk : τ.1 ≠ 1 := by rw [sx_1 (t := t) (by omega)]; decide
  obtain ⟨σ1, e1, k1, l1, c1, o1, q1, g1⟩ := m_puts h hk (if sx t τ = 43 then 20 else if sx t τ = 45 then 21 else 22)
  obtain ⟨σ3, e3, m3, g3⟩ := m_adv2 (I := I) k1 h.2.1 hk l1 c1 h.2.2.2.2
  refine ⟨σ3, ?_, m3, fun i => by rw [g3.1 13 _ (by omega), o1], fun i => by rw [g3.1 14 _ (by omega), q1], gM_tr g1 (gM_fN g3)⟩
  rcases hs with z | z | z
  · rw [if_pos z] at e1
    rw [rd_43 (sg1 h 43 (by decide) (by decide) (x := 43) rfl z), rdJ, e1, fxBV_s, e3, fxBV_s]
  · rw [if_neg (by omega), if_pos z] at e1
    rw [rd_45 (sg0 h 43 (by decide) (by decide) (x := 43) rfl (by omega)) (sg1 h 45 (by decide) (by decide) (x := 45) rfl z), rdJ, e1, fxBV_s, e3, fxBV_s]
  · rw [if_neg (by omega), if_neg (by omega)] at e1
    rw [rd_42 (sg0 h 43 (by decide) (by decide) (x := 43) rfl (by omega)) (sg0 h 45 (by decide) (by decide) (x := 45) rfl (by omega)) (sg1 h 42 (by decide) (by decide) (x := 42) rfl z), rdJ, e1, fxBV_s, e3, fxBV_s]
/-- < = -/
theorem m_op1 (h : MC σ t τ I) (hd : d < 6) (hs : sx t τ = 60 ∨ sx t τ = 61) (hc : σ.1 14 d = 0) : ∃ σ', fX12_reads_11 (n + 1) (nI d) 0 σ = fX12_reads_11 n (nI d) 1 σ' ∧ MC σ' t (tkAt t τ.2.2.1) (I ++ [if sx t τ = 60 then 24 else 25]) ∧ (∀ i, σ'.1 13 i = σ.1 13 i) ∧ (∀ i, i < d → σ'.1 14 i = σ.1 14 i) ∧ σ'.1 14 d = 1 ∧ gM σ σ' := by
  have hk : τ.1 ≠ 1 := by rw [sx_1 (t := t) (by omega)]; decide
  obtain ⟨σ1, e1, k1, l1, c1, o1, q1, g1⟩ := m_puts h hk (if sx t τ = 60 then 24 else 25)
  have hdi : fx_in (nI d) 7 = true := fx_inN (by omega) (by decide)
  have hdc : Int32.toNatClampNeg (nI d) = d := fx_clN (by omega)
  have k2 : MK (fx_si σ1 14 d 1) t τ := MK_fr k1 (fun j j1 j2 => by rw [si1, if_neg (by omega)]) (fun j => by rw [si1, if_neg (by omega)]) rfl
  obtain ⟨σ3, e3, m3, g3⟩ := m_adv2 (I := I) (c := if sx t τ = 60 then 24 else 25) k2 h.2.1 hk (by rw [si1, if_neg (by omega)]; exact l1) (CD_fr _ _ c1 (fun i _ _ => by rw [si1, if_neg (by omega)])) h.2.2.2.2
  refine ⟨σ3, ?_, m3, fun i => by rw [g3.1 13 _ (by omega), si1, if_neg (by omega), o1], fun i hi => by rw [g3.1 14 _ (by omega), si1, if_neg (by omega), q1], by rw [g3.1 14 _ (by omega), si1, if_pos ⟨rfl, rfl⟩], gM_tr g1 (gM_tr (gM_si (Or.inr (Or.inr (Or.inr rfl)))) (gM_fN g3))⟩
  rw [rd_K (sg0 h 43 (by decide) (by decide) (x := 43) rfl (by omega)) (sg0 h 45 (by decide) (by decide) (x := 45) rfl (by omega)) (sg0 h 42 (by decide) (by decide) (x := 42) rfl (by omega)) (m_sg h 60 (by decide) (by decide) (x := 60) rfl) (m_sg h 61 (by decide) (by decide) (x := 61) rfl) (hs.elim (fun z => Or.inl (by rw [b1 z]; decide)) (fun z => Or.inr (by rw [b1 z]; decide))) hdi (by rw [hdc]; exact hc)]
  rcases hs with z | z
  · rw [if_pos z] at e1
    rw [b1 z, io, rdB, e1, fxBV_s, fxG_t hdi, hdc, nar1, e3, fxBV_s]
  · rw [if_neg (by omega)] at e1
    rw [b0 (show ¬ sx t τ = 60 by omega), iz, rdB, e1, fxBV_s, fxG_t hdi, hdc, nar1, e3, fxBV_s]
/-- and, or -/
theorem m_op0 (h : MC σ t τ I) (hd : d < 6) (hs : wx τ = 18 ∨ wx τ = 19) : ∃ σ', fX12_reads_11 (n + 1) (nI d) 0 σ = fX12_reads_11 n (nI d) 1 σ' ∧ MC σ' t (tkAt t τ.2.2.1) (I ++ [if wx τ = 18 then 26 else 27]) ∧ (∀ i, σ'.1 13 i = σ.1 13 i) ∧ (∀ i, i < d → σ'.1 14 i = σ.1 14 i) ∧ σ'.1 14 d = 0 ∧ gM σ σ' := by
  have hk : τ.1 ≠ 1 := by rw [wx_1 (τ := τ) (by omega)]; decide
  have hs0 : sx t τ = 0 := wx_sx (by omega)
  obtain ⟨σ1, e1, k1, l1, c1, o1, q1, g1⟩ := m_puts h hk (if wx τ = 18 then 26 else 27)
  have hdi : fx_in (nI d) 7 = true := fx_inN (by omega) (by decide)
  have hdc : Int32.toNatClampNeg (nI d) = d := fx_clN (by omega)
  have k2 : MK (fx_si σ1 14 d 0) t τ := MK_fr k1 (fun j j1 j2 => by rw [si1, if_neg (by omega)]) (fun j => by rw [si1, if_neg (by omega)]) rfl
  obtain ⟨σ3, e3, m3, g3⟩ := m_adv2 (I := I) (c := if wx τ = 18 then 26 else 27) k2 h.2.1 hk (by rw [si1, if_neg (by omega)]; exact l1) (CD_fr _ _ c1 (fun i _ _ => by rw [si1, if_neg (by omega)])) h.2.2.2.2
  refine ⟨σ3, ?_, m3, fun i => by rw [g3.1 13 _ (by omega), si1, if_neg (by omega), o1], fun i hi => by rw [g3.1 14 _ (by omega), si1, if_neg (by omega), q1], by rw [g3.1 14 _ (by omega), si1, if_pos ⟨rfl, rfl⟩], gM_tr g1 (gM_tr (gM_si (Or.inr (Or.inr (Or.inr rfl)))) (gM_fN g3))⟩
  rw [rdl h (by omega) (by omega) (by omega) (Or.inl ⟨by omega, by omega⟩), rdL]
  rcases hs with z | z
  · rw [if_pos z] at e1
    rw [b1 z, io, rdB, e1, fxBV_s, fxG_t hdi, hdc, nar0, e3, fxBV_s]
  · rw [if_neg (by omega)] at e1
    rw [b0 (show ¬ wx τ = 18 by omega), b1 z, iz, io, rdB, e1, fxBV_s, fxG_t hdi, hdc, nar0, e3, fxBV_s]
/-- ) -/
theorem m_close (h : MC σ t τ I) (hd : d < 6) (hs : sx t τ = 41) : ∃ σ', fX12_reads_11 (n + 1) (nI (d + 1)) 0 σ = fX12_reads_11 n (nI (pp (σ.1 13) d)) 0 σ' ∧ MC σ' t (tkAt t τ.2.2.1) (I ++ [29]) ∧ (∀ i, σ'.1 13 i = σ.1 13 i) ∧ (∀ i, σ'.1 14 i = σ.1 14 i) ∧ gM σ σ' := by
  have hk : τ.1 ≠ 1 := by rw [sx_1 (t := t) (by omega)]; decide
  have hw : wx τ = 25 := sx_wx (t := t) (by omega)
  obtain ⟨σ1, e1, k1, l1, c1, o1, q1, g1⟩ := m_puts h hk 29
  obtain ⟨σ3, e3, m3, g3⟩ := m_adv2 (I := I) k1 h.2.1 hk l1 c1 h.2.2.2.2
  refine ⟨σ3, ?_, m3, fun i => by rw [g3.1 13 _ (by omega), o1], fun i => by rw [g3.1 14 _ (by omega), q1], gM_tr g1 (gM_fN g3)⟩
  have hdp : ¬ nI (d + 1) ≤ 0 := le_no (b := d + 1) (a := 0) (by omega) (by omega)
  rw [rdl h (by omega) (by omega) (by omega) (Or.inl ⟨by omega, by omega⟩), rdL, b0 (show ¬ wx τ = 18 by omega), b0 (show ¬ wx τ = 19 by omega), b1 hs, iz, iz, io, if_neg hdp, rdC, e1, fxBV_s, pk_m1]
  rw [m_pp2 σ1 _ d FU (by omega) (by unfold FU; omega), e3, fxBV_s, pp_eq d (fun i _ => o1 i)]
/-- ; at last -/
theorem m_end (h : MC σ t τ I) (hs : sx t τ = 59) : ∃ σ', fX12_reads_11 (n + 1) 0 0 σ = some (1, σ') ∧ MK σ' t (tkAt t τ.2.2.1) ∧ TKok t (tkAt t τ.2.2.1) ∧ τ.2.2.1 ≤ (tkAt t τ.2.2.1).2.1 ∧ σ'.1 0 21 = nI (1000 + I.length) ∧ CD (σ'.1 12) 1000 I ∧ gM σ σ' := by
  have hw : wx τ = 25 := sx_wx (t := t) (by omega)
  obtain ⟨σ3, e3, k3, o3, p3, g3⟩ := m_adv h.1 h.2.1
  refine ⟨σ3, ?_, k3, o3, p3, by rw [g3.1 0 21 (by omega)]; exact h.2.2.1, CD_fr _ _ h.2.2.2.1 (fun i _ _ => g3.1 12 i (by omega)), gM_fN g3⟩
  rw [rdl h (by omega) (by omega) (by omega) (Or.inl ⟨by omega, by omega⟩), rdL, b0 (show ¬ wx τ = 18 by omega), b0 (show ¬ wx τ = 19 by omega), b0 (show ¬ sx t τ = 41 by omega), b1 hs, iz, iz, iz, rdT, iz, io, e3, fxBV_s]
/-- nothing that can stand here -/
theorem m_bad (h : MC σ t τ I) (hd : d < 6) (h3 : opx 3 t τ = 0) (h2 : opx 2 t τ = 0) (h1 : opx 1 t τ = 0 ∨ σ.1 14 d = 1) (h0 : opx 0 t τ = 0) (h41 : sx t τ = 41 → d = 0) (h59 : sx t τ = 59 → d ≠ 0) : fX12_reads_11 (n + 1) (nI d) 0 σ = some (0, fx_si σ 0 9 (nI (1 + 16 * τ.2.1))) := by
  have n42 : sx t τ ≠ 42 := fun z => by
    have e : opx 3 t τ = -12 := if_pos z
    rw [e] at h3; exact absurd h3 (by decide)
  have n43 : sx t τ ≠ 43 := fun z => by
    have e : opx 2 t τ = -10 := if_pos z
    rw [e] at h2; exact absurd h2 (by decide)
  have n45 : sx t τ ≠ 45 := fun z => by
    have e : opx 2 t τ = -11 := by rw [opx_2, if_neg (by omega), if_pos z]
    rw [e] at h2; exact absurd h2 (by decide)
  have n18 : wx τ ≠ 18 := fun z => by
    have e : opx 0 t τ = -6 := if_pos z
    rw [e] at h0; exact absurd h0 (by decide)
  have n19 : wx τ ≠ 19 := fun z => by
    have e : opx 0 t τ = -7 := by rw [opx_0, if_neg (by omega), if_pos z]
    rw [e] at h0; exact absurd h0 (by decide)
  have hdi : fx_in (nI d) 7 = true := fx_inN (by omega) (by decide)
  have hdc : Int32.toNatClampNeg (nI d) = d := fx_clN (by omega)
  have fl := m_fails h.1 1 (x := 1) rfl
  have J : rdT (nI d) σ (bv (decide (sx t τ = 59))) = some (0, fx_si σ 0 9 (nI (1 + 16 * τ.2.1))) := by
    unfold rdT rdF
    by_cases c : d = 0
    · rw [if_pos (by rw [c]; rfl), b0 (fun z => h59 z c), iz, fl, fxBI_s, fxG_t bo0]
    · rw [if_neg (nI_ne0 (by omega) (by omega)), fl, fxBI_s, fxG_t bo0]
  have tail : rdL n (nI d) σ (bv (decide (wx τ = 18))) (bv (decide (wx τ = 19))) (bv (decide (sx t τ = 41))) (bv (decide (sx t τ = 59))) = some (0, fx_si σ 0 9 (nI (1 + 16 * τ.2.1))) := by
    rw [rdL, b0 n18, b0 n19, iz, iz]
    by_cases c : sx t τ = 41
    · have d0 := h41 c
      rw [b1 c, io, if_pos (by rw [d0]; decide)]
      exact J
    · rw [b0 c, iz]
      exact J
  refine (rdl h n43 n45 n42 ?_).trans tail
  by_cases c : sx t τ = 60 ∨ sx t τ = 61
  · refine Or.inr ⟨hdi, ?_⟩
    rw [hdc]
    rcases h1 with z | z
    · rcases c with y | y
      · have e : opx 1 t τ = -8 := if_pos y
        rw [e] at z; exact absurd z (by decide)
      · have e : opx 1 t τ = -9 := by rw [opx_1, if_neg (by omega), if_pos y]
        rw [e] at z; exact absurd z (by decide)
    · rw [z]; decide
  · exact Or.inl ⟨fun z => c (Or.inl z), fun z => c (Or.inr z)⟩
end MO
