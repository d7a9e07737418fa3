/-! ===== reading a law: the reference's moves ===== -/
def gM (σ σ' : FH) : Prop := (∀ b j, ¬ (b = 0 ∧ ((4 ≤ j ∧ j ≤ 9) ∨ j = 21)) → ¬ (b = 12 ∧ 1000 ≤ j) → b ≠ 13 → b ≠ 14 → σ'.1 b j = σ.1 b j) ∧ (∀ b j, ¬ (b = 0 ∧ j = 7) → σ'.2.1 b j = σ.2.1 b j) ∧ σ'.2.2 = σ.2.2
theorem gM_rf (σ : FH) : gM σ σ := ⟨fun _ _ _ _ _ _ => rfl, fun _ _ _ => rfl, rfl⟩
theorem gM_tr {a b c : FH} (h : gM a b) (h' : gM b c) : gM a c := ⟨fun q j z1 z2 z3 z4 => (h'.1 q j z1 z2 z3 z4).trans (h.1 q j z1 z2 z3 z4), fun q j z => (h'.2.1 q j z).trans (h.2.1 q j z), h'.2.2.trans h.2.2⟩
theorem gM_fN {a b : FH} (h : fN a b) : gM a b := ⟨fun q j z1 _ _ _ => h.1 q j (by omega), h.2.1, h.2.2⟩
theorem gM_si {σ : FH} {b j : Nat} {v : Int32} (h : (b = 0 ∧ ((4 ≤ j ∧ j ≤ 9) ∨ j = 21)) ∨ (b = 12 ∧ 1000 ≤ j) ∨ b = 13 ∨ b = 14) : gM σ (fx_si σ b j v) := ⟨fun q i z1 z2 z3 z4 => by rw [si1, if_neg (by omega)], fun _ _ _ => rfl, rfl⟩
theorem MK_fr {σ σ' : FH} {t : TP} {τ : TK} (h : MK σ t τ) (e0 : ∀ j, 3 ≤ j → j ≤ 8 → σ'.1 0 j = σ.1 0 j) (e1 : ∀ j, σ'.1 1 j = σ.1 1 j) (e7 : σ'.2.1 0 7 = σ.2.1 0 7) : MK σ' t τ := by
  obtain ⟨h1, h2, h3, h4, h5, h6⟩ := h
  refine ⟨⟨h1.1, (e0 3 (by omega) (by omega)).trans h1.2.1, fun j hj => ⟨(h1.2.2 j hj).1, (e1 j).trans (h1.2.2 j hj).2⟩⟩, (e0 5 (by omega) (by omega)).trans h2, (e0 4 (by omega) (by omega)).trans h3, (e0 6 (by omega) (by omega)).trans h4, fun z => e7.trans (h5 z), fun z => (e0 8 (by omega) (by omega)).trans (h6 z)⟩
/-- the reference stands at a token, having put I -/
def MC (σ : FH) (t : TP) (τ : TK) (I : List Int32) : Prop := MK σ t τ ∧ TKok t τ ∧ σ.1 0 21 = nI (1000 + I.length) ∧ CD (σ.1 12) 1000 I ∧ I.length ≤ τ.2.1
theorem m_puts {σ : FH} {t : TP} {τ : TK} {I : List Int32} (h : MC σ t τ I) (hk : τ.1 ≠ 1) (c : Int32) : ∃ σ1, fX12_puts c σ = some σ1 ∧ MK σ1 t τ ∧ σ1.1 0 21 = nI (1000 + (I ++ [c]).length) ∧ CD (σ1.1 12) 1000 (I ++ [c]) ∧ (∀ i, σ1.1 13 i = σ.1 13 i) ∧ (∀ i, σ1.1 14 i = σ.1 14 i) ∧ gM σ σ1 := by
  obtain ⟨h1, h2, h3, h4, h5⟩ := h
  have hL := h1.1.1
  have hb := (h2.2.2.2.1 hk).1
  refine ⟨fx_si (fx_si σ 12 (1000 + I.length) c) 0 21 (nI (1000 + I.length + 1)), ?_, MK_fr h1 (fun j j1 j2 => by rw [si1, if_neg (by omega), si1, if_neg (by omega)]) (fun j => by rw [si1, if_neg (by omega), si1, if_neg (by omega)]) rfl, ?_, ?_, fun i => by rw [si1, if_neg (by omega), si1, if_neg (by omega)], fun i => by rw [si1, if_neg (by omega), si1, if_neg (by omega)], gM_tr (gM_si (Or.inr (Or.inl ⟨rfl, by omega⟩))) (gM_si (Or.inl ⟨rfl, Or.inr rfl⟩))⟩
  · unfold fX12_puts
    rw [h3, fxG_t (fx_inN (by omega) (by decide)), fx_clN (by omega), fxL_r, si1, if_neg (by omega), h3, nI_1, fxL_r]
  · rw [si1, if_pos ⟨rfl, rfl⟩, List.length_append]; rfl
  · rw [CD_app]
    refine ⟨CD_fr I 1000 h4 (fun i i1 i2 => by rw [si1, if_neg (by omega), si1, if_neg (by omega)]), ?_, trivial⟩
    rw [si1, if_neg (by omega), si1, if_pos ⟨rfl, rfl⟩]
theorem m_adv {σ : FH} {t : TP} {τ : TK} (h : MK σ t τ) (ho : TKok t τ) : ∃ σ', fX12_nextToken σ = some σ' ∧ MK σ' t (tkAt t τ.2.2.1) ∧ TKok t (tkAt t τ.2.2.1) ∧ τ.2.2.1 ≤ (tkAt t τ.2.2.1).2.1 ∧ fN σ σ' := by
  obtain ⟨σ', e, k, g⟩ := m_next h.1 h.2.2.1 ho.2.2.1
  obtain ⟨k1, k2⟩ := tkAt_ok h.1.1 ho.2.2.1
  exact ⟨σ', e, k, k1, k2, g⟩
/-- the next token, having put c -/
theorem m_adv2 {σ : FH} {t : TP} {τ : TK} {I : List Int32} {c : Int32} (h : MK σ t τ) (ho : TKok t τ) (hk : τ.1 ≠ 1) (h3 : σ.1 0 21 = nI (1000 + (I ++ [c]).length)) (h4 : CD (σ.1 12) 1000 (I ++ [c])) (h5 : I.length ≤ τ.2.1) : ∃ σ', fX12_nextToken σ = some σ' ∧ MC σ' t (tkAt t τ.2.2.1) (I ++ [c]) ∧ fN σ σ' := by
  obtain ⟨σ', e, k, o, p, g⟩ := m_adv h ho
  have hq := (ho.2.2.2.1 hk).2
  refine ⟨σ', e, ⟨k, o, by rw [g.1 0 21 (by omega)]; exact h3, CD_fr _ _ h4 (fun i _ _ => g.1 12 i (by omega)), ?_⟩, g⟩
  rw [List.length_append]
  show I.length + 1 ≤ _
  omega
def pp (f : Nat → Int32) : Nat → Nat
  | 0 => 0
  | d + 1 => if f (d + 1) = 1 then pp f d else d + 1
theorem pp_le (f : Nat → Int32) : ∀ d, pp f d ≤ d
  | 0 => Nat.le_refl 0
  | d + 1 => by
    rw [pp]
    by_cases c : f (d + 1) = 1
    · rw [if_pos c]; have := pp_le f d; omega
    · rw [if_neg c]; exact Nat.le_refl _
theorem pp_eq {f g : Nat → Int32} : ∀ d, (∀ i, i ≤ d → g i = f i) → pp g d = pp f d
  | 0, _ => rfl
  | d + 1, h => by rw [pp, pp, h (d + 1) (Nat.le_refl _), pp_eq d (fun i hi => h i (by omega))]
theorem pp_bse {f : Nat → Int32} : ∀ d, (d = 0 ∨ ¬ f d = 1) → pp f d = d
  | 0, _ => rfl
  | d + 1, h => by rw [pp, if_neg (h.resolve_left (by omega))]
theorem m_pp1 (σ : FH) (K : Int32 → Option (Int32 × FH)) : ∀ (d n : Nat), d < 7 → d < n → fX12_reads_152 σ K n (nI d) = K (nI (pp (σ.1 13) d))
  | d, 0, _, h => absurd h (by omega)
  | 0, n + 1, _, _ => by rw [fX12_reads_152, if_pos (by decide)]; rfl
  | d + 1, n + 1, h7, h => by
    rw [fX12_reads_152, if_neg (show ¬ nI (d + 1) ≤ 0 from le_no (b := d + 1) (a := 0) (by omega) (by omega)), fxG_t (fx_inN h7 (by decide)), fx_clN (by omega), pk_m1, pp]
    by_cases c : σ.1 13 (d + 1) = 1
    · rw [if_pos c, if_pos c]; exact m_pp1 σ K d n (by omega) (by omega)
    · rw [if_neg c, if_neg c]
theorem m_pp2 (σ : FH) (K : Int32 → Option (Int32 × FH)) : ∀ (d n : Nat), d < 7 → d < n → fX12_reads_379 σ K n (nI d) = K (nI (pp (σ.1 13) d))
  | d, 0, _, h => absurd h (by omega)
  | 0, n + 1, _, _ => by rw [fX12_reads_379, if_pos (by decide)]; rfl
  | d + 1, n + 1, h7, h => by
    rw [fX12_reads_379, if_neg (show ¬ nI (d + 1) ≤ 0 from le_no (b := d + 1) (a := 0) (by omega) (by omega)), fxG_t (fx_inN h7 (by decide)), fx_clN (by omega), pk_m1, pp]
    by_cases c : σ.1 13 (d + 1) = 1
    · rw [if_pos c, if_pos c]; exact m_pp2 σ K d n (by omega) (by omega)
    · rw [if_neg c, if_neg c]
theorem m_fails {σ : FH} {t : TP} {τ : TK} (h : MK σ t τ) (k : Nat) {x : Int32} (hx : x = nI k) : fX12_fails x σ = some (0, fx_si σ 0 9 (nI (k + 16 * τ.2.1))) := by
  unfold fX12_fails
  rw [h.2.1, hx, show (16 : Int32) * nI τ.2.1 = nI (16 * τ.2.1) from pk_mul 16 _, nI_add, fxL_r]
theorem i10 : ((1 : Int32) = 0) = False := by simp
theorem bo0 : fx_bo 0 = true := by decide
theorem bo1 : fx_bo 1 = true := by decide
theorem nar0 : vp_nar .boolean 0 = 0 := by decide
theorem nar1 : vp_nar .boolean 1 = 1 := by decide
section MR
variable {σ : FH} {t : TP} {τ : TK} {I : List Int32} {n d : Nat}
theorem sx_1 (h : sx t τ ≠ 0) : τ.1 = 4 := by
  unfold sx at h
  by_cases c : τ.1 = 4
  · exact c
  · rw [if_neg c] at h; exact absurd rfl h
theorem wx_1 (h : wx τ ≠ 25) : τ.1 = 3 := by
  unfold wx at h
  by_cases c : τ.1 = 3
  · exact c
  · rw [if_neg c] at h; exact absurd rfl h
theorem fct_1 (h : fct τ ≠ 0) : τ.1 = 3 := by
  refine wx_1 (fun e => h ?_)
  unfold fct
  rw [e]; rfl
theorem fct_4 (τ : TK) : fct τ ≤ 4 := by
  unfold fct
  by_cases c0 : wx τ = 20
  · rw [if_pos c0]; decide
  by_cases c1 : wx τ = 21
  · rw [if_neg c0, if_pos c1]; decide
  by_cases c2 : wx τ = 22
  · rw [if_neg c0, if_neg c1, if_pos c2]; decide
  by_cases c3 : wx τ = 23
  · rw [if_neg c0, if_neg c1, if_neg c2, if_pos c3]; decide
  rw [if_neg c0, if_neg c1, if_neg c2, if_neg c3]; decide
theorem m_wd (h : MC σ t τ I) {a : Nat} (ha : a < 24) {x : Int64} (hx : x = k27.getD a 0) : fX12_isWord x σ = some (bv (decide (wx τ = a))) := m_isWord h.1 h.2.1 ha hx
theorem m_sg (h : MC σ t τ I) (c : Nat) (hc0 : 0 < c) (hc : c < 127) {x : Int32} (hx : x = nI c) : fX12_isSign x σ = some (bv (decide (sx t τ = c))) := m_isSign h.1 h.2.1 c hc0 hc hx
theorem nI_z (h : d < 1000) : (nI d = 0) = (d = 0) := by rw [n0, nI_eq (by omega) (by omega)]
/-- no part can begin here -/
theorem m_part_f1 (h : MC σ t τ I) (h1 : fct τ = 0) (h2 : wx τ ≠ 17) (h3 : sx t τ ≠ 40) (h4 : τ.1 ≠ 2) : fX12_reads_11 (n + 1) (nI d) 1 σ = some (0, fx_si σ 0 9 (nI (1 + 16 * τ.2.1))) := by
  have h5 : ¬ σ.1 0 6 = 2 := fun z => h4 ((MK_k h.1 h.2.1 2 (by decide) (x := 2) rfl).mp z)
  rw [fX12_reads_11, if_neg (by decide), m_fact h.1 h.2.1, m_wd h (a := 17) (x := 10631) (by decide) rfl, m_sg h 40 (by decide) (by decide) (x := 40) rfl, h1, decide_eq_false h2, decide_eq_false h3, fxBP_s, fxBP_s, fxBP_s]
  simp only [fxL_r]
  rw [if_pos (by decide), if_pos (by decide), if_pos (by decide), if_neg h5, m_fails h.1 1 (x := 1) rfl, fxBI_s, fxG_t bo0]
/-- a part begins here -/
def pst (t : TP) (τ : TK) : Prop := fct τ ≠ 0 ∨ wx τ = 17 ∨ sx t τ = 40 ∨ τ.1 = 2
theorem pst_1 (h : pst t τ) : τ.1 ≠ 1 := by
  rcases h with z | z | z | z
  · rw [fct_1 z]; decide
  · rw [wx_1 (by omega)]; decide
  · rw [sx_1 (t := t) (by omega)]; decide
  · omega
theorem m_part_s (h : MC σ t τ I) (hp : pst t τ) (A B : Option (Int32 × FH)) : (if nI (fct τ) = 0 then (if bv (decide (wx τ = 17)) = 0 then (if bv (decide (sx t τ = 40)) = 0 then (if σ.1 0 6 = 2 then A else B) else A) else A) else A) = A := by
  have := fct_4 τ
  by_cases c1 : fct τ = 0
  · rw [c1, if_pos (by decide)]
    by_cases c2 : wx τ = 17
    · rw [decide_eq_true c2, if_neg (by decide)]
    · rw [decide_eq_false c2, if_pos (by decide)]
      by_cases c3 : sx t τ = 40
      · rw [decide_eq_true c3, if_neg (by decide)]
      · rw [decide_eq_false c3, if_pos (by decide), if_pos]
        exact (MK_k h.1 h.2.1 2 (by decide) (x := 2) rfl).mpr (by rcases hp with z | z | z | z; exact absurd c1 z; exact absurd z c2; exact absurd z c3; exact z)
  · rw [if_neg (nI_ne0 (by omega) (by omega))]
theorem m_part_f5 (h : MC σ t τ I) (hp : pst t τ) : fX12_reads_11 (n + 1) (nI 5) 1 σ = some (0, fx_si σ 0 9 (nI (5 + 16 * τ.2.1))) := by
  rw [fX12_reads_11, if_neg (by decide), m_fact h.1 h.2.1, m_wd h (a := 17) (x := 10631) (by decide) rfl, m_sg h 40 (by decide) (by decide) (x := 40) rfl, fxBP_s, fxBP_s, fxBP_s]
  rw [fxL_r, m_part_s h hp, if_pos (by decide), m_fails h.1 5 (x := 5) rfl, fxBI_s, fxG_t bo0]
theorem d5_no (hd : d < 5) : ¬ nI d = 5 := fun z => by have := nI_inj (b := 5) (by omega) (by decide) z; omega
/-- not, or ( -/
theorem m_part_push (h : MC σ t τ I) (hd : d < 5) (hw : wx τ = 17 ∨ sx t τ = 40) : ∃ σ', fX12_reads_11 (n + 1) (nI d) 1 σ = fX12_reads_11 n (nI (d + 1)) 1 σ' ∧ MC σ' t (tkAt t τ.2.2.1) (I ++ [if wx τ = 17 then 30 else 28]) ∧ σ'.1 13 (d + 1) = (if wx τ = 17 then 1 else 2) ∧ σ'.1 14 (d + 1) = 0 ∧ (∀ i, i ≤ d → σ'.1 13 i = σ.1 13 i) ∧ (∀ i, i ≤ d → σ'.1 14 i = σ.1 14 i) ∧ gM σ σ' := by
  have hp : pst t τ := by rcases hw with z | z; exact Or.inr (Or.inl z); exact Or.inr (Or.inr (Or.inl z))
  have hk := pst_1 hp
  obtain ⟨σ1, e1, k1, l1, c1, o1, q1, g1⟩ := m_puts h hk (if wx τ = 17 then 30 else 28)
  have hdi : fx_in (nI (d + 1)) 7 = true := fx_inN (by omega) (by decide)
  have hdc : Int32.toNatClampNeg (nI (d + 1)) = d + 1 := fx_clN (by omega)
  have g2 : gM σ1 (fx_si (fx_si σ1 13 (d + 1) (if wx τ = 17 then 1 else 2)) 14 (d + 1) 0) := gM_tr (gM_si (Or.inr (Or.inr (Or.inl rfl)))) (gM_si (Or.inr (Or.inr (Or.inr rfl))))
  have k2 : MK (fx_si (fx_si σ1 13 (d + 1) (if wx τ = 17 then 1 else 2)) 14 (d + 1) 0) t τ := MK_fr k1 (fun j j1 j2 => by rw [si1, if_neg (by omega), si1, if_neg (by omega)]) (fun j => by rw [si1, if_neg (by omega), si1, if_neg (by omega)]) rfl
  obtain ⟨σ3, e3, m3, g3⟩ := m_adv2 (I := I) (c := if wx τ = 17 then 30 else 28) k2 h.2.1 hk (by rw [si1, if_neg (by omega), si1, if_neg (by omega)]; exact l1) (CD_fr _ _ c1 (fun i _ _ => by rw [si1, if_neg (by omega), si1, if_neg (by omega)])) h.2.2.2.2
  refine ⟨σ3, ?_, m3, ?_, ?_, fun i hi => ?_, fun i hi => ?_, gM_tr g1 (gM_tr g2 (gM_fN g3))⟩
  · rw [fX12_reads_11, if_neg (by decide), m_fact h.1 h.2.1, m_wd h (a := 17) (x := 10631) (by decide) rfl, m_sg h 40 (by decide) (by decide) (x := 40) rfl, fxBP_s, fxBP_s, fxBP_s]
    rw [fxL_r, m_part_s h hp, if_neg (d5_no hd)]
    simp only [fxL_r]
    rw [nI_1, hdc, nar0]
    simp only [fxG_t hdi]
    by_cases c : wx τ = 17
    · rw [if_pos c] at e1 e3
      rw [decide_eq_true c, show bv true = 1 from rfl, if_neg (by decide), if_neg (by decide), if_neg (by decide), e1, fxBV_s, e3, fxBV_s]
    · have c' := hw.resolve_left c
      rw [if_neg c] at e1 e3
      rw [decide_eq_false c, decide_eq_true c', show bv false = 0 from rfl, show bv true = 1 from rfl, if_pos rfl, if_pos rfl, if_pos rfl, if_neg (by decide), e1, fxBV_s, e3, fxBV_s]
  · rw [g3.1 13 _ (by omega), si1, if_neg (by omega), si1, if_pos ⟨rfl, rfl⟩]
  · rw [g3.1 14 _ (by omega), si1, if_pos ⟨rfl, rfl⟩]
  · rw [g3.1 13 _ (by omega), si1, if_neg (by omega), si1, if_neg (by omega), o1]
  · rw [g3.1 14 _ (by omega), si1, if_neg (by omega), si1, if_neg (by omega), q1]
/-- what a number, a fact puts -/
def lfm (τ : TK) : Int32 := if fct τ = 0 then nI (100 + τ.2.2.2.2) else nI (fct τ)
theorem m_part_leaf (h : MC σ t τ I) (hd : d < 5) (hp : pst t τ) (h2 : wx τ ≠ 17) (h3 : sx t τ ≠ 40) : ∃ σ', fX12_reads_11 (n + 1) (nI d) 1 σ = fX12_reads_11 n (nI (pp (σ.1 13) d)) 0 σ' ∧ MC σ' t (tkAt t τ.2.2.1) (I ++ [lfm τ]) ∧ (∀ i, σ'.1 13 i = σ.1 13 i) ∧ (∀ i, σ'.1 14 i = σ.1 14 i) ∧ gM σ σ' := by
  have hk := pst_1 hp
  have hf4 := fct_4 τ
  obtain ⟨σ1, e1, k1, l1, c1, o1, q1, g1⟩ := m_puts h hk (lfm τ)
  obtain ⟨σ3, e3, m3, g3⟩ := m_adv2 (I := I) (c := lfm τ) k1 h.2.1 hk l1 c1 h.2.2.2.2
  have ev : (if nI (fct τ) ≤ 0 then (100 + (σ.1 0 8)) else nI (fct τ)) = lfm τ := by
    unfold lfm
    by_cases c : fct τ = 0
    · have h2' : τ.1 = 2 := by rcases hp with z | z | z | z; exact absurd c z; exact absurd z h2; exact absurd z h3; exact z
      rw [if_pos c, c, if_pos (by decide), h.1.2.2.2.2.2 h2', show (100 : Int32) = nI 100 from rfl, nI_add]
    · rw [if_neg c, if_neg (nI_nle (by omega) (by omega))]
  refine ⟨σ3, ?_, m3, fun i => by rw [g3.1 13 _ (by omega), o1], fun i => by rw [g3.1 14 _ (by omega), q1], gM_tr g1 (gM_fN g3)⟩
  rw [fX12_reads_11, if_neg (by decide), m_fact h.1 h.2.1, m_wd h (a := 17) (x := 10631) (by decide) rfl, m_sg h 40 (by decide) (by decide) (x := 40) rfl, fxBP_s, fxBP_s, fxBP_s]
  rw [fxL_r, m_part_s h hp, if_neg (d5_no hd)]
  simp only [fxL_r]
  rw [decide_eq_false h2, decide_eq_false h3, show bv false = 0 from rfl, if_pos rfl, if_pos rfl, ev, e1, fxBV_s, m_pp1 σ1 _ d FU (by omega) (by unfold FU; omega), e3, fxBV_s, pp_eq d (fun i _ => o1 i)]
end MR
