/-! ===== reading: the class's and the reference's moves together ===== -/
theorem si1s (σ : FH) (a k : Nat) (v : Int32) : (fx_si σ a k v).1 a k = v := by rw [si1, if_pos ⟨rfl, rfl⟩]
/-- what moves of the class change: its tokens and its fault; of the reference: tokens, fault, what was given, the fresh name -/
def fW (σ σ' : FH) : Prop := (∀ b j, ¬ (b = 3 ∧ 2 ≤ j ∧ j ≤ 8) → σ'.1 b j = σ.1 b j) ∧ (∀ b j, ¬ (b = 3 ∧ j = 7) → σ'.2.1 b j = σ.2.1 b j) ∧ σ'.2.2 = σ.2.2
def fY (σ σ' : FH) : Prop := (∀ b j, ¬ (b = 0 ∧ ((4 ≤ j ∧ j ≤ 9) ∨ j = 35)) → σ'.1 b j = σ.1 b j) ∧ (∀ b j, ¬ (b = 0 ∧ (j = 7 ∨ j = 36)) → σ'.2.1 b j = σ.2.1 b j) ∧ σ'.2.2 = σ.2.2
theorem fW_rf (σ : FH) : fW σ σ := ⟨fun _ _ _ => rfl, fun _ _ _ => rfl, rfl⟩
theorem fY_rf (σ : FH) : fY σ σ := ⟨fun _ _ _ => rfl, fun _ _ _ => rfl, rfl⟩
theorem fW_tr {a b c : FH} (h : fW a b) (h' : fW b c) : fW a c := ⟨fun q j z => (h'.1 q j z).trans (h.1 q j z), fun q j z => (h'.2.1 q j z).trans (h.2.1 q j z), h'.2.2.trans h.2.2⟩
theorem fY_tr {a b c : FH} (h : fY a b) (h' : fY b c) : fY a c := ⟨fun q j z => (h'.1 q j z).trans (h.1 q j z), fun q j z => (h'.2.1 q j z).trans (h.2.1 q j z), h'.2.2.trans h.2.2⟩
theorem fW_fA {a b : FH} (h : fA a b) : fW a b := ⟨fun q j z => h.1 q j (by omega), h.2.1, h.2.2⟩
theorem fY_fN {a b : FH} (h : fN a b) : fY a b := ⟨fun q j z => h.1 q j (by omega), fun q j z => h.2.1 q j (by omega), h.2.2⟩
theorem fW_w {σ : FH} {v : Int32} : fW σ (fx_si σ 3 8 v) := ⟨fun p j z => by rw [si1, if_neg (by omega)], fun _ _ _ => rfl, rfl⟩
theorem fY_w {σ : FH} {v : Int32} : fY σ (fx_si σ 0 9 v) := ⟨fun p j z => by rw [si1, if_neg (by omega)], fun _ _ _ => rfl, rfl⟩
theorem fY_g {σ : FH} {v : Int32} : fY σ (fx_si σ 0 35 v) := ⟨fun p j z => by rw [si1, if_neg (by omega)], fun _ _ _ => rfl, rfl⟩
theorem fY_n {σ : FH} {v : Int64} : fY σ (fx_sl σ 0 36 v) := ⟨fun _ _ _ => rfl, fun p j z => by rw [sl21, if_neg (by omega)], rfl⟩
/-- both stand at one token, no fault yet -/
def TJ (t : TP) (τ : TK) (σx σm : FH) : Prop := XT σx t τ ∧ TKok t τ ∧ σx.1 3 8 = 0 ∧ MK σm t τ
/-- both have one fault -/
def FL (σx σm σx' σm' : FH) : Prop := ∃ e : Nat, 0 < e ∧ e < 100000 ∧ σx'.1 3 8 = nI e ∧ σm'.1 0 9 = nI e ∧ fW σx σx' ∧ fY σm σm'
theorem FL_tr {a b c d e f : FH} (hx : fW a c) (hm : fY b d) (h : FL c d e f) : FL a b e f := by
  obtain ⟨k, h1, h2, h3, h4, h5, h6⟩ := h
  exact ⟨k, h1, h2, h3, h4, fW_tr hx h5, fY_tr hm h6⟩
section TJS
variable {t : TP} {τ : TK} {σx σm : FH}
theorem TJ_lt (h : TJ t τ σx σm) : τ.2.1 ≤ 1000 := by
  have h1 := h.2.1.2.1
  have h2 := h.2.1.2.2.1
  have h3 := h.1.1.1
  omega
theorem MK_w {v : Int32} (h : MK σm t τ) : MK (fx_si σm 0 35 v) t τ := MK_fr h (fun j j1 j2 => by rw [si1, if_neg (by omega)]) (fun j => by rw [si1, if_neg (by omega)]) rfl
theorem tj_fail (h : TJ t τ σx σm) (k : Nat) (h0 : 0 < k) (hk : k < 100) {x : Int32} (hx : x = nI k) : ∃ σx' σm', fX9_wrong x σx = some (0, σx') ∧ fX12_fails x σm = some (0, σm') ∧ FL σx σm σx' σm' := by
  have := TJ_lt h
  refine ⟨_, _, x_wrong h.1 h.2.2.1 k hx, m_fails h.2.2.2 k hx, k + 16 * τ.2.1, by omega, by omega, ?_, ?_, fW_w, fY_w⟩
  · rw [si1, if_pos ⟨rfl, rfl⟩]
  · rw [si1, if_pos ⟨rfl, rfl⟩]
theorem tj_adv (h : TJ t τ σx σm) : ∃ σx' σm', fX9_advance σx = some σx' ∧ fX12_nextToken σm = some σm' ∧ TJ t (tkAt t τ.2.2.1) σx' σm' ∧ τ.2.2.1 ≤ (tkAt t τ.2.2.1).2.1 ∧ fA σx σx' ∧ fN σm σm' := by
  obtain ⟨h1, h2, h3, h4⟩ := h
  obtain ⟨σx', e1, k1, o1, p1, g1⟩ := x_adv h1 h2
  obtain ⟨σm', e2, k2, -, -, g2⟩ := m_adv h4 h2
  exact ⟨σx', σm', e1, e2, ⟨k1, o1, by rw [g1.1 3 8 (by omega)]; exact h3, k2⟩, p1, g1, g2⟩
theorem TJ_sm (h : TJ t τ σx σm) {σm' : FH} (k : MK σm' t τ) : TJ t τ σx σm' := ⟨h.1, h.2.1, h.2.2.1, k⟩
/-- the semicolon -/
theorem tj_sign (h : TJ t τ σx σm) : (∃ σx' σm', fX9_takeSign 59 σx = some (0, σx') ∧ fX12_closes σm = some (0, σm') ∧ FL σx σm σx' σm') ∨ (∃ σx' σm' τ', fX9_takeSign 59 σx = some (1, σx') ∧ fX12_closes σm = some (1, σm') ∧ TJ t τ' σx' σm' ∧ τ.2.1 < τ'.2.1 ∧ fA σx σx' ∧ fN σm σm') := by
  unfold fX9_takeSign fX12_closes
  rw [x_isSign h.1 h.2.1 59 (by decide) (by decide) (x := 59) rfl, m_isSign h.2.2.2 h.2.1 59 (by decide) (by decide) (x := 59) rfl, fxBP_s, fxBP_s]
  by_cases c : sx t τ = 59
  · obtain ⟨σx', σm', e1, e2, k, p, g1, g2⟩ := tj_adv h
    have hk : τ.1 ≠ 1 := by rw [sx_1 (t := t) (τ := τ) (by omega)]; decide
    have := (h.2.1.2.2.2.1 hk).2
    refine Or.inr ⟨σx', σm', _, ?_, ?_, k, by omega, g1, g2⟩
    · rw [b1 c, io, e1, fxBV_s]
    · rw [b1 c, io, e2, fxBV_s]
  · obtain ⟨σx', σm', e1, e2, f⟩ := tj_fail h 1 (by decide) (by decide) (x := 1) rfl
    refine Or.inl ⟨σx', σm', ?_, ?_, f⟩
    · rw [b0 c, iz, e1, fxBI_s, fxG_t bo0]
    · rw [b0 c, iz, e2, fxBI_s, fxG_t bo0]
/-- a number -/
theorem tj_num (h : TJ t τ σx σm) (a b : Nat) (ha : a < 1000) (hb : b < 1000) {x y : Int32} (hx : x = nI a) (hy : y = nI b) : (∃ σx' σm', fX9_takeNumber x y σx = some (-1, σx') ∧ fX12_needsNumber x y σm = some (0, σm') ∧ FL σx σm σx' σm') ∨ (∃ σx' σm' τ' v, fX9_takeNumber x y σx = some (nI v, σx') ∧ fX12_needsNumber x y σm = some (1, σm') ∧ a ≤ v ∧ v ≤ b ∧ σm'.1 0 35 = nI v ∧ TJ t τ' σx' σm' ∧ τ.2.1 < τ'.2.1 ∧ fA σx σx' ∧ fY σm σm' ∧ σm'.2.1 0 36 = σm.2.1 0 36) := by
  unfold fX9_takeNumber fX12_needsNumber
  rw [x_isNumber h.1 h.2.1, fxBP_s]
  by_cases c : τ.1 = 2
  · have hm2 := (MK_k h.2.2.2 h.2.1 2 (by decide) (x := 2) rfl).mpr c
    have hv := h.2.1.2.2.2.2.2.1 c
    have e5 := h.1.2.2.2.2.2.1 c
    have e8 := h.2.2.2.2.2.2.2.2 c
    rw [b1 c, io, if_pos hm2, fxL_r, e5, e8, hx, hy]
    by_cases c1 : τ.2.2.2.2 < a ∨ b < τ.2.2.2.2
    · obtain ⟨σx', σm', e1, e2, f⟩ := tj_fail h 4 (by decide) (by decide) (x := 4) rfl
      refine Or.inl ⟨σx', σm', ?_, ?_, f⟩
      · rw [e1, fxBI_s]
        by_cases c2 : τ.2.2.2.2 < a
        · rw [if_pos (nI_lt c2 (by omega))]
        · rw [if_neg (nI_nlt (by omega) (by omega)), if_neg (le_no (by omega) (by omega))]
      · rw [wi_f (c1.elim (fun z => Or.inl (nI_lt z (by omega))) (fun z => Or.inr (nI_lt z (by omega)))), fxBP_s, iz, e2, fxBI_s, fxG_t bo0]
    · obtain ⟨σx', σm', e1, e2, k, p, g1, g2⟩ := tj_adv (TJ_sm h (MK_w (v := nI τ.2.2.2.2) h.2.2.2))
      have := (h.2.1.2.2.2.1 (by omega)).2
      refine Or.inr ⟨σx', σm', _, τ.2.2.2.2, ?_, ?_, by omega, by omega, ?_, k, by omega, g1, fY_tr fY_g (fY_fN g2), ?_⟩
      · rw [if_neg (nI_nlt (by omega) (by omega)), if_pos (nI_le (by omega) (by omega)), fxL_r, e1, fxBV_s]
      · rw [wi_t (nI_nlt (by omega) (by omega)) (nI_nlt (by omega) (by omega)), fxBP_s, io, fxL_r, e2, fxBV_s]
      · rw [g2.1 0 35 (by omega), si1, if_pos ⟨rfl, rfl⟩]
      · rw [g2.2.1 0 36 (by omega)]; rfl
  · have hm2 : ¬ σm.1 0 6 = 2 := fun z => c ((MK_k h.2.2.2 h.2.1 2 (by decide) (x := 2) rfl).mp z)
    obtain ⟨σx', σm', e1, e2, f⟩ := tj_fail h 1 (by decide) (by decide) (x := 1) rfl
    refine Or.inl ⟨σx', σm', ?_, ?_, f⟩
    · rw [b0 c, iz, e1, fxBI_s]
    · rw [if_neg hm2, e2, fxBI_s, fxG_t bo0]
/-- a word and a number -/
theorem tj_both (h : TJ t τ σx σm) (w : Nat) (hw : w < 24) {z : Int64} (hz : z = k27.getD w 0) (a b : Nat) (ha : a < 1000) (hb : b < 1000) {x y : Int32} (hx : x = nI a) (hy : y = nI b) :
    (∃ σx' σm', fX9_takeWord w σx = some (0, σx') ∧ fX12_needsBoth z x y σm = some (0, σm') ∧ FL σx σm σx' σm') ∨ (∃ σx1 σx' σm', fX9_takeWord w σx = some (1, σx1) ∧ fX9_takeNumber x y σx1 = some (-1, σx') ∧ fX12_needsBoth z x y σm = some (0, σm') ∧ FL σx σm σx' σm') ∨ (∃ σx1 σx' σm' τ' v, fX9_takeWord w σx = some (1, σx1) ∧ fX9_takeNumber x y σx1 = some (nI v, σx') ∧ fX12_needsBoth z x y σm = some (1, σm') ∧ a ≤ v ∧ v ≤ b ∧ σm'.1 0 35 = nI v ∧ TJ t τ' σx' σm' ∧ τ.2.1 < τ'.2.1 ∧ fA σx σx' ∧ fY σm σm' ∧ σm'.2.1 0 36 = σm.2.1 0 36) := by
  unfold fX9_takeWord fX12_needsBoth
  rw [fxG_t hw, x_isWord h.1 h.2.1 hw, m_isWord h.2.2.2 h.2.1 hw hz, fxBP_s, fxBP_s]
  by_cases c : wx τ = w
  · obtain ⟨σx1, σm1, e1, e2, k, p, g1, g2⟩ := tj_adv h
    have hk : τ.1 ≠ 1 := by rw [wx_1 (τ := τ) (by omega)]; decide
    have hlt := (h.2.1.2.2.2.1 hk).2
    rw [b1 c, io, io, e1, e2, fxBV_s, fxBV_s]
    rcases tj_num k a b ha hb hx hy with ⟨σx', σm', n1, n2, f⟩ | ⟨σx', σm', τ', v, n1, n2, v1, v2, v3, k', p', g1', g2', n3⟩
    · refine Or.inr (Or.inl ⟨σx1, σx', σm', rfl, n1, ?_, FL_tr (fW_fA g1) (fY_fN g2) f⟩)
      rw [n2, fxBI_s, fxG_t bo0]
    · refine Or.inr (Or.inr ⟨σx1, σx', σm', τ', v, rfl, n1, ?_, v1, v2, v3, k', by omega, fA_tr g1 g1', fY_tr (fY_fN g2) g2', n3.trans (g2.2.1 0 36 (by omega))⟩)
      rw [n2, fxBI_s, fxG_t bo1]
  · obtain ⟨σx', σm', e1, e2, f⟩ := tj_fail h 1 (by decide) (by decide) (x := 1) rfl
    refine Or.inl ⟨σx', σm', ?_, ?_, f⟩
    · rw [b0 c, iz, e1, fxBI_s, fxG_t bo0]
    · rw [b0 c, iz, e2, fxBI_s, fxG_t bo0]
/-- the names that both know: o is 0 for the republic, 1 for the one that is read -/
def NXo (σx σm : FH) (T o nw np : Nat) (wn pn : Nat → List Nat) : Prop := nw ≤ 6 ∧ np ≤ 5 ∧ σx.1 T 0 = nI nw ∧ σx.1 T 5 = nI np ∧ σm.1 2 (3 * o + 0) = nI nw ∧ σm.1 2 (3 * o + 1) = nI np ∧ (∀ i, i < nw → wOK (wn i) ∧ σx.2.1 (T + 1) i = lN (enc 32 (wn i)) ∧ σm.2.1 3 (6 * o + i) = lN (enc 27 (wn i))) ∧ ∀ p, p < np → wOK (pn p) ∧ σx.2.1 (T + 5) p = lN (enc 32 (pn p)) ∧ σm.2.1 4 (5 * o + p) = lN (enc 27 (pn p))
def tOk (T : Nat) : Prop := T = 17 ∨ T = 28
theorem tOk_L {T : Nat} (h : tOk T) : LX[T]? = some (5, 0) := by rcases h with rfl | rfl <;> rfl
theorem NXo_fr {σx' σm' : FH} {T o nw np : Nat} {wn pn : Nat → List Nat} (hT : tOk T) (h : NXo σx σm T o nw np wn pn) (g1 : fW σx σx') (g2 : fY σm σm') : NXo σx' σm' T o nw np wn pn := by
  have hT' : T = 17 ∨ T = 28 := hT
  obtain ⟨h1, h2, h3, h4, h5, h6, h7, h8⟩ := h
  refine ⟨h1, h2, (g1.1 T 0 (by omega)).trans h3, (g1.1 T 5 (by omega)).trans h4, (g2.1 2 _ (by omega)).trans h5, (g2.1 2 _ (by omega)).trans h6, fun i hi => ⟨(h7 i hi).1, (g1.2.1 (T + 1) i (by omega)).trans (h7 i hi).2.1, (g2.2.1 3 _ (by omega)).trans (h7 i hi).2.2⟩, fun i hi => ⟨(h8 i hi).1, (g1.2.1 (T + 5) i (by omega)).trans (h8 i hi).2.1, (g2.2.1 4 _ (by omega)).trans (h8 i hi).2.2⟩⟩
theorem nr_s (f : Nat → List Nat) (w : List Nat) {n : Nat} (hn : n ≤ 6) : (nr f w n = -1 ∧ ¬ (0 : Int32) ≤ nr f w n ∧ nr f w n < 0) ∨ ∃ p, p < n ∧ nr f w n = nI p ∧ (0 : Int32) ≤ nr f w n ∧ ¬ nr f w n < 0 ∧ nr f w n ≠ -1 := by
  unfold nr
  by_cases c : fnm f w n 0 < n
  · rw [if_pos c]
    refine Or.inr ⟨_, c, rfl, nI_pos' (by omega), nI_pos (by omega), fun z => ?_⟩
    have := nI_pos (n := fnm f w n 0) (by omega)
    rw [z] at this
    exact this (by decide)
  · rw [if_neg c]
    exact Or.inl ⟨rfl, by decide, by decide⟩
section NMS
variable {T o nw np : Nat} {wn pn : Nat → List Nat}
/-- a new name -/
theorem tj_new (hT : tOk T) (h : TJ t τ σx σm) (hN : NXo σx σm T 1 nw np wn pn) : (∃ σx' σm', fX4_takeNewName T σx = some (0, σx') ∧ fX12_needsNew σm = some (0, σm') ∧ FL σx σm σx' σm') ∨ (∃ σx' σm' τ' w, fX4_takeNewName T σx = some (1, σx') ∧ fX12_needsNew σm = some (1, σm') ∧ wOK w ∧ σx.2.1 3 7 = lN (enc 32 w) ∧ σm'.2.1 0 36 = lN (enc 27 w) ∧ TJ t τ' σx' σm' ∧ τ.2.1 < τ'.2.1 ∧ fA σx σx' ∧ fY σm σm') := by
  obtain ⟨h1, h2, h3, h4, h5, h6, h7, h8⟩ := hN
  unfold fX4_takeNewName fX12_needsNew
  rw [fxG_t (tOk_L hT), x_isName h.1 h.2.1, m_isKept h.2.2.2 h.2.1, fxBP_s, fxBP_s]
  cases c : nmd τ with
  | true =>
    have k3 := nmd_3 c
    have hw := h.2.1.2.2.2.2.1 k3
    have ex := h.1.2.2.2.2.1 k3
    have em := h.2.2.2.2.2.2.2.1 k3
    rw [bv_t, io, show bv (!true) = 0 from rfl, iz, ex, x_wareNamed (tOk_L hT) h3 h1 (fun i hi => ⟨(h7 i hi).1, (h7 i hi).2.1⟩) hw, x_partyNamed (tOk_L hT) h4 h2 (fun i hi => ⟨(h8 i hi).1, (h8 i hi).2.1⟩) hw, m_wareNamed (o := 1) (by decide) h5 h1 (fun i hi => ⟨(h7 i hi).1, (h7 i hi).2.2⟩) hw em (x := 1) rfl, m_partyNamed (o := 1) (by decide) h6 h2 (fun i hi => ⟨(h8 i hi).1, (h8 i hi).2.2⟩) hw em (x := 1) rfl, fxBP_s, fxBP_s, fxL_r, fxL_r]
    obtain ⟨σxf, σmf, f1, f2, f⟩ := tj_fail h 3 (by decide) (by decide) (x := 3) rfl
    rw [f1, f2, fxBI_s, fxBI_s, fxG_t bo0, fxG_t bo0]
    rcases nr_s wn τ.2.2.2.1 h1 with ⟨a1, a2, a3⟩ | ⟨p, p1, p2, p3, p4, p5⟩
    · rw [if_pos a1, if_neg a2, fxBP_s, fxBP_s]
      rcases nr_s pn τ.2.2.2.1 (show np ≤ 6 by omega) with ⟨b1', b2', b3'⟩ | ⟨p, p1, p2, p3, p4, p5⟩
      · obtain ⟨σx', σm', e1, e2, k, pp', g1, g2⟩ := tj_adv (TJ_sm h (σm' := fx_sl σm 0 36 (σm.2.1 0 7)) (MK_fr h.2.2.2 (fun _ _ _ => rfl) (fun _ => rfl) (by rw [sl21, if_neg (by decide)])))
        have hlt := (h.2.1.2.2.2.1 (by omega)).2
        refine Or.inr ⟨σx', σm', _, τ.2.2.2.1, ?_, ?_, hw, rfl, ?_, k, by omega, g1, fY_tr fY_n (fY_fN g2)⟩
        · rw [if_pos b1', e1, fxBV_s]
        · rw [if_pos b3', fxL_r, e2, fxBV_s]
        · rw [g2.2.1 0 36 (by omega), sl21, if_pos ⟨rfl, rfl⟩]; exact em
      · refine Or.inl ⟨σxf, σmf, ?_, ?_, f⟩
        · rw [if_neg p5]
        · rw [if_neg p4]
    · refine Or.inl ⟨σxf, σmf, ?_, ?_, f⟩
      · rw [if_neg p5]
      · rw [if_pos p3]
  | false =>
    obtain ⟨σxf, σmf, f1, f2, f⟩ := tj_fail h 1 (by decide) (by decide) (x := 1) rfl
    refine Or.inl ⟨σxf, σmf, ?_, ?_, f⟩
    · rw [bv_f, iz, f1, fxBI_s, fxG_t bo0]
    · rw [show bv (!false) = 1 from rfl, io, f2, fxBI_s, fxG_t bo0]
/-- who or what is named here -/
theorem tj_ware (hT : tOk T) (ho : o ≤ 1) (h : TJ t τ σx σm) (hN : NXo σx σm T o nw np wn pn) {y : Int32} (hy : y = nI o) : ∃ r, fX4_wareHere T σx = some r ∧ ((r = -1 ∧ ∃ σx' σm', (∀ f, fX4_takeNamed r f σx = some (-1, σx')) ∧ fX12_needsWare y σm = some (0, σm') ∧ FL σx σm σx' σm') ∨ (nmd τ = true ∧ ∃ p, p < nw ∧ r = nI p ∧ fX12_needsWare y σm = some (1, fx_si σm 0 35 (nI p)))) := by
  obtain ⟨h1, h2, h3, h4, h5, h6, h7, h8⟩ := hN
  unfold fX4_wareHere fX12_needsWare
  rw [fxG_t (tOk_L hT), x_isName h.1 h.2.1, m_isKept h.2.2.2 h.2.1, fxBP_s, fxBP_s]
  cases c : nmd τ with
  | true =>
    have k3 := nmd_3 c
    have hw := h.2.1.2.2.2.2.1 k3
    have ex := h.1.2.2.2.2.1 k3
    have em := h.2.2.2.2.2.2.2.1 k3
    rw [bv_t, io, show bv (!true) = 0 from rfl, iz, ex, x_wareNamed (tOk_L hT) h3 h1 (fun i hi => ⟨(h7 i hi).1, (h7 i hi).2.1⟩) hw, m_wareNamed ho h5 h1 (fun i hi => ⟨(h7 i hi).1, (h7 i hi).2.2⟩) hw em hy, fxBP_s, fxBP_s, fxL_r, si1s]
    refine ⟨_, rfl, ?_⟩
    rcases nr_s wn τ.2.2.2.1 h1 with ⟨a1, a2, a3⟩ | ⟨p, p1, p2, p3, p4, p5⟩
    · obtain ⟨σxf, σmf, f1, f2, f⟩ := tj_fail (TJ_sm h (MK_w (v := nr wn τ.2.2.2.1 nw) h.2.2.2)) 2 (by decide) (by decide) (x := 2) rfl
      refine Or.inl ⟨a1, σxf, σmf, fun q => ?_, ?_, FL_tr (fW_rf _) fY_g f⟩
      · unfold fX4_takeNamed
        rw [x_isName h.1 h.2.1, fxBP_s, c, bv_t, io, if_pos a1, f1, fxBI_s]
      · rw [if_neg a2, f2, fxBI_s, if_pos rfl]
    · refine Or.inr ⟨rfl, p, p1, p2, ?_⟩
      rw [if_pos p3, p2]
  | false =>
    obtain ⟨σxf, σmf, f1, f2, f⟩ := tj_fail h 1 (by decide) (by decide) (x := 1) rfl
    rw [bv_f, iz]
    refine ⟨_, rfl, Or.inl ⟨rfl, σxf, σmf, fun q => ?_, ?_, f⟩⟩
    · unfold fX4_takeNamed
      rw [x_isName h.1 h.2.1, fxBP_s, c, bv_f, iz, f1, fxBI_s]
    · rw [show bv (!false) = 1 from rfl, io, f2, fxBI_s, fxG_t bo0]
theorem tj_party (hT : tOk T) (ho : o ≤ 1) (h : TJ t τ σx σm) (hN : NXo σx σm T o nw np wn pn) {y : Int32} (hy : y = nI o) : ∃ r, fX4_partyHere T σx = some r ∧ ((r = -1 ∧ ∃ σx' σm', (∀ f, fX4_takeNamed r f σx = some (-1, σx')) ∧ fX12_needsParty y σm = some (0, σm') ∧ FL σx σm σx' σm') ∨ (nmd τ = true ∧ ∃ p, p < np ∧ r = nI p ∧ fX12_needsParty y σm = some (1, fx_si σm 0 35 (nI p)))) := by
  obtain ⟨h1, h2, h3, h4, h5, h6, h7, h8⟩ := hN
  unfold fX4_partyHere fX12_needsParty
  rw [fxG_t (tOk_L hT), x_isName h.1 h.2.1, m_isKept h.2.2.2 h.2.1, fxBP_s, fxBP_s]
  cases c : nmd τ with
  | true =>
    have k3 := nmd_3 c
    have hw := h.2.1.2.2.2.2.1 k3
    have ex := h.1.2.2.2.2.1 k3
    have em := h.2.2.2.2.2.2.2.1 k3
    rw [bv_t, io, show bv (!true) = 0 from rfl, iz, ex, x_partyNamed (tOk_L hT) h4 h2 (fun i hi => ⟨(h8 i hi).1, (h8 i hi).2.1⟩) hw, m_partyNamed ho h6 h2 (fun i hi => ⟨(h8 i hi).1, (h8 i hi).2.2⟩) hw em hy, fxBP_s, fxBP_s, fxL_r, si1s]
    refine ⟨_, rfl, ?_⟩
    rcases nr_s pn τ.2.2.2.1 (show np ≤ 6 by omega) with ⟨a1, a2, a3⟩ | ⟨p, p1, p2, p3, p4, p5⟩
    · obtain ⟨σxf, σmf, f1, f2, f⟩ := tj_fail (TJ_sm h (MK_w (v := nr pn τ.2.2.2.1 np) h.2.2.2)) 2 (by decide) (by decide) (x := 2) rfl
      refine Or.inl ⟨a1, σxf, σmf, fun q => ?_, ?_, FL_tr (fW_rf _) fY_g f⟩
      · unfold fX4_takeNamed
        rw [x_isName h.1 h.2.1, fxBP_s, c, bv_t, io, if_pos a1, f1, fxBI_s]
      · rw [if_neg a2, f2, fxBI_s, if_pos rfl]
    · refine Or.inr ⟨rfl, p, p1, p2, ?_⟩
      rw [if_pos p3, p2]
  | false =>
    obtain ⟨σxf, σmf, f1, f2, f⟩ := tj_fail h 1 (by decide) (by decide) (x := 1) rfl
    rw [bv_f, iz]
    refine ⟨_, rfl, Or.inl ⟨rfl, σxf, σmf, fun q => ?_, ?_, f⟩⟩
    · unfold fX4_takeNamed
      rw [x_isName h.1 h.2.1, fxBP_s, c, bv_f, iz, f1, fxBI_s]
    · rw [show bv (!false) = 1 from rfl, io, f2, fxBI_s, fxG_t bo0]
/-- it is taken, if it isn't the first one -/
theorem x_named (h : TJ t τ σx σm) (c : nmd τ = true) {p : Nat} (hp : p < 6) (f : Int32) : fX4_takeNamed (nI p) f σx = if nI p = f then (fxBI (fX9_wrong 3 σx) fun r11 σ12 => some (((-1) : Int32), σ12)) else fxBV (fX9_advance σx) fun σ9 => some (nI p, σ9) := by
  unfold fX4_takeNamed
  rw [x_isName h.1 h.2.1, fxBP_s, c, bv_t, io, if_neg (fun z => by have := nI_pos (n := p) (by omega); rw [z] at this; exact this (by decide))]
theorem nI_nm1 {p : Nat} (hp : p < 1000) : ¬ nI p = -1 := fun z => by have := nI_pos (n := p) (by omega); rw [z] at this; exact this (by decide)
end NMS
end TJS
