/-! ===== telling a republic: any statement, all of them ===== -/
/-- the class's statement, the reference's -/
def stX (T : Nat) (σ : FH) : Option (Int32 × FH) := fxBI (fX4_readTelling T σ) fun r24 σ25 => if r24 = 0 then some ((0 : Int32), σ25) else fX9_takeSign 59 σ25
def wch {β : Type} (τ : TK) (a b c d e f : β) : β := if wx τ = 0 then a else if wx τ = 3 then b else if wx τ = 5 then c else if wx τ = 6 then d else if wx τ = 7 then e else f
section STA
variable {t : TP} {τ : TK} {σx σm : FH} {T : Nat}
theorem x_telling (hT : tOk T) (h : TJ t τ σx σm) : stX T σx = wch τ (xEnd (fX4_readWare T σx)) (xEnd (fX4_readParty T σx)) (xEnd (fX4_readCause T σx)) (xEnd (fX4_readFine T σx)) (xEnd (fX4_readWorks T σx)) (xEnd (fX9_wrong 1 σx)) := by
  unfold stX fX4_readTelling wch xEnd
  rw [fxG_t (tOk_L hT), x_isWord h.1 h.2.1 (a := 0) (by decide), x_isWord h.1 h.2.1 (a := 3) (by decide), x_isWord h.1 h.2.1 (a := 5) (by decide), x_isWord h.1 h.2.1 (a := 6) (by decide), x_isWord h.1 h.2.1 (a := 7) (by decide), fxBP_s]
  by_cases c0 : wx τ = 0
  · rw [b1 c0, io, if_pos c0]
  rw [b0 c0, iz, if_neg c0, fxBP_s]
  by_cases c1 : wx τ = 3
  · rw [b1 c1, io, if_pos c1]
  rw [b0 c1, iz, if_neg c1, fxBP_s]
  by_cases c2 : wx τ = 5
  · rw [b1 c2, io, if_pos c2]
  rw [b0 c2, iz, if_neg c2, fxBP_s]
  by_cases c3 : wx τ = 6
  · rw [b1 c3, io, if_pos c3]
  rw [b0 c3, iz, if_neg c3, fxBP_s]
  by_cases c4 : wx τ = 7
  · rw [b1 c4, io, if_pos c4]
  rw [b0 c4, iz, if_neg c4]
theorem m_tell_ch (J : Int32 → FH → Option (Int32 × FH)) (F A B C D E : Option (Int32 × FH)) : (fxL J fun J22 => if bv (decide (wx τ = 0)) = 0 then (fxBP (some (bv (decide (wx τ = 3)))) fun r28 => if r28 = 0 then (fxBP (some (bv (decide (wx τ = 5)))) fun r32 => if r32 = 0 then (fxBP (some (bv (decide (wx τ = 6)))) fun r36 => if r36 = 0 then (fxBP (some (bv (decide (wx τ = 7)))) fun r40 => if r40 = 0 then (fxBI F fun r44 σ45 => J22 r44 σ45) else (fxBI E fun r47 σ48 => J22 r47 σ48)) else (fxBI D fun r50 σ51 => J22 r50 σ51)) else (fxBI C fun r53 σ54 => J22 r53 σ54)) else (fxBI B fun r56 σ57 => J22 r56 σ57)) else (fxBI A fun r59 σ60 => J22 r59 σ60)) = fxBI (wch τ A B C D E F) J := by
  unfold wch
  rw [fxL_r]
  by_cases c0 : wx τ = 0
  · rw [b1 c0, io, if_pos c0]
  rw [b0 c0, iz, if_neg c0, fxBP_s]
  by_cases c1 : wx τ = 3
  · rw [b1 c1, io, if_pos c1]
  rw [b0 c1, iz, if_neg c1, fxBP_s]
  by_cases c2 : wx τ = 5
  · rw [b1 c2, io, if_pos c2]
  rw [b0 c2, iz, if_neg c2, fxBP_s]
  by_cases c3 : wx τ = 6
  · rw [b1 c3, io, if_pos c3]
  rw [b0 c3, iz, if_neg c3, fxBP_s]
  by_cases c4 : wx τ = 7
  · rw [b1 c4, io, if_pos c4]
  rw [b0 c4, iz, if_neg c4]
def stM (τ : TK) (σ : FH) : Option (Int32 × FH) := wch τ (fX12_readsWare σ) (fX12_readsParty σ) (fX12_readsFor σ) (fX12_readsFine σ) (fX12_readsWorks σ) (fX12_fails 1 σ)
theorem st_all (hT : tOk T) (h : DR T t τ σx σm) (hk : τ.1 ≠ 1) : SF T σx σm (stX T σx) (stM τ σm) ∨ SG T t τ σx σm (stX T σx) (stM τ σm) := by
  rw [x_telling hT h.1]
  unfold stM wch
  by_cases c0 : wx τ = 0
  · rw [if_pos c0, if_pos c0]; exact st_ware hT h hk
  rw [if_neg c0, if_neg c0]
  by_cases c1 : wx τ = 3
  · rw [if_pos c1, if_pos c1]; exact st_party hT h hk
  rw [if_neg c1, if_neg c1]
  by_cases c2 : wx τ = 5
  · rw [if_pos c2, if_pos c2]; exact st_for hT h hk
  rw [if_neg c2, if_neg c2]
  by_cases c3 : wx τ = 6
  · rw [if_pos c3, if_pos c3]; exact st_fine hT h hk
  rw [if_neg c3, if_neg c3]
  by_cases c4 : wx τ = 7
  · rw [if_pos c4, if_pos c4]; exact st_works hT h hk
  rw [if_neg c4, if_neg c4]
  obtain ⟨σx', σm', e1, e2, f⟩ := tj_fail h.1 1 (by decide) (by decide) (x := 1) rfl
  exact Or.inl (SF_FL (hX_rf T σx) (hM_rf σm) f (xEnd_0 e1) e2)
/-- a turn of the class's loop -/
theorem st_turn {o : Option (Int32 × FH)} {R0 R1 : FH → Option (Int32 × FH)} {v : Int32} {σ' : FH} (h : (fxBI o fun r24 σ25 => if r24 = 0 then some ((0 : Int32), σ25) else fX9_takeSign 59 σ25) = some (v, σ')) : (fxBI o fun r24 σ25 => if r24 = 0 then R0 σ25 else (fxBI (fX9_takeSign 59 σ25) fun r28 σ29 => if r28 = 0 then R0 σ29 else R1 σ29)) = if v = 0 then R0 σ' else R1 σ' := by
  cases o with
  | none => cases h
  | some p =>
    obtain ⟨r, s⟩ := p
    rw [fxBI_s] at h ⊢
    by_cases c : r = 0
    · rw [if_pos c] at h ⊢
      have e := Option.some.inj h
      have e1 : (0 : Int32) = v := congrArg Prod.fst e
      have e2 : s = σ' := congrArg Prod.snd e
      rw [← e1, ← e2, if_pos rfl]
    · rw [if_neg c] at h ⊢
      rw [h, fxBI_s]
theorem rep_0 {K7 : FH → Option (Int32 × FH)} {k : Nat} {i : Int32} {σ : FH} : fX4_readRepublic_15 T K7 (k + 1) 0 i σ = K7 σ := by
  rw [fX4_readRepublic_15]
  by_cases c : 1000 ≤ i
  · rw [if_pos c]
  · rw [if_neg c, if_pos rfl]
theorem rep_loop (hT : tOk T) (K7 K13 : FH → Option (Int32 × FH)) : ∀ (m n k i : Nat) (τ : TK) (σx σm : FH), t.1 < m + τ.2.1 → m < n → m + 1 < k → i ≤ τ.2.1 → DR T t τ σx σm →
    (∃ (e : Nat) (σx' σm' : FH), 0 < e ∧ e < 100000 ∧ fX4_readRepublic_15 T K7 k 1 (nI i) σx = K7 σx' ∧ σx'.1 3 8 = nI e ∧ hX T σx σx' ∧ fX12_readsAll_39 K13 n σm = some (0, σm') ∧ σm'.1 0 9 = nI e ∧ hM σm σm') ∨ (∃ (σx' σm' : FH) (τ' : TK), fX4_readRepublic_15 T K7 k 1 (nI i) σx = K7 σx' ∧ hX T σx σx' ∧ fX12_readsAll_39 K13 n σm = K13 σm' ∧ hM σm σm' ∧ DR T t τ' σx' σm')
  | 0, n, k, i, τ, σx, σm, h, _, _, _, hD => absurd h (by have := hD.1.2.1.2.1; have := hD.1.2.1.2.2.1; omega)
  | m + 1, n, k, i, τ, σx, σm, h1, h2, h3, h4, hD => by
    obtain ⟨n, rfl⟩ : ∃ n', n = n' + 1 := ⟨n - 1, by omega⟩
    obtain ⟨k, rfl⟩ : ∃ k', k = k' + 2 := ⟨k - 2, by omega⟩
    have hJ := hD.1
    have hL0 := hJ.1.1.1
    have u1 := hJ.2.1.2.1
    have u2 := hJ.2.1.2.2.1
    by_cases c : τ.1 = 1
    · refine Or.inr ⟨σx, σm, τ, ?_, hX_rf T σx, ?_, hM_rf σm, hD⟩
      · rw [fX4_readRepublic_15]
        by_cases c2 : 1000 ≤ nI i
        · rw [if_pos c2]
        · rw [if_neg c2, if_neg (by decide), x_atEnd hJ.1 hJ.2.1, fxBP_s, b1 c, io]
      · rw [fX12_readsAll_39, if_pos ((MK_k hJ.2.2.2 hJ.2.1 1 (by decide) (x := 0) rfl).mpr c)]
    · have hlt := (hJ.2.1.2.2.2.1 c).1
      have hi : i < 1000 := by omega
      have ex : fX4_readRepublic_15 T K7 (k + 2) 1 (nI i) σx = fxBI (fX4_readTelling T σx) fun r24 σ25 => if r24 = 0 then fX4_readRepublic_15 T K7 (k + 1) 0 (nI (i + 1)) σ25 else (fxBI (fX9_takeSign 59 σ25) fun r28 σ29 => if r28 = 0 then fX4_readRepublic_15 T K7 (k + 1) 0 (nI (i + 1)) σ29 else fX4_readRepublic_15 T K7 (k + 1) 1 (nI (i + 1)) σ29) := by
        rw [fX4_readRepublic_15, if_neg (show ¬ (1000 : Int32) ≤ nI i from le_no (b := 1000) hi (by decide)), if_neg (by decide), x_atEnd hJ.1 hJ.2.1, fxBP_s, b0 c, iz, nI_1]
      have em : fX12_readsAll_39 K13 (n + 1) σm = fxBI (stM τ σm) fun y23 σ24 => if y23 = 0 then some ((0 : Int32), σ24) else fX12_readsAll_39 K13 n σ24 := by
        rw [fX12_readsAll_39, if_neg (fun z => c ((MK_k hJ.2.2.2 hJ.2.1 1 (by decide) (x := 0) rfl).mp z)), m_isWord hJ.2.2.2 hJ.2.1 (a := 0) (by decide) (x := 453929) rfl, m_isWord hJ.2.2.2 hJ.2.1 (a := 3) (by decide) (x := 8536426) rfl, m_isWord hJ.2.2.2 hJ.2.1 (a := 5) (by decide) (x := 4797) rfl, m_isWord hJ.2.2.2 hJ.2.1 (a := 6) (by decide) (x := 125042) rfl, m_isWord hJ.2.2.2 hJ.2.1 (a := 7) (by decide) (x := 12531826) rfl, fxBP_s, m_tell_ch]
        rfl
      rcases st_all hT hD c with F | G
      · obtain ⟨e, σx', σm', e0, e1, r1, r2, r3, r4, r5, r6⟩ := F
        refine Or.inl ⟨e, σx', σm', e0, e1, ?_, r2, r3, ?_, r5, r6⟩
        · rw [ex, st_turn r1, if_pos rfl, rep_0]
        · rw [em, r4, fxBI_s, if_pos rfl]
      · obtain ⟨σx', σm', τ', r1, r2, r3, r4, r5, r6⟩ := G
        have ex' : fX4_readRepublic_15 T K7 (k + 2) 1 (nI i) σx = fX4_readRepublic_15 T K7 (k + 1) 1 (nI (i + 1)) σx' := by rw [ex, st_turn r1, if_neg (by decide)]
        have em' : fX12_readsAll_39 K13 (n + 1) σm = fX12_readsAll_39 K13 n σm' := by rw [em, r3, fxBI_s, if_neg (by decide)]
        rw [ex', em']
        rcases rep_loop hT K7 K13 m n (k + 1) (i + 1) τ' σx' σm' (by omega) (by omega) (by omega) (by omega) r5 with ⟨e, σx2, σm2, e0, e1, s1, s2, s3, s4, s5, s6⟩ | ⟨σx2, σm2, τ2, s1, s2, s3, s4, s5⟩
        · exact Or.inl ⟨e, σx2, σm2, e0, e1, s1, s2, hX_tr r2 s3, s4, s5, hM_tr r4 s6⟩
        · exact Or.inr ⟨σx2, σm2, τ2, s1, hX_tr r2 s2, s3, hM_tr r4 s4, s5⟩
end STA
/-- before the first token -/
theorem x_beg {σ : FH} {t : TP} (h : XP σ t) : ∃ σ', fX9_begin σ = some σ' ∧ XT σ' t (tkAt t 0) ∧ σ'.1 3 8 = 0 ∧ fW σ σ' := by
  have g : fW σ (fx_si (fx_si σ 3 8 0) 3 3 0) := ⟨fun b j z => by rw [si1n _ (by omega), si1n _ (by omega)], fun _ _ _ => rfl, rfl⟩
  have h' : XP (fx_si (fx_si σ 3 8 0) 3 3 0) t := ⟨h.1, by rw [si1n _ (by omega), si1n _ (by omega)]; exact h.2.1, fun j hj => ⟨(h.2.2 j hj).1, by rw [si1n _ (by omega), si1n _ (by omega)]; exact (h.2.2 j hj).2⟩⟩
  obtain ⟨σ', e, k, g2⟩ := x_advance (q := 0) h' (si1s _ _ _ _) (Nat.zero_le _)
  refine ⟨σ', ?_, k, ?_, fW_tr g (fW_fA g2)⟩
  · unfold fX9_begin
    rw [fxL_r, fxL_r, e, fxBV_s]
  · rw [g2.1 3 8 (by omega), si1n _ (by omega), si1s]
def fB (σ σ' : FH) : Prop := (∀ b j, ¬ (b = 0 ∧ (j = 1 ∨ (3 ≤ j ∧ j ≤ 8))) → σ'.1 b j = σ.1 b j) ∧ (∀ b j, ¬ (b = 0 ∧ j = 7) → σ'.2.1 b j = σ.2.1 b j) ∧ σ'.2.2 = σ.2.2
theorem m_beg {σ : FH} {t : TP} (h1 : t.1 ≤ 1000) (h2 : σ.1 0 1 = nI t.1) (h3 : ∀ j, j < t.1 → tOK (t.2 j) ∧ σ.1 1 j = nI (t.2 j)) : ∃ σ', fX12_begins σ = some σ' ∧ MK σ' t (tkAt t 0) ∧ σ'.1 0 1 = 0 ∧ fB σ σ' := by
  have h' : MPs (fx_si (fx_si (fx_si σ 0 3 (nI t.1)) 0 1 0) 0 4 0) t := ⟨h1, by rw [si1n _ (by omega), si1n _ (by omega), si1s], fun j hj => ⟨(h3 j hj).1, by rw [si1n _ (by omega), si1n _ (by omega), si1n _ (by omega)]; exact (h3 j hj).2⟩⟩
  obtain ⟨σ', e, k, g2⟩ := m_next (q := 0) h' (si1s _ _ _ _) (Nat.zero_le _)
  refine ⟨σ', ?_, k, ?_, ⟨fun b j z => ?_, fun b j z => g2.2.1 b j z, g2.2.2⟩⟩
  · unfold fX12_begins
    rw [h2, fxL_r, fxL_r, fxL_r, e, fxBV_s]
  · rw [g2.1 0 1 (by omega), si1n _ (by omega), si1s]
  · rw [g2.1 b j (by omega), si1n _ (by omega), si1n _ (by omega), si1n _ (by omega)]
