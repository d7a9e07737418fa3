/-! ===== feed ===== -/
def shc (i : Nat) : Int32 := nI 56 - nI (8 * i)
def byI (x : Int64) (i : Nat) : Int32 := Int64.toInt32 (((Int64.toUInt64 x >>> ((Int32.toInt64 (shc i)).toUInt64 &&& Int64.toUInt64 63)).toInt64) &&& 255)
theorem byte_ex (z : Int64) : ∃ b : Nat, b < 256 ∧ Int64.toInt32 (z &&& 255) = nI b := by
  refine ⟨(z.toBitVec &&& 255#64).toNat, ?_, ?_⟩
  · rw [BitVec.toNat_and]
    exact Nat.lt_of_le_of_lt Nat.and_le_right (by decide)
  · have : z &&& 255 = Int64.ofNat (z.toBitVec &&& 255#64).toNat := by
      apply Int64.toBitVec.inj
      rw [Int64.toBitVec_and]
      show z.toBitVec &&& 255#64 = BitVec.ofNat 64 _
      rw [BitVec.ofNat_toNat]
      rfl
    rw [this]
    exact Int64.toInt32_ofNat'
theorem by_ex (x : Int64) (i : Nat) : ∃ b : Nat, b < 256 ∧ byI x i = nI b := byte_ex _
noncomputable def byN (x : Int64) (i : Nat) : Nat := (by_ex x i).choose
theorem byN_s (x : Int64) (i : Nat) : byN x i < 256 ∧ byI x i = nI (byN x i) := (by_ex x i).choose_spec
/-- the tape: how long, what -/
abbrev TP : Type := Nat × (Nat → Nat)
def putS (b : Nat) (t : TP) : TP := if (b = 10 ∨ (32 ≤ b ∧ b ≤ 126)) ∧ t.1 < 1000 then (t.1 + 1, fun j => if j = t.1 then b else t.2 j) else t
def XP (σ : FH) (t : TP) : Prop := t.1 ≤ 1000 ∧ σ.1 3 1 = nI t.1 ∧ ∀ j, j < t.1 → tOK (t.2 j) ∧ σ.1 4 j = nI (t.2 j)
def MP (σ : FH) (t : TP) : Prop := t.1 ≤ 1000 ∧ σ.1 0 1 = nI t.1 ∧ ∀ j, j < t.1 → tOK (t.2 j) ∧ σ.1 1 j = nI (t.2 j)
theorem tOK_I {b : Nat} (hb : b < 256) : (b = 10 ∨ (32 ≤ b ∧ b ≤ 126)) ↔ (nI b = 10 ∨ (¬ nI b < 32 ∧ ¬ 126 < nI b)) := by
  have : ∀ b, b < 256 → ((b = 10 ∨ (32 ≤ b ∧ b ≤ 126)) ↔ (nI b = 10 ∨ (¬ nI b < 32 ∧ ¬ 126 < nI b))) := by decide +kernel
  exact this b hb
theorem narC {b : Nat} (hb : b < 256) : vp_nar .char (nI b) = nI b ∧ (Int32.toUInt32 (nI b) % 65536).toInt32 = nI b := by
  have : ∀ b, b < 256 → vp_nar .char (nI b) = nI b ∧ (Int32.toUInt32 (nI b) % 65536).toInt32 = nI b := by decide +kernel
  exact this b hb
theorem x_putSign {σ : FH} {t : TP} (h : XP σ t) {b : Nat} (hb : b < 256) : ∃ σ', fX9_putSign (nI b) σ = some σ' ∧ XP σ' (putS b t) ∧ agr (fun c => c = 3 ∨ c = 4) σ σ' ∧ (∀ k, k ≠ 1 → σ'.1 3 k = σ.1 3 k) := by
  obtain ⟨h1, h2, h3⟩ := h
  have hk := tOK_I hb
  have e1 : (if nI b = 10 then (1 : Int32) else (if nI b < 32 then 0 else (if 126 < nI b then 0 else 1))) = if (b = 10 ∨ (32 ≤ b ∧ b ≤ 126)) then 1 else 0 := by
    by_cases c : nI b = 10
    · rw [if_pos c, if_pos (hk.mpr (Or.inl c))]
    · rw [if_neg c]
      by_cases c2 : nI b < 32
      · rw [if_pos c2, if_neg (fun q => (hk.mp q).elim c (fun z => z.1 c2))]
      · rw [if_neg c2]
        by_cases c3 : 126 < nI b
        · rw [if_pos c3, if_neg (fun q => (hk.mp q).elim c (fun z => z.2 c3))]
        · rw [if_neg c3, if_pos (hk.mpr (Or.inr ⟨c2, c3⟩))]
  unfold fX9_putSign putS
  rw [e1, fxL_r]
  by_cases c : (b = 10 ∨ (32 ≤ b ∧ b ≤ 126))
  · rw [if_pos c, if_neg (by decide), h2, if_neg (nI_pos (by omega))]
    by_cases c2 : t.1 < 1000
    · have c3 : ¬ (1000 : Int32) ≤ nI t.1 := le_no (b := 1000) c2 (by decide)
      rw [if_neg c3, fxG_t (fx_inN c2 (by decide)), fx_clN (by omega), (narC hb).1, fxL_r, fx_si_o (by decide), h2, nI_1, fxL_r, if_pos ⟨c, c2⟩]
      refine ⟨_, rfl, ⟨by show t.1 + 1 ≤ 1000; omega, by rw [si1, if_pos ⟨rfl, rfl⟩], fun j hj => ?_⟩, agr_sit (Or.inl rfl) (agr_si (Or.inr rfl)), fun k hk => by rw [si1, if_neg (by omega), fx_si_o (by decide)]⟩
      have hj' : j < t.1 + 1 := hj
      rw [fx_si_o (by decide), si1]
      show tOK (if j = t.1 then b else t.2 j) ∧ _ = nI (if j = t.1 then b else t.2 j)
      by_cases q : j = t.1
      · rw [if_pos q, if_pos ⟨rfl, q⟩]; exact ⟨c, rfl⟩
      · rw [if_neg q, if_neg (fun z => q z.2)]; exact h3 j (by omega)
    · have c3 : (1000 : Int32) ≤ nI t.1 := nI_le (a := 1000) (by omega) (by omega)
      rw [if_pos c3, if_neg (fun q => c2 q.2)]
      exact ⟨σ, rfl, ⟨h1, h2, h3⟩, agr_rf _ _, fun _ _ => rfl⟩
  · rw [if_neg c, if_pos rfl, if_neg (fun q => c q.1)]
    exact ⟨σ, rfl, ⟨h1, h2, h3⟩, agr_rf _ _, fun _ _ => rfl⟩
theorem shc_s : ∀ i, i < 8 → ¬ shc i < 0 ∧ shc i + (-8) = shc (i + 1) := by decide +kernel
theorem x_putBytes_loop {σ : FH} (x : Int64) (K : FH → Option FH) : ∀ (m n i : Nat) (σ1 : FH) (t : TP), i + m = 8 → m < n → XP σ1 t → agr (fun c => c = 3 ∨ c = 4) σ σ1 → (∀ k, k ≠ 1 → σ1.1 3 k = σ.1 3 k) → ∃ σ', fX9_putBytes_3 x K n (shc i) σ1 = K σ' ∧ XP σ' (itr (fun i t => putS (byN x i) t) i m t) ∧ agr (fun c => c = 3 ∨ c = 4) σ σ' ∧ (∀ k, k ≠ 1 → σ'.1 3 k = σ.1 3 k)
  | m, 0, i, σ1, t, _, h2, _, _, _ => absurd h2 (by omega)
  | 0, n + 1, i, σ1, t, h1, _, hx, g1, k1 => by
    obtain rfl : i = 8 := by omega
    exact ⟨σ1, by rw [fX9_putBytes_3, if_pos (by decide)], hx, g1, k1⟩
  | m + 1, n + 1, i, σ1, t, h1, h2, hx, g1, k1 => by
    obtain ⟨q1, q2⟩ := shc_s i (by omega)
    obtain ⟨b1, b2⟩ := byN_s x i
    obtain ⟨σ2, e2, x2, g2, k2⟩ := x_putSign hx b1
    obtain ⟨σ', e', x', g', k'⟩ := x_putBytes_loop (σ := σ) x K m n (i + 1) σ2 (putS (byN x i) t) (by omega) (by omega) x2 (agr_tr g1 g2) (fun k hk => (k2 k hk).trans (k1 k hk))
    refine ⟨σ', ?_, x', g', k'⟩
    have eb : Int64.toInt32 (((Int64.toUInt64 x >>> ((Int32.toInt64 (shc i)).toUInt64 &&& Int64.toUInt64 63)).toInt64) &&& 255) = nI (byN x i) := b2
    rw [fX9_putBytes_3, if_neg q1, eb, (narC b1).2, e2, fxBV_s, q2]
    exact e'
theorem x_putBytes {σ : FH} (x : Int64) {t : TP} (h : XP σ t) : ∃ σ', fX9_putBytes x σ = some σ' ∧ XP σ' (itr (fun i t => putS (byN x i) t) 0 8 t) ∧ agr (fun c => c = 3 ∨ c = 4) σ σ' ∧ (∀ k, k ≠ 1 → σ'.1 3 k = σ.1 3 k) := by
  obtain ⟨σ', e', p'⟩ := x_putBytes_loop (σ := σ) x (fun σ2 => some σ2) 8 FU 0 σ t (by omega) (by decide) h (agr_rf _ _) (fun _ _ => rfl)
  refine ⟨σ', ?_, p'⟩
  unfold fX9_putBytes
  rw [fxL_r]
  exact e'
theorem shc_m : ∀ k, k < 24 → (56 : Int32) - (8 * (nI k &&& 7)) = shc (k % 8) := by decide +kernel
noncomputable def by24 (x y z : Int64) (k : Nat) : Nat := if 8 ≤ k then (if 16 ≤ k then byN z (k % 8) else byN y (k % 8)) else byN x (k % 8)
theorem m_feed_step {σ1 : FH} (x y z : Int64) (K : FH → Option (Int32 × FH)) {n i b : Nat} {t : TP} (hi : i < 24) (hx : MP σ1 t) (ew : Int64.toInt32 (((Int64.toUInt64 (if 8 ≤ nI i then (if 16 ≤ nI i then z else y) else x) >>> ((Int32.toInt64 (56 - (8 * (nI i &&& 7)))).toUInt64 &&& Int64.toUInt64 63)).toInt64) &&& 255) = nI b) (hb : b < 256) : ∃ σ2, MP σ2 (putS b t) ∧ agr (fun c => c = 0 ∨ c = 1) σ1 σ2 ∧ (∀ k, k ≠ 1 → σ2.1 0 k = σ1.1 0 k) ∧ fX12_feed_8 x y z K (n + 1) (nI i) σ1 = fX12_feed_8 x y z K n (nI (i + 1)) σ2 := by
  have c24 : ¬ (24 : Int32) ≤ nI i := le_no (b := 24) (by omega) (by decide)
  obtain ⟨h1', h2', h3'⟩ := hx
  have hk := tOK_I hb
  unfold putS
  by_cases c2 : t.1 < 1000
  · have c3 : ¬ (1000 : Int32) ≤ nI t.1 := le_no (b := 1000) c2 (by decide)
    by_cases c : (b = 10 ∨ (32 ≤ b ∧ b ≤ 126))
    · refine ⟨fx_si (fx_si σ1 1 t.1 (nI b)) 0 1 (nI (t.1 + 1)), ?_, agr_sit (Or.inl rfl) (agr_si (Or.inr rfl)), fun k hk => by rw [si1, if_neg (by omega), fx_si_o (by decide)], ?_⟩
      · rw [if_pos ⟨c, c2⟩]
        refine ⟨by show t.1 + 1 ≤ 1000; omega, by rw [si1, if_pos ⟨rfl, rfl⟩], fun j hj => ?_⟩
        have hj' : j < t.1 + 1 := hj
        rw [fx_si_o (by decide), si1]
        show tOK (if j = t.1 then b else t.2 j) ∧ _ = nI (if j = t.1 then b else t.2 j)
        by_cases q : j = t.1
        · rw [if_pos q, if_pos ⟨rfl, q⟩]; exact ⟨c, rfl⟩
        · rw [if_neg q, if_neg (fun z => q z.2)]; exact h3' j (by omega)
      · rw [fX12_feed_8, if_neg c24, fxL_r, ew, fxL_r, h2', if_neg c3, fxL_r, fxG_t (fx_inN c2 (by decide)), fx_clN (by omega), fxL_r, fx_si_o (by decide), h2', nI_1, fxL_r, nI_1]
        by_cases q : nI b = 10
        · rw [if_pos q]
        · rw [if_neg q]
          have := (hk.mp c).resolve_left q
          rw [if_neg this.1, if_neg this.2]
    · refine ⟨σ1, by rw [if_neg (fun q => c q.1)]; exact ⟨h1', h2', h3'⟩, agr_rf _ _, fun _ _ => rfl, ?_⟩
      rw [fX12_feed_8, if_neg c24, fxL_r, ew, fxL_r, h2', if_neg c3, fxL_r, if_neg (fun q => c (hk.mpr (Or.inl q))), nI_1]
      by_cases q1 : nI b < 32
      · rw [if_pos q1]
      · rw [if_neg q1]
        by_cases q2 : 126 < nI b
        · rw [if_pos q2]
        · exact absurd (hk.mpr (Or.inr ⟨q1, q2⟩)) c
  · have c3 : (1000 : Int32) ≤ nI t.1 := nI_le (a := 1000) (by omega) (by omega)
    refine ⟨σ1, by rw [if_neg (fun q => c2 q.2)]; exact ⟨h1', h2', h3'⟩, agr_rf _ _, fun _ _ => rfl, ?_⟩
    rw [fX12_feed_8, if_neg c24, fxL_r, ew, fxL_r, h2', if_pos c3, nI_1]
theorem by24_s (x y z : Int64) {i : Nat} (hi : i < 24) : Int64.toInt32 (((Int64.toUInt64 (if 8 ≤ nI i then (if 16 ≤ nI i then z else y) else x) >>> ((Int32.toInt64 (56 - (8 * (nI i &&& 7)))).toUInt64 &&& Int64.toUInt64 63)).toInt64) &&& 255) = nI (by24 x y z i) ∧ by24 x y z i < 256 := by
  rw [shc_m i (by omega)]
  unfold by24
  by_cases c8 : 8 ≤ i
  · rw [if_pos (show (8 : Int32) ≤ nI i from nI_le (a := 8) c8 (by omega)), if_pos c8]
    by_cases c16 : 16 ≤ i
    · rw [if_pos (show (16 : Int32) ≤ nI i from nI_le (a := 16) c16 (by omega)), if_pos c16]
      exact ⟨(byN_s z (i % 8)).2, (byN_s z (i % 8)).1⟩
    · rw [if_neg (show ¬ (16 : Int32) ≤ nI i from le_no (b := 16) (by omega) (by decide)), if_neg c16]
      exact ⟨(byN_s y (i % 8)).2, (byN_s y (i % 8)).1⟩
  · rw [if_neg (show ¬ (8 : Int32) ≤ nI i from le_no (b := 8) (by omega) (by decide)), if_neg c8]
    exact ⟨(byN_s x (i % 8)).2, (byN_s x (i % 8)).1⟩
theorem m_feed_loop {σ : FH} (x y z : Int64) (K : FH → Option (Int32 × FH)) : ∀ (m n i : Nat) (σ1 : FH) (t : TP), i + m = 24 → m < n → MP σ1 t → agr (fun c => c = 0 ∨ c = 1) σ σ1 → (∀ k, k ≠ 1 → σ1.1 0 k = σ.1 0 k) → ∃ σ', fX12_feed_8 x y z K n (nI i) σ1 = K σ' ∧ MP σ' (itr (fun i t => putS (by24 x y z i) t) i m t) ∧ agr (fun c => c = 0 ∨ c = 1) σ σ' ∧ (∀ k, k ≠ 1 → σ'.1 0 k = σ.1 0 k)
  | m, 0, i, σ1, t, _, h2, _, _, _ => absurd h2 (by omega)
  | 0, n + 1, i, σ1, t, h1, _, hx, g1, k1 => by
    obtain rfl : i = 24 := by omega
    exact ⟨σ1, by rw [fX12_feed_8, if_pos (by decide)], hx, g1, k1⟩
  | m + 1, n + 1, i, σ1, t, h1, h2, hx, g1, k1 => by
    have ew := by24_s x y z (i := i) (by omega)
    obtain ⟨σ2, m2, g2, k2, e2⟩ := m_feed_step (n := n) x y z K (by omega) hx ew.1 ew.2
    obtain ⟨σ', e', x', g', k'⟩ := m_feed_loop (σ := σ) x y z K m n (i + 1) σ2 _ (by omega) (by omega) m2 (agr_tr g1 g2) (fun k hk => (k2 k hk).trans (k1 k hk))
    exact ⟨σ', e2.trans e', x', g', k'⟩
theorem itr_add {β : Type} (f : Nat → β → β) : ∀ (m n i : Nat) (b : β), itr f i (m + n) b = itr f (i + m) n (itr f i m b)
  | 0, n, i, b => by rw [Nat.zero_add]; rfl
  | m + 1, n, i, b => by
    rw [show m + 1 + n = (m + n) + 1 by omega, itr, itr_add f m n (i + 1), itr, show i + 1 + m = i + (m + 1) by omega]
theorem itr_sh {β : Type} (f g : Nat → β → β) (c : Nat) : ∀ (m i : Nat) (b : β), (∀ k, i ≤ k → k < i + m → f (k + c) = g k) → itr f (i + c) m b = itr g i m b
  | 0, i, b, _ => rfl
  | m + 1, i, b, h => by
    rw [itr, itr, h i (by omega) (by omega), show i + c + 1 = i + 1 + c by omega, itr_sh f g c m (i + 1) _ (fun k h1 h2 => h k (by omega) (by omega))]
theorem op_feed (x y z : Int64) : OpI (fX11_feed x y z) (fX12_feed x y z) := by
  intro n σx σm hn h
  have h1 := Rel_th h
  unfold fX11_feed fX12_feed
  rw [fxL_r (fx_si σm 0 0 0)]
  generalize fx_si σm 0 0 0 = σ1 at h1 ⊢
  obtain ⟨r, ef, a, t, d, hA⟩ := id h1
  obtain ⟨hMV, hRB, hEB, hRX, hEX, hRM, hEM, hNX, hSX, hSM, hSB, hTX, hTM, hTB, hDX, hDM, hDB, hPX, hUX, hKX⟩ := id hA
  have hT : σx.2.2 2 = 17 ∨ σx.2.2 2 = 28 := by rcases hMV.1 with z | z <;> omega
  have hTT : σx.2.2 4 = 39 ∨ σx.2.2 4 = 44 := by rcases hMV.2 with z | z <;> omega
  obtain ⟨L, tp, p1, p2, p3, p4⟩ := hPX
  have hXP : XP σx (L, tp) := ⟨p1, p2, fun j hj => ⟨(p4 j hj).1, (p4 j hj).2.1⟩⟩
  have hMP : MP σ1 (L, tp) := ⟨p1, p3, fun j hj => ⟨(p4 j hj).1, (p4 j hj).2.2⟩⟩
  obtain ⟨σa, ea, xa, ga, ka⟩ := x_putBytes x hXP
  obtain ⟨σb, eb, xb, gb, kb⟩ := x_putBytes y xa
  obtain ⟨σc, ec, xc, gc, kc⟩ := x_putBytes z xb
  obtain ⟨τ, e', m', g', k'⟩ := m_feed_loop (σ := σ1) x y z (fun σ3 => some ((σ3.1 0 1), σ3)) 24 FU 0 σ1 (L, tp) (by omega) (by decide) hMP (agr_rf _ _) (fun _ _ => rfl)
  have ht : itr (fun i t => putS (by24 x y z i) t) 0 24 (L, tp) = itr (fun i t => putS (byN z i) t) 0 8 (itr (fun i t => putS (byN y i) t) 0 8 (itr (fun i t => putS (byN x i) t) 0 8 (L, tp))) := by
    rw [show 24 = 8 + 16 from rfl, itr_add, show 16 = 8 + 8 from rfl, itr_add]
    rw [itr_sh (fun i t => putS (by24 x y z i) t) (fun i t => putS (byN z i) t) 16 8 0 _ (fun k h1 h2 => by funext t; unfold by24; rw [if_pos (by omega), if_pos (by omega), show (k + 16) % 8 = k by omega])]
    rw [itr_sh (fun i t => putS (by24 x y z i) t) (fun i t => putS (byN y i) t) 8 8 0 _ (fun k h1 h2 => by funext t; unfold by24; rw [if_pos (by omega), if_neg (by omega), show (k + 8) % 8 = k by omega])]
    rw [itr_congr (f := fun i t => putS (by24 x y z i) t) (g := fun i t => putS (byN x i) t) 8 0 _ (fun k b h1 h2 => by unfold by24; rw [if_neg (by omega), show k % 8 = k by omega])]
  rw [ht] at m'
  generalize itr (fun i t => putS (byN z i) t) 0 8 (itr (fun i t => putS (byN y i) t) 0 8 (itr (fun i t => putS (byN x i) t) 0 8 (L, tp))) = tq at xc m'
  have gall : agr (fun c => c = 3 ∨ c = 4) σx σc := agr_tr ga (agr_tr gb gc)
  have kall : ∀ k, k ≠ 1 → σc.1 3 k = σx.1 3 k := fun k hk => (kc k hk).trans ((kb k hk).trans (ka k hk))
  refine ⟨nI tq.1, σc, τ, ?_, ?_, ⟨r, ef, a, t, d, ?_⟩⟩
  · rw [ea, fxBV_s, eb, fxBV_s, ec, fxBV_s, xc.2.1]
  · rw [fxL_r]
    refine e'.trans ?_
    rw [m'.2.1]
  · have fr : ∀ b, b ≠ 0 → b ≠ 1 → τ.1 b = σ1.1 b := fun b b0 b1 => g'.1 b (by omega)
    have gx2 : σc.2 = σx.2 := gall.2
    unfold MV
    rw [gx2]
    refine ⟨hMV, hRB, hEB, RX_agr hRX gall (fun i hi => by omega), EX_agr hEX gall (by omega) (by omega), ?_, ?_, ?_, SX_fr hSX (fun i hi => gall.1 _ (by omega)), fun k hk => by rw [fr 33 (by decide) (by decide)]; exact hSM k hk, SB_up hSB (by omega), TX_fr hTX (fun i hi => gall.1 _ (by omega)), TM_fr hTM hTB (by rw [fr 25 (by decide) (by decide)]) (fun b b1 b2 k hk => by rw [fr b (by omega) (by omega)]), hTB, DX_fr hDX (fun i hi => gall.1 _ (by omega)), DM_fr hDM hDB (by rw [fr 30 (by decide) (by decide)]) (fun b b1 b2 k hk => by rw [fr b (by omega) (by omega)]), hDB, ?_, UX_fr hUX (fun b b1 b2 => gall.1 _ (by omega)) (gall.1 0 (by omega)) (fr 37 (by decide) (by decide)) (k' 51 (by decide)) (by omega), ?_⟩
    · rw [RM, fr 2 (by decide) (by decide), fr 5 (by decide) (by decide), fr 6 (by decide) (by decide), fr 7 (by decide) (by decide), fr 8 (by decide) (by decide), fr 9 (by decide) (by decide)]
      exact hRM
    · intro so half votes date σ0 a1 a2 a3 a4 e1 e2 e3
      rw [fr 10 (by decide) (by decide)] at e1
      rw [fr 11 (by decide) (by decide)] at e2
      exact hEM so half votes date σ0 a1 a2 a3 a4 e1 e2 (fun k hk => by rw [e3 k hk, fr 12 (by decide) (by decide)])
    · obtain ⟨wn, pn, n1, n2⟩ := hNX
      refine ⟨wn, pn, fun i hi => ?_, fun p hp => ?_⟩
      · rw [gx2, g'.2]; exact n1 i hi
      · rw [gx2, g'.2]; exact n2 p hp
    · exact ⟨tq.1, tq.2, xc.1, xc.2.1, m'.2.1, fun j hj => ⟨(xc.2.2 j hj).1, (xc.2.2 j hj).2, (m'.2.2 j hj).2⟩⟩
    · intro j hj
      exact KXj_fr (hKX j hj) (by omega) (fun i hi => gall.1 _ (by omega)) (by rw [fr 38 (by decide) (by decide)]) (fun k hk => by rw [fr 36 (by decide) (by decide)]) (by rw [fr 25 (by decide) (by decide)]) (fun b b1 b2 k hk => by rw [fr b (by omega) (by omega)]) (by rw [fr 30 (by decide) (by decide)]) (fun b b1 b2 k hk => by rw [fr b (by omega) (by omega)])
