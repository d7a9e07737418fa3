/-! ===== joined, say ===== -/
theorem x_couldPair {σ : FH} {T : Nat} {r : AR} (h : RX σ T r) (hb : RB r) {i j : Nat} (hi : i < r 0 0) (hj : j < r 0 0) : fX5_couldPair T (nI i) (nI j) σ = some (if i ≠ j ∧ r 2 i = r 2 j then 1 else 0) := by
  have hw := hb.1
  have h1 := hb.2.2.2.2.1 i hi
  have h2 := hb.2.2.2.2.1 j hj
  unfold fX5_couldPair
  rw [fxG_t h.1, x_hasWare_in h hb hi, fxBP_s, if_neg (by decide), x_hasWare_in h hb hj, fxBP_s, if_neg (by decide)]
  by_cases hij : i = j
  · subst hij
    rw [if_pos rfl, if_neg (by simp)]
  · rw [if_neg (fun q => hij (nI_inj (by omega) (by omega) q)), fxG_t (fx_inN (by omega) (by decide)), fxG_t (fx_inN (by omega) (by decide)), fx_clN (by omega), fx_clN (by omega), (h.2.2.2.2.1 i hi).2.1, (h.2.2.2.2.1 j hj).2.1]
    by_cases hw2 : r 2 i = r 2 j
    · rw [if_pos (by rw [hw2]), if_pos ⟨hij, hw2⟩]
    · rw [if_neg (fun q => hw2 (nI_inj (by omega) (by omega) q)), if_neg (fun q => hw2 q.2)]
theorem x_couldPair_out {σ : FH} {T : Nat} {r : AR} (h : RX σ T r) (hb : RB r) {x y : Int32} (ho : (x < 0 ∨ nI (r 0 0) ≤ x) ∨ (y < 0 ∨ nI (r 0 0) ≤ y)) : fX5_couldPair T x y σ = some 0 := by
  have hw := hb.1
  unfold fX5_couldPair
  rw [fxG_t h.1]
  rcases pk_ix x (n := r 0 0) (by omega) with hx | hx | ⟨i, hi, rfl⟩
  · rw [x_hasWare_out h (Or.inl hx), fxBP_s, if_pos rfl]
  · rw [x_hasWare_out h (Or.inr hx), fxBP_s, if_pos rfl]
  · rw [x_hasWare_in h hb hi, fxBP_s, if_neg (by decide)]
    have hy : y < 0 ∨ nI (r 0 0) ≤ y := by
      rcases ho with q | q
      · rcases q with q | q
        · exact absurd q (nI_pos (by omega))
        · rw [nI_leI (by omega) (by omega)] at q; omega
      · exact q
    rw [x_hasWare_out h hy, fxBP_s, if_pos rfl]
theorem oI_n : oI none = -1 := rfl
theorem oI_s (k : Nat) : oI (some k) = nI k := rfl
theorem oI_neg {o : Option Nat} : oI o = -1 ∨ ∃ k, o = some k ∧ oI o = nI k := by
  cases o with
  | none => exact Or.inl rfl
  | some k => exact Or.inr ⟨k, rfl, rfl⟩
theorem nIne {k : Nat} (h : k < 2 ^ 31) : ¬ nI k = -1 := fun q => by
  have := nI_pos h
  rw [q] at this
  exact this (by decide)
theorem op_joined (x y : Int32) : OpI (fX11_joined x y) (fX12_joined x y) := by
  intro n σx σm hn h
  have h1 := Rel_th h
  unfold fX11_joined fX12_joined
  rw [fxL_r (fx_si σm 0 0 0)]
  generalize fx_si σm 0 0 0 = σ1 at h1 ⊢
  obtain ⟨r, ef, a, t, d, hA⟩ := id h1
  obtain ⟨hMV, hRB, hEB, hRX, hEX, hRM, hEM, hNX, hSX, hSM, hSB, -⟩ := id hA
  have hT : σx.2.2 2 = 17 ∨ σx.2.2 2 = 28 := by rcases hMV.1 with z | z <;> omega
  have hw := hRB.1
  rw [fxG_t hRX.1]
  rcases pk_ix x (n := r 0 0) (by omega) with hx | hx | ⟨j, hj, rfl⟩
  · exact ⟨-1, σx, σ1, by rw [x_couldPair_out hRX hRB (Or.inl (Or.inl hx)), fxBP_s, if_pos rfl], by rw [m_isWare_out hRM (Or.inl hx), fxBP_s, if_pos rfl], Rel_up h1 (by omega)⟩
  · exact ⟨-1, σx, σ1, by rw [x_couldPair_out hRX hRB (Or.inl (Or.inr hx)), fxBP_s, if_pos rfl], by rw [m_isWare_out hRM (Or.inr hx), fxBP_s, if_pos rfl], Rel_up h1 (by omega)⟩
  · rcases pk_ix y (n := r 0 0) (by omega) with hy | hy | ⟨k, hk, rfl⟩
    · exact ⟨-1, σx, σ1, by rw [x_couldPair_out hRX hRB (Or.inr (Or.inl hy)), fxBP_s, if_pos rfl], by rw [m_isWare_in hRM hRB hj, fxBP_s, if_neg (by decide), m_isWare_out hRM (Or.inl hy), fxBP_s, if_pos rfl], Rel_up h1 (by omega)⟩
    · exact ⟨-1, σx, σ1, by rw [x_couldPair_out hRX hRB (Or.inr (Or.inr hy)), fxBP_s, if_pos rfl], by rw [m_isWare_in hRM hRB hj, fxBP_s, if_neg (by decide), m_isWare_out hRM (Or.inr hy), fxBP_s, if_pos rfl], Rel_up h1 (by omega)⟩
    · have hB1 := hRB.2.2.2.2.1 j hj
      have hB2 := hRB.2.2.2.2.1 k hk
      rw [m_isWare_in hRM hRB hj, fxBP_s _ (fun (r3 : Int32) => _), if_neg (by decide : ¬ (1 : Int32) = 0), m_isWare_in hRM hRB hk, fxBP_s _ (fun (r3 : Int32) => _), if_neg (by decide : ¬ (1 : Int32) = 0), fxG_t (fx_inN (by omega) (by decide)), fxG_t (fx_inN (by omega) (by decide)), fx_clN (by omega), fx_clN (by omega), rm_wh hRM hj, rm_wh hRM hk, x_couldPair hRX hRB hj hk, fxBP_s]
      by_cases c : j ≠ k ∧ r 2 j = r 2 k
      · rw [if_pos c, if_neg (by decide), if_pos (by rw [c.2]), if_neg (fun q => c.1 (nI_inj (by omega) (by omega) q))]
        obtain ⟨σx6, e6, g6⟩ := x_weeksToHalf hT rfl hRX hRB hEX hEB hSX hSB (by omega) hj
        have hv : σx6.2.2 2 = σx.2.2 2 := by rw [g6.2]
        obtain ⟨σx7, e7, g7⟩ := x_weeksToHalf (σ := σx6) hT hv (RX_agr hRX g6 (fun i hi => by unfold scX; omega)) hRB (EX_agr hEX g6 (by unfold scX; omega) (by unfold scX; omega)) hEB (SX_sc hSX g6 (Or.inl rfl)) hSB (by omega) hk
        obtain ⟨σ8, e8, hs8, g8, back⟩ := m_ahead hSM
        obtain ⟨σ9, e9, g9⟩ := m_joined_loop (RM_35 hRM g8) hRB (EM_35 hEM g8) hEB hSB (by omega) hj hk c.1 c.2 (fun x18 σ19 => fxBV (fX12_copies 35 14 0 33 14 0 σ19) <| fun σ22 => fxL (α := Int32) (if x18 ≤ 60 then x18 else (-1)) <| fun v23 => some (v23, σ22)) 61 FU 0 σ8 (by omega) (by decide) hs8 (agrM_rf _)
        obtain ⟨σ14, e14, hs14, g14, -⟩ := back σ9 g9
        have g67 := agr_tr g6 g7
        have key := fst1_and (hAt_up (ef := ef) (a := a) hRB hj) (hAt_up (ef := ef) (a := a) hRB hk) 61 0
        refine ⟨oI (fst1 (fun i => hAt r ef a j i && hAt r ef a k i) 61 0), σx7, σ14, ?_, ?_, ⟨r, ef, a, t, d, RelA_st hA (agr_mono (fun q hq => Or.inr (Or.inr (Or.inr hq))) g67) g14 (SX_sc hSX g67 (Or.inl rfl)) hs14 (SB_up hSB (by omega)) (by omega)⟩⟩
        · rw [e6, fxBI_s, e7, fxBI_s, key]
          cases e1 : fst1 (hAt r ef a j) 61 0 with
          | none => rw [oI_n, if_pos rfl]
          | some p =>
            have hp := fst1_le e1
            rw [oI_s, if_neg (nIne (k := p) (by omega))]
            cases e2 : fst1 (hAt r ef a k) 61 0 with
            | none => rw [oI_n, if_pos rfl]
            | some q =>
              have hq := fst1_le e2
              rw [oI_s, if_neg (nIne (k := q) (by omega))]
              show some ((if nI p < nI q then nI q else nI p), σx7) = some (nI (max p q), σx7)
              rw [maxN (by omega) (by omega)]
        · rw [e8, fxBV_s, fxL_r]
          refine e9.trans ?_
          rw [e14, fxBV_s, fxL_r, oI_60]
      · refine ⟨-1, σx, σ1, by rw [if_neg c, if_pos rfl], ?_, Rel_up h1 (by omega)⟩
        by_cases c2 : r 2 j = r 2 k
        · rw [if_pos (by rw [c2]), if_pos (by rw [show j = k from Decidable.byContradiction (fun q => c ⟨q, c2⟩)])]
        · rw [if_neg (fun q => c2 (nI_inj (by omega) (by omega) q))]
/-- one mark -/
def KXj (σx σm : FH) (r : AR) (n j : Nat) : Prop := ∃ f, f ≤ 1 ∧ σx.1 (99 + 13 * j) 0 = nI f ∧ σm.1 38 j = nI f ∧ (f = 1 → ∃ (a : AS) (t d : AT), SX σx (99 + 13 * j + 1) a ∧ SM σm 36 (14 * j) a ∧ SB r a n ∧ TX σx (99 + 13 * j + 4) t ∧ TM σm (1 + j) t ∧ TB r t ∧ DX σx (99 + 13 * j + 9) d ∧ DM σm (1 + j) d ∧ DB d)
theorem SX_fr {σ σ' : FH} {t : Nat} {a : AS} (h : SX σ t a) (e : ∀ i, i < 3 → σ'.1 (t + i) = σ.1 (t + i)) : SX σ' t a := by
  obtain ⟨s1, s2, s3, s4, s5, s6⟩ := h
  have e0 := e 0 (by omega)
  rw [Nat.add_zero] at e0
  exact ⟨s1, by rw [e0]; exact s2, by rw [e0]; exact s3, by rw [e0]; exact s4, by rw [e 1 (by omega)]; exact s5, by rw [e 2 (by omega)]; exact s6⟩
theorem TX_fr {σ σ' : FH} {c : Nat} {t : AT} (h : TX σ c t) (e : ∀ i, i < 5 → σ'.1 (c + i) = σ.1 (c + i)) : TX σ' c t := by
  have e0 := e 0 (by omega)
  rw [Nat.add_zero] at e0
  unfold TX
  rw [e0, e 1 (by omega), e 2 (by omega), e 3 (by omega), e 4 (by omega)]
  exact h
theorem DX_fr {σ σ' : FH} {c : Nat} {t : AT} (h : DX σ c t) (e : ∀ i, i < 3 → σ'.1 (c + i) = σ.1 (c + i)) : DX σ' c t := by
  have e0 := e 0 (by omega)
  rw [Nat.add_zero] at e0
  unfold DX
  rw [e0, e 1 (by omega), e 2 (by omega)]
  exact h
theorem TM_fr {r : AR} {σ σ' : FH} {o : Nat} {t : AT} (h : TM σ o t) (hb : TB r t) (e0 : σ'.1 25 o = σ.1 25 o) (e : ∀ b, 26 ≤ b → b ≤ 29 → ∀ k, k < 40 → σ'.1 b (40 * o + k) = σ.1 b (40 * o + k)) : TM σ' o t := by
  refine ⟨e0.trans h.1, fun k hk => ?_⟩
  have := hb.1
  rw [e 26 (by omega) (by omega) k (by omega), e 27 (by omega) (by omega) k (by omega), e 28 (by omega) (by omega) k (by omega), e 29 (by omega) (by omega) k (by omega)]
  exact h.2 k hk
theorem DM_fr {σ σ' : FH} {o : Nat} {d : AT} (h : DM σ o d) (hb : DB d) (e0 : σ'.1 30 o = σ.1 30 o) (e : ∀ b, 31 ≤ b → b ≤ 32 → ∀ k, k < 8 → σ'.1 b (8 * o + k) = σ.1 b (8 * o + k)) : DM σ' o d := by
  refine ⟨e0.trans h.1, fun k hk => ?_⟩
  have := hb.1
  rw [e 31 (by omega) (by omega) k (by omega), e 32 (by omega) (by omega) k (by omega)]
  exact h.2 k hk
theorem KXj_fr {r : AR} {n m j : Nat} {σx σm σx' σm' : FH} (h : KXj σx σm r n j) (hnm : n ≤ m) (gx : ∀ i, i < 13 → σx'.1 (99 + 13 * j + i) = σx.1 (99 + 13 * j + i)) (e38 : σm'.1 38 j = σm.1 38 j) (e36 : ∀ k, k < 14 → σm'.1 36 (14 * j + k) = σm.1 36 (14 * j + k)) (e25 : σm'.1 25 (1 + j) = σm.1 25 (1 + j)) (e26 : ∀ b, 26 ≤ b → b ≤ 29 → ∀ k, k < 40 → σm'.1 b (40 * (1 + j) + k) = σm.1 b (40 * (1 + j) + k)) (e30 : σm'.1 30 (1 + j) = σm.1 30 (1 + j)) (e31 : ∀ b, 31 ≤ b → b ≤ 32 → ∀ k, k < 8 → σm'.1 b (8 * (1 + j) + k) = σm.1 b (8 * (1 + j) + k)) : KXj σx' σm' r m j := by
  obtain ⟨f, f1, f2, f3, f4⟩ := h
  refine ⟨f, f1, ?_, e38.trans f3, fun hf => ?_⟩
  · have := gx 0 (by omega)
    rw [Nat.add_zero] at this
    rw [this]; exact f2
  · obtain ⟨a', t', d', m1, m2, m3, m4, m5, m6, m7, m8, m9⟩ := f4 hf
    exact ⟨a', t', d', SX_fr m1 (fun i hi => by rw [Nat.add_assoc]; exact gx (1 + i) (by omega)), fun k hk => by rw [e36 k hk]; exact m2 k hk, SB_up m3 hnm, TX_fr m4 (fun i hi => by rw [Nat.add_assoc]; exact gx (4 + i) (by omega)), TM_fr m5 m6 e25 e26, m6, DX_fr m7 (fun i hi => by rw [Nat.add_assoc]; exact gx (9 + i) (by omega)), DM_fr m8 m9 e30 e31, m9⟩
/-- the relation, where the republic stays -/
theorem RelA_stat {r : AR} {ef : EF} {a a' : AS} {t d t' d' : AT} {n m : Nat} {σx σm σx' σm' : FH} (h : RelA r ef a t d n σx σm) (gx : ∀ b, b = 3 ∨ b = 4 ∨ (17 ≤ b ∧ b ≤ 38) → ¬ scX b → σx'.1 b = σx.1 b) (gx2 : σx'.2 = σx.2)
    (gm : ∀ b, b = 1 ∨ b = 2 ∨ (5 ≤ b ∧ b ≤ 12) → σm'.1 b = σm.1 b) (gm0 : σm'.1 0 1 = σm.1 0 1) (gm2 : ∀ b j, ¬ (b = 0 ∧ j = 54) → σm'.2.1 b j = σm.2.1 b j) (hs : SX σx' 7 a') (hm : SM σm' 33 0 a') (hb : SB r a' m) (htx : TX σx' (σx.2.2 4) t') (htm : TM σm' 0 t') (htb : TB r t') (hdx : DX σx' 13 d') (hdm : DM σm' 0 d') (hdb : DB d') (hu : UX σx' σm' r m) (hk : ∀ j, j < 4 → KXj σx' σm' r m j) : RelA r ef a' t' d' m σx' σm' := by
  obtain ⟨h1, h2, h3, h4, h5, h6, h7, h8, h9, h10, h11, h12, h13, h14, h15, h16, h17, h18, h19, h20⟩ := h
  have hT : σx.2.2 2 = 17 ∨ σx.2.2 2 = 28 := by rcases h1.1 with x | x <;> omega
  have g : agr (fun b => ¬ ((b = 3 ∨ b = 4 ∨ (17 ≤ b ∧ b ≤ 38)) ∧ ¬ scX b)) σx σx' := ⟨fun b hb => by
    have hb' := Classical.not_not.mp hb
    exact gx b hb'.1 hb'.2, gx2⟩
  unfold RelA MV
  rw [gx2]
  refine ⟨h1, h2, h3, RX_agr h4 g (fun i hi q => q ⟨by omega, by unfold scX; omega⟩), EX_agr h5 g (fun q => q ⟨by omega, by unfold scX; omega⟩) (fun q => q ⟨by omega, by unfold scX; omega⟩), ?_, ?_, ?_, hs, hm, hb, htx, htm, htb, hdx, hdm, hdb, ?_, hu, hk⟩
  · rw [RM, gm 2 (by omega), gm 5 (by omega), gm 6 (by omega), gm 7 (by omega), gm 8 (by omega), gm 9 (by omega)]
    exact h6
  · intro so half votes date σ0 a1 a2 a3 a4 e1 e2 e3
    rw [gm 10 (by omega)] at e1
    rw [gm 11 (by omega)] at e2
    exact h7 so half votes date σ0 a1 a2 a3 a4 e1 e2 (fun k hk => by rw [e3 k hk, gm 12 (by omega)])
  · obtain ⟨wn, pn, n1, n2⟩ := h8
    refine ⟨wn, pn, fun i hi => ?_, fun p hp => ?_⟩
    · rw [gx2, gm2 3 i (by omega)]; exact n1 i hi
    · rw [gx2, gm2 4 p (by omega)]; exact n2 p hp
  · obtain ⟨L, tp, p1, p2, p3, p4⟩ := h18
    refine ⟨L, tp, p1, by rw [gx 3 (by omega) (by unfold scX; omega)]; exact p2, by rw [gm0]; exact p3, fun j hj => ?_⟩
    rw [gx 4 (by omega) (by unfold scX; omega), gm 1 (by omega)]
    exact p4 j hj
/-- what is said, one more -/
def dput (d : AT) (w h : Nat) : AT := fun i k => if i = 0 then d 0 0 + 1 else if k = d 0 0 then (if i = 1 then w else h) else d i k
theorem narB : ∀ k, k ≤ 1 → vp_nar .boolean (nI k) = nI k := by
  intro k hk
  rcases (show k = 0 ∨ k = 1 by omega) with rfl | rfl <;> rfl
theorem x_put {σ : FH} {c : Nat} {d : AT} (h : DX σ c d) (hb : DB d) {w f : Nat} (hf : f ≤ 1) (h8 : d 0 0 < 8) : ∃ σ', fX6_put c (nI w) (nI f) σ = some (1, σ') ∧ DX σ' c (dput d w f) ∧ agr (fun b => b = c ∨ b = c + 1 ∨ b = c + 2) σ σ' := by
  obtain ⟨h0, h1, h2⟩ := h
  have h0' := h0
  unfold fX6_put
  rw [fxG_t h0, h1, if_neg (nI_pos (by omega)), if_pos (show nI (d 0 0) < (8 : Int32) from nI_lt (b := 8) h8 (by decide)), fxG_t (fx_inN h8 (by decide)), fx_clN (by omega), fxL_r, fx_si_o (by omega), h1, fxG_t (fx_inN h8 (by decide)), fx_clN (by omega), fxL_r, fx_si_o (by omega), fx_si_o (by omega), h1, nI_1, fxL_r, narB f hf]
  refine ⟨_, rfl, ⟨h0', ?_, fun k hk => ?_⟩, agr_sit (by omega) (agr_sit (by omega) (agr_si (by omega)))⟩
  · rw [si1, if_pos ⟨rfl, rfl⟩]; rfl
  · have hk' : k < d 0 0 + 1 := hk
    rw [fx_si_o (b := c + 1) (by omega), fx_si_o (b := c + 1) (by omega), fx_si_o (b := c + 2) (by omega), si1, si1]
    by_cases q : k = d 0 0
    · subst q
      rw [if_pos ⟨rfl, rfl⟩, if_pos ⟨rfl, rfl⟩]
      simp [dput]
    · rw [if_neg (by omega), if_neg (by omega), fx_si_o (b := c + 2) (by omega)]
      simp [dput, q]
      exact h2 k (by omega)
theorem x_put_full {σ : FH} {c : Nat} {d : AT} (h : DX σ c d) {x y : Int32} (h8 : d 0 0 = 8) : fX6_put c x y σ = some (0, σ) := by
  unfold fX6_put
  rw [fxG_t h.1, h.2.1, h8, if_neg (by decide), if_neg (by decide)]
theorem thirty (x : Int32) : (x < 0 ∨ 30 < x) ∨ ∃ m, m ≤ 30 ∧ x = nI m := by
  rcases pk_ix x (n := 31) (by decide) with h | h | ⟨j, hj, rfl⟩
  · exact Or.inl (Or.inl h)
  · exact Or.inl (Or.inr (nle_lt (a := 30) (by decide) h (by decide)))
  · exact Or.inr ⟨j, by omega, rfl⟩
theorem DB_put {d : AT} (hb : DB d) {w f : Nat} (hw : w ≤ 30) (hf : f ≤ 1) (h8 : d 0 0 < 8) : DB (dput d w f) := by
  refine ⟨by show d 0 0 + 1 ≤ 8; omega, fun k hk => ?_⟩
  have hk' : k < d 0 0 + 1 := hk
  by_cases q : k = d 0 0
  · subst q; simp [dput]; omega
  · have := hb.2 k (by omega)
    simp [dput, q]; omega
theorem op_say (x : Int32) {f : Nat} (hf : f ≤ 1) : OpI (fX11_say x (nI f)) (fX12_say x (nI f)) := by
  intro n σx σm hn h
  have h1 := Rel_th h
  unfold fX11_say fX12_say
  rw [fxL_r (fx_si σm 0 0 0)]
  generalize fx_si σm 0 0 0 = σ1 at h1 ⊢
  obtain ⟨r, ef, a, t, d, hA⟩ := id h1
  obtain ⟨hMV, hRB, hEB, hRX, hEX, hRM, hEM, hNX, hSX, hSM, hSB, hTX, hTM, hTB, hDX, hDM, hDB, hPX, hUX, hKX⟩ := id hA
  rcases thirty x with hx | ⟨w, w2, rfl⟩
  · refine ⟨0, σx, σ1, ?_, by rw [wi_f hx, fxBP_s, if_pos rfl], Rel_up h1 (by omega)⟩
    rcases hx with hx | hx
    · rw [if_pos hx]
    · by_cases c : x < 0
      · rw [if_pos c]
      · rw [if_neg c, if_neg (Int32.not_le.mpr hx)]
  · have h30 : nI w ≤ 30 := nI_le (b := 30) (by omega) (by decide)
    rw [if_neg (nI_pos (by omega)), if_pos h30, wi_t (nI_pos (by omega)) (Int32.not_lt.mpr h30), fxBP_s, if_neg (by decide), fxG_t (by decide), cl0, hDM.1]
    by_cases h8 : d 0 0 = 8
    · rw [x_put_full hDX h8, fxBI_s, fxG_t (by decide), if_pos (by rw [h8]; rfl)]
      exact ⟨0, σx, σ1, rfl, rfl, Rel_up h1 (by omega)⟩
    · have hd8 : d 0 0 < 8 := by have := hDB.1; omega
      obtain ⟨σx', e', hd', g'⟩ := x_put (w := w) hDX hDB hf hd8
      have hD0 : σ1.1 30 0 = nI (d 0 0) := hDM.1
      rw [e', fxBI_s, fxG_t (by decide), if_neg (show ¬ nI (d 0 0) = (8 : Int32) from fun q => h8 (nI_inj (b := 8) (by omega) (by decide) q)), fxG_t (by decide), fxG_t (fx_inN (by omega) (by decide)), fx_clN (by omega), fxL_r, fx_si_o (by decide), hD0, fxG_t (by decide), fxG_t (fx_inN (by omega) (by decide)), fx_clN (by omega), fxL_r, fx_si_o (by decide), fx_si_o (by decide), hD0, fxG_t (by decide), fxG_t (by decide), nI_1, fxL_r, narB f hf]
      refine ⟨1, σx', _, rfl, rfl, ⟨r, ef, a, t, dput d w f, RelA_stat hA (fun b hb _ => g'.1 b (by omega)) g'.2 (fun b hb => ?_) ?_ (fun _ _ _ => rfl) (SX_fr hSX (fun i hi => g'.1 _ (by omega))) (fun k hk => ?_) (SB_up hSB (by omega)) (TX_fr hTX (fun i hi => g'.1 _ (by rcases hMV.2 with z | z <;> omega))) (TM_fr hTM hTB ?_ (fun b h1 h2 k hk => ?_)) hTB hd' ⟨?_, fun k hk => ?_⟩ (DB_put hDB w2 hf hd8) (UX_fr hUX (fun b h1 h2 => g'.1 _ (by omega)) (g'.1 0 (by omega)) ?_ ?_ (by omega)) (fun j hj => KXj_fr (hKX j hj) (by omega) (fun i hi => g'.1 _ (by omega)) ?_ (fun k hk => ?_) ?_ (fun b h1 h2 k hk => ?_) ?_ (fun b h1 h2 k hk => ?_))⟩⟩
      · rw [fx_si_o (by omega), fx_si_o (by omega), fx_si_o (by omega)]
      · rw [fx_si_o (by omega), fx_si_o (by omega), fx_si_o (by omega)]
      · rw [fx_si_o (by omega), fx_si_o (by omega), fx_si_o (by omega)]; exact hSM k hk
      · rw [fx_si_o (by omega), fx_si_o (by omega), fx_si_o (by omega)]
      · rw [fx_si_o (by omega), fx_si_o (by omega), fx_si_o (by omega)]
      · rw [si1, if_pos ⟨rfl, rfl⟩]; rfl
      · have hk' : k < d 0 0 + 1 := hk
        rw [Nat.mul_zero, Nat.zero_add, fx_si_o (b := 31) (by decide), fx_si_o (b := 31) (by decide), fx_si_o (b := 32) (by decide)]
        rw [si1, si1]
        by_cases q : k = d 0 0
        · subst q
          rw [if_pos ⟨rfl, rfl⟩, if_pos ⟨rfl, rfl⟩]
          simp [dput]
        · rw [if_neg (by omega), if_neg (by omega), fx_si_o (by decide)]
          have := hDM.2 k (by omega)
          rw [Nat.mul_zero, Nat.zero_add] at this
          simp [dput, q]
          exact this
      · rw [fx_si_o (by omega), fx_si_o (by omega), fx_si_o (by omega)]
      · rw [fx_si_o (by omega), fx_si_o (by omega), fx_si_o (by omega)]
      · rw [fx_si_o (by omega), fx_si_o (by omega), fx_si_o (by omega)]
      · rw [fx_si_o (by omega), fx_si_o (by omega), fx_si_o (by omega)]
      · rw [fx_si_o (by omega), fx_si_o (by omega), fx_si_o (by omega)]
      · rw [fx_si_o (by omega), fx_si_o (by omega), fx_si_o (by omega)]
      · rw [si1, if_neg (by omega), fx_si_o (by omega), fx_si_o (by omega)]
      · rw [si1, if_neg (by omega), si1, if_neg (by omega), si1, if_neg (by omega)]
