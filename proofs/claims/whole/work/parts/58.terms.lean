/-! ===== terms by draws ===== -/
def lcg (g : Nat) : Nat := (g * 1103515245 + 12345) % 2147483648
def dv (g m : Nat) : Nat := g / 65536 % m
theorem lcg_lt (g : Nat) : lcg g < 2 ^ 31 := by unfold lcg; exact Nat.mod_lt _ (by decide)
theorem dv_lt {g m : Nat} (h : 0 < m) : dv g m < m := by unfold dv; exact Nat.mod_lt _ h
theorem nJ_sub {a b : Nat} (h : b ≤ a) : nJ a - nJ b = nJ (a - b) := (Int64.ofNat_sub a b h).symm
theorem nJ_rem {a b : Nat} (ha : a < 2 ^ 63) (hb : b < 2 ^ 63) : nJ a - nJ a / nJ b * nJ b = nJ (a % b) := by
  have hle : a / b * b ≤ a := Nat.div_mul_le_self a b
  rw [nJ_div ha hb, nJ_mul, nJ_sub hle]
  congr 1
  have := Nat.div_add_mod a b
  rw [Nat.mul_comm] at this
  omega
theorem lcg_J {g : Nat} (h : g < 2 ^ 31) : ((nJ g * 1103515245) + 12345) - ((nJ g * 1103515245) + 12345) / 2147483648 * 2147483648 = nJ (lcg g) := by
  have e : (nJ g * 1103515245) + 12345 = nJ (g * 1103515245 + 12345) := by
    rw [show nJ g * 1103515245 = nJ (g * 1103515245) from nJ_mul g 1103515245]
    exact nJ_add _ 12345
  rw [e]
  unfold lcg
  exact nJ_rem (b := 2147483648) (by omega) (by decide)
theorem dv_J {g m : Nat} (h : g < 2 ^ 31) (hm : m < 2 ^ 31) : Int64.toInt32 ((nJ g / 65536) - (nJ g / 65536) / (Int32.toInt64 (nI m)) * (Int32.toInt64 (nI m))) = nI (dv g m) := by
  rw [nJ_nI hm, show nJ g / 65536 = nJ (g / 65536) from nJ_div (b := 65536) (by omega) (by decide), nJ_rem (by omega) (by omega), nJ_32]
  unfold dv
  rfl
theorem x_next {g : Nat} (h : g < 2 ^ 31) (σ : FH) : fX11_nextDraw (nJ g) σ = some (nJ (lcg g)) := by
  unfold fX11_nextDraw
  rw [lcg_J h]
theorem ne64 {m : Nat} (h0 : 0 < m) (hm : m < 2 ^ 31) : ¬ Int32.toInt64 (nI m) = 0 := by
  rw [nJ_nI hm]
  exact fun q => by have := nJ_inj (b := 0) (by omega) (by decide) q; omega
theorem x_drawn {g m : Nat} (h : g < 2 ^ 31) (h0 : 0 < m) (hm : m < 2 ^ 31) (σ : FH) : fX11_drawn (nJ g) (nI m) σ = some (nI (dv g m)) := by
  unfold fX11_drawn
  rw [if_pos (show (0 : Int32) < nI m from nI_lt (a := 0) h0 hm), fxG_t (ne64 h0 hm), dv_J h hm]
theorem m_draws {σ : FH} {g m : Nat} (hg : σ.2.1 0 54 = nJ g) (h : g < 2 ^ 31) (h0 : 0 < m) (hm : m < 2 ^ 31) : fX12_draws (nI m) σ = some (nI (dv (lcg g) m), fx_sl σ 0 54 (nJ (lcg g))) := by
  unfold fX12_draws
  rw [hg, lcg_J h, fxL_r, fxG_t (ne64 h0 hm), sl21, if_pos ⟨rfl, rfl⟩, dv_J (lcg_lt g) hm]
/-- a deed by draws -/
def ddl (r : AR) (a : AS) (g : Nat) : AS × Nat := if r 0 0 = 0 then (a, g) else if 2 < dv (lcg (lcg g)) 5 then (a, lcg (lcg g)) else if dv (lcg (lcg g)) 5 = 0 then (stp a (dv (lcg g) (r 0 0)) (dv (lcg (lcg (lcg g))) 20 + 1), lcg (lcg (lcg g))) else if dv (lcg (lcg g)) 5 = 1 then (wrk r a (dv (lcg g) (r 0 0)) (dv (lcg (lcg (lcg g))) 20 + 1), lcg (lcg (lcg g))) else if canJ r a (dv (lcg g) (r 0 0)) (dv (lcg (lcg (lcg g))) (r 0 0)) then (jn r a (dv (lcg g) (r 0 0)) (dv (lcg (lcg (lcg g))) (r 0 0)), lcg (lcg (lcg g))) else (a, lcg (lcg (lcg g)))
theorem ddl_2 (r : AR) (a : AS) (g : Nat) : (ddl r a g).2 = if r 0 0 = 0 then g else if 2 < dv (lcg (lcg g)) 5 then lcg (lcg g) else lcg (lcg (lcg g)) := by
  unfold ddl
  by_cases c : r 0 0 = 0
  · rw [if_pos c, if_pos c]
  · rw [if_neg c, if_neg c]
    by_cases c2 : 2 < dv (lcg (lcg g)) 5
    · rw [if_pos c2, if_pos c2]
    · rw [if_neg c2, if_neg c2]
      generalize lcg (lcg (lcg g)) = x
      repeat' split
      all_goals rfl
theorem ddl_lt {r : AR} {a : AS} {g : Nat} (h : g < 2 ^ 31) : (ddl r a g).2 < 2 ^ 31 := by
  have h1 := lcg_lt (lcg g)
  have h2 := lcg_lt (lcg (lcg g))
  rw [ddl_2]
  generalize lcg (lcg (lcg g)) = x at h2 ⊢
  generalize lcg (lcg g) = y at h1 ⊢
  split
  · exact h
  · split
    · exact h1
    · exact h2
theorem SB_ddl {r : AR} {a : AS} {g n : Nat} (hb : RB r) (h : SB r a n) : SB r (ddl r a g).1 (n + 1) := by
  have hu := SB_up h (Nat.le_succ n)
  unfold ddl
  by_cases c : r 0 0 = 0
  · rw [if_pos c]; exact hu
  · rw [if_neg c]
    have k1 := dv_lt (g := lcg g) (m := r 0 0) (by omega)
    have k2 := dv_lt (g := lcg (lcg (lcg g))) (m := r 0 0) (by omega)
    have k3 := dv_lt (g := lcg (lcg (lcg g))) (m := 20) (by omega)
    repeat' split
    · exact hu
    · exact SB_stp h k1
    · exact SB_wrk hb h k1 (by omega)
    · exact SB_jn hb h k1 k2
    · exact hu
section TE
variable {σ : FH} {T : Nat} {r : AR} {ef : EF} {a : AS} {n : Nat}
theorem five_dv (g : Nat) : dv g 5 = 0 ∨ dv g 5 = 1 ∨ dv g 5 = 2 ∨ dv g 5 = 3 ∨ dv g 5 = 4 := by have := dv_lt (g := g) (m := 5) (by omega); omega
theorem x_drawDeed (hv : σ.2.2 2 = T) (h : RX σ T r) (hb : RB r) (hs : SX σ 10 a) (hsb : SB r a n) {g : Nat} (hg : g < 2 ^ 31) : ∃ σ', fX11_drawDeed (nJ g) σ = some (nJ (ddl r a g).2, σ') ∧ SX σ' 10 (ddl r a g).1 ∧ agr (fun b => 10 ≤ b ∧ b ≤ 12) σ σ' := by
  have hw := hb.1
  have g1 := lcg_lt g
  have g2 := lcg_lt (lcg g)
  have g3 := lcg_lt (lcg (lcg g))
  have hd : ∀ i, i < r 0 0 → a (3 + i) ≤ 30 := fun i hi => by have := hsb.2.2.2.1 i hi; have := (hb.2.2.2.2.1 i hi); unfold rH at *; omega
  unfold fX11_drawDeed ddl
  rw [hv, fxG_t h.1, h.2.1]
  by_cases c : r 0 0 = 0
  · rw [c, if_neg (by decide), if_pos rfl]
    exact ⟨σ, rfl, hs, agr_rf _ _⟩
  · have hpos : (0 : Int32) < nI (r 0 0) := nI_lt (a := 0) (by omega) (by omega)
    have k1 := dv_lt (g := lcg g) (m := r 0 0) (by omega)
    have k2 := dv_lt (g := lcg (lcg (lcg g))) (m := r 0 0) (by omega)
    have k3 := dv_lt (g := lcg (lcg (lcg g))) (m := 20) (by omega)
    have hd1 := hd _ k1
    have e5 : ∀ τ, fX11_drawn (nJ (lcg (lcg g))) 5 τ = some (nI (dv (lcg (lcg g)) 5)) := fun τ => x_drawn (m := 5) g2 (by decide) (by decide) τ
    have e20 : ∀ τ, fX11_drawn (nJ (lcg (lcg (lcg g)))) 20 τ = some (nI (dv (lcg (lcg (lcg g))) 20)) := fun τ => x_drawn (m := 20) g3 (by decide) (by decide) τ
    rw [if_pos hpos, if_neg c, x_next hg, fxBP_s, fxG_t h.1, x_drawn g1 (by omega) (by omega), fxBP_s, x_next g1, fxBP_s, e5, fxBP_s, x_next g2, fxBP_s, e20, fxBP_s, fxBP_s, nI_1, fxG_t h.1, fxG_t h.1, x_drawn g3 (by omega : 0 < r 0 0) (by omega), fxBP_s, fxG_t h.1, x_canJoin h hb hs hsb.2.2.2.1 k1 k2, fxBP_s, fxG_t h.1]
    rcases five_dv (lcg (lcg g)) with q | q | q | q | q
    · obtain ⟨σ', e', s', g'⟩ := x_takeOff hs (i := dv (lcg g) (r 0 0)) (m := dv (lcg (lcg (lcg g))) 20 + 1) (by omega) (by omega) (by omega)
      rw [q, if_pos (by decide), if_pos (by decide), e', fxBV_s, if_neg (by decide), if_pos rfl]
      exact ⟨σ', rfl, s', agr_mono (fun z hz => by omega) g'⟩
    · obtain ⟨σ', e', s', g'⟩ := x_workOn h hb hs (j := dv (lcg g) (r 0 0)) (m := dv (lcg (lcg (lcg g))) 20 + 1) k1 (by omega) (by omega)
      rw [q, if_pos (by decide), if_neg (by decide), if_pos (by decide), e', fxBI_s, if_neg (by decide), if_neg (by decide), if_pos rfl]
      exact ⟨σ', rfl, s', agr_mono (fun z hz => by omega) g'⟩
    · rw [q, if_pos (by decide), if_neg (by decide), if_neg (by decide), if_neg (show ¬ 2 < 2 by decide), if_neg (show ¬ 2 = 0 by decide), if_neg (show ¬ 2 = 1 by decide)]
      by_cases cj : canJ r a (dv (lcg g) (r 0 0)) (dv (lcg (lcg (lcg g))) (r 0 0)) = true
      · obtain ⟨σ', e', s', g'⟩ := x_arrest h hb hs k1 k2
        rw [if_pos cj, if_neg (by decide), e', fxBV_s, if_pos cj]
        exact ⟨σ', rfl, s', agr_mono (fun z hz => by omega) g'⟩
      · rw [if_neg cj, if_pos rfl, if_neg cj]
        exact ⟨σ, rfl, hs, agr_rf _ _⟩
    · rw [q, if_neg (by decide), if_pos (by decide)]
      exact ⟨σ, rfl, hs, agr_rf _ _⟩
    · rw [q, if_neg (by decide), if_pos (by decide)]
      exact ⟨σ, rfl, hs, agr_rf _ _⟩
/-- the state and the draw behind so many weeks -/
def tms (r : AR) (ef : EF) (a : AS) (seed : Nat) : Nat → AS × Nat
  | 0 => (a, seed)
  | k + 1 => (wk r ef (ddl r (tms r ef a seed k).1 (tms r ef a seed k).2).1, (ddl r (tms r ef a seed k).1 (tms r ef a seed k).2).2)
theorem tms_g {seed : Nat} (h : seed < 2 ^ 31) : ∀ k, (tms r ef a seed k).2 < 2 ^ 31
  | 0 => h
  | k + 1 => ddl_lt (tms_g h k)
theorem SB_tms (hb : RB r) (heb : EB ef) (h : SB r a n) (seed : Nat) : ∀ k, SB r (tms r ef a seed k).1 (n + 2 * k)
  | 0 => h
  | k + 1 => by
    have := SB_wk hb heb (SB_ddl (g := (tms r ef a seed k).2) hb (SB_tms hb heb h seed k))
    rw [show n + 2 * (k + 1) = n + 2 * k + 1 + 1 by omega]
    exact this
theorem x_terms_loop (hT : T = 17 ∨ T = 28) (hv : σ.2.2 2 = T) (h : RX σ T r) (hb : RB r) (he : EX σ T ef) (heb : EB ef) (hsb : SB r a n) (hn : n < 700) {seed w : Nat} (hseed : seed < 2 ^ 31) (hw : w ≤ 99) (K : FH → Option (Int32 × FH)) :
    ∀ (m k i : Nat) (σ1 : FH), i + m = w → m < k → SX σ1 10 (tms r ef a seed i).1 → agr scX σ σ1 → ∃ σ', fX11_terms_63 (nI w) K k (nJ (tms r ef a seed i).2) (nI i) σ1 = K σ' ∧ SX σ' 10 (tms r ef a seed w).1 ∧ agr scX σ σ'
  | m, 0, i, σ1, _, h2, _, _ => absurd h2 (by omega)
  | 0, k + 1, i, σ1, h1, _, hs1, g1 => by
    obtain rfl : i = w := by omega
    exact ⟨σ1, by rw [fX11_terms_63, if_pos (le_yes (by omega))], hs1, g1⟩
  | m + 1, k + 1, i, σ1, h1, h2, hs1, g1 => by
    have hv1 : σ1.2.2 2 = T := by rw [g1.2]; exact hv
    have hR := RX_agr h g1 (fun k hk => by unfold scX; omega)
    obtain ⟨σ2, e2, hs2, g2⟩ := x_drawDeed hv1 hR hb hs1 (SB_tms hb heb hsb seed i) (tms_g hseed i)
    have g12 : agr scX σ σ2 := agr_tr g1 (agr_mono (fun q hq => by unfold scX; omega) g2)
    have hR2 := RX_agr h g12 (fun k hk => by unfold scX; omega)
    have hE2 := EX_agr he g12 (by unfold scX; omega) (by unfold scX; omega)
    have hB2 := SB_ddl (g := (tms r ef a seed i).2) hb (SB_tms hb heb hsb seed i)
    obtain ⟨σ3, e3, hs3, g3⟩ := x_passWeek hR2 hb hE2 heb hs2 hB2.2.2.2.1 hB2.2.2.2.2.2.1 (by have := hB2.1; omega)
    obtain ⟨σ', e', s', g'⟩ := x_terms_loop hT hv h hb he heb hsb hn hseed hw K m k (i + 1) σ3 (by omega) (by omega) hs3 (agr_tr g12 (agr_mono (fun q hq => by unfold scX; omega) g3))
    refine ⟨σ', ?_, s', g'⟩
    rw [fX11_terms_63, if_neg (le_no (by omega) (by omega)), e2, fxBJ_s, g12.2, hv, fxG_t h.1, e3, fxBI_s, nI_1]
    exact e'
end TE
/-- the reference's world but for the week's cells and the draw -/
def agT (σ σ' : FH) : Prop := agrM σ (σ'.1, σ.2) ∧ (∀ b j, ¬ (b = 0 ∧ j = 54) → σ'.2.1 b j = σ.2.1 b j) ∧ σ'.2.2 = σ.2.2
theorem agT_rf (σ : FH) : agT σ σ := ⟨agrM_rf σ, fun _ _ _ => rfl, rfl⟩
theorem agT_tr {a b c : FH} (h : agT a b) (h' : agT b c) : agT a c := ⟨⟨fun q h1 h2 h3 => (h'.1.1 q h1 h2 h3).trans (h.1.1 q h1 h2 h3), fun k hk => (h'.1.2.1 k hk).trans (h.1.2.1 k hk), rfl⟩, fun b j hj => (h'.2.1 b j hj).trans (h.2.1 b j hj), h'.2.2.trans h.2.2⟩
theorem agT_M {σ σ' : FH} (h : agrM σ σ') : agT σ σ' := ⟨⟨h.1, h.2.1, rfl⟩, fun b j _ => by rw [h.2.2], by rw [h.2.2]⟩
theorem agT_g {σ : FH} {v : Int64} : agT σ (fx_sl σ 0 54 v) := ⟨agrM_rf σ, fun b j hj => by rw [sl21, if_neg hj], rfl⟩
theorem RM_agT {σ σ' : FH} {r : AR} (h : RM σ 0 r) (g : agT σ σ') : RM σ' 0 r := by
  have := RM_agrM h g.1
  exact this
theorem EM_agT {σ σ' : FH} {ef : EF} (h : EM σ ef) (g : agT σ σ') : EM σ' ef := by
  have := EM_agrM h g.1
  exact this
theorem agS_T {σ σ' : FH} (h : agT σ σ') : agS σ σ' := ⟨fun b h1 h2 h3 => h.1.1 b h2 h1 (fun q => h3 (Or.inl q)), fun k _ h2 => h.1.2.1 k h2, h.2.1, h.2.2⟩
section TM2
variable {σ : FH} {r : AR} {ef : EF} {a : AS} {n : Nat}
theorem SM_sl {σ : FH} {v : Int64} (h : SM σ 33 0 a) : SM (fx_sl σ 0 54 v) 33 0 a := h
theorem RM_sl {σ : FH} {v : Int64} (h : RM σ 0 r) : RM (fx_sl σ 0 54 v) 0 r := h
theorem EM_sl {σ : FH} {v : Int64} (h : EM σ ef) : EM (fx_sl σ 0 54 v) ef := h
theorem m_lives (h : RM σ 0 r) (hb : RB r) (he : EM σ ef) (heb : EB ef) (hs : SM σ 33 0 a) (hsb : SB r a n) (hn : n < 50000) {g : Nat} (hgv : σ.2.1 0 54 = nJ g) (hg : g < 2 ^ 31) : ∃ σ', fX12_livesWeek σ = some σ' ∧ SM σ' 33 0 (wk r ef (ddl r a g).1) ∧ σ'.2.1 0 54 = nJ (ddl r a g).2 ∧ agT σ σ' := by
  have hw := hb.1
  have g1 := lcg_lt g
  have g2 := lcg_lt (lcg g)
  have g3 := lcg_lt (lcg (lcg g))
  have hB := SB_ddl (g := g) hb hsb
  -- the week behind a deed
  have week : ∀ (τ : FH), agT σ τ → SM τ 33 0 (ddl r a g).1 → τ.2.1 0 54 = nJ (ddl r a g).2 → ∃ σ', fxBI (fX12_passes τ) (fun r5 σ6 => some σ6) = some σ' ∧ SM σ' 33 0 (wk r ef (ddl r a g).1) ∧ σ'.2.1 0 54 = nJ (ddl r a g).2 ∧ agT σ σ' := by
    intro τ gt st vt
    obtain ⟨σ', e', s', -, g'⟩ := m_passes (RM_agT h gt) hb (EM_agT he gt) heb st hB.2.2.2.1 hB.2.2.2.2.2.1 (by have := hB.1; omega)
    exact ⟨σ', by rw [e', fxBI_s], s', by rw [g'.2.2]; exact vt, agT_tr gt (agT_M g')⟩
  have hd : ∀ i, i < r 0 0 → a (3 + i) ≤ 30 := fun i hi => by have := hsb.2.2.2.1 i hi; have := (hb.2.2.2.2.1 i hi); unfold rH at *; omega
  unfold fX12_livesWeek
  rw [fxG_t (by decide), fxL_r, cl0, rm_w h]
  by_cases c : r 0 0 = 0
  · have e : ddl r a g = (a, g) := by unfold ddl; rw [if_pos c]
    rw [c, if_pos (by decide)]
    exact week σ (agT_rf σ) (by rw [e]; exact hs) (by rw [e]; exact hgv)
  · have k1 := dv_lt (g := lcg g) (m := r 0 0) (by omega)
    have k2 := dv_lt (g := lcg (lcg (lcg g))) (m := r 0 0) (by omega)
    have k3 := dv_lt (g := lcg (lcg (lcg g))) (m := 20) (by omega)
    have hd1 := hd _ k1
    have e1 := m_draws (m := r 0 0) hgv hg (by omega) (by omega)
    let τ1 := fx_sl σ 0 54 (nJ (lcg g))
    have v1 : τ1.2.1 0 54 = nJ (lcg g) := by show (fx_sl σ 0 54 (nJ (lcg g))).2.1 0 54 = _; rw [sl21, if_pos ⟨rfl, rfl⟩]
    have e2 : fX12_draws 5 τ1 = some (nI (dv (lcg (lcg g)) 5), fx_sl τ1 0 54 (nJ (lcg (lcg g)))) := m_draws (m := 5) v1 g1 (by decide) (by decide)
    let τ2 := fx_sl τ1 0 54 (nJ (lcg (lcg g)))
    have v2 : τ2.2.1 0 54 = nJ (lcg (lcg g)) := by show (fx_sl τ1 0 54 (nJ (lcg (lcg g)))).2.1 0 54 = _; rw [sl21, if_pos ⟨rfl, rfl⟩]
    have e3 : fX12_draws 20 τ2 = some (nI (dv (lcg (lcg (lcg g))) 20), fx_sl τ2 0 54 (nJ (lcg (lcg (lcg g))))) := m_draws (m := 20) v2 g2 (by decide) (by decide)
    have e3w := m_draws (m := r 0 0) v2 g2 (by omega) (by omega)
    let τ3 := fx_sl τ2 0 54 (nJ (lcg (lcg (lcg g))))
    have v3 : τ3.2.1 0 54 = nJ (lcg (lcg (lcg g))) := by show (fx_sl τ2 0 54 (nJ (lcg (lcg (lcg g))))).2.1 0 54 = _; rw [sl21, if_pos ⟨rfl, rfl⟩]
    have a2 : agT σ τ2 := agT_tr (agT_g (σ := σ)) (agT_g (σ := τ1))
    have a3 : agT σ τ3 := agT_tr a2 (agT_g (σ := τ2))
    have s2 : SM τ2 33 0 a := hs
    have s3 : SM τ3 33 0 a := hs
    have r2 : RM τ2 0 r := h
    have r3 : RM τ3 0 r := h
    rw [if_neg (by rw [n0, nI_leI (by omega) (by omega)]; omega), fxG_t (by decide), e1, fxBI_s, show fX12_draws 5 (fx_sl σ 0 54 (nJ (lcg g))) = some (nI (dv (lcg (lcg g)) 5), τ2) from e2, fxBI_s, fxL_r]
    rcases five_dv (lcg (lcg g)) with q | q | q | q | q
    · have e : ddl r a g = (stp a (dv (lcg g) (r 0 0)) (dv (lcg (lcg (lcg g))) 20 + 1), lcg (lcg (lcg g))) := by unfold ddl; rw [if_neg c, q, if_neg (by decide), if_pos rfl]
      have st : SM (fx_si τ3 33 (3 + dv (lcg g) (r 0 0)) (nI (a (3 + dv (lcg g) (r 0 0)) - (dv (lcg (lcg (lcg g))) 20 + 1)))) 33 0 (stp a (dv (lcg g) (r 0 0)) (dv (lcg (lcg (lcg g))) 20 + 1)) := SM_up s3
      obtain ⟨σ', e', p'⟩ := week (fx_si τ3 33 (3 + dv (lcg g) (r 0 0)) (nI (a (3 + dv (lcg g) (r 0 0)) - (dv (lcg (lcg (lcg g))) 20 + 1)))) (agT_tr a3 (agT_M agrM_s33)) (by rw [e]; exact st) (by rw [e]; exact v3)
      refine ⟨σ', ?_, p'⟩
      rw [q, if_neg (by decide), e3, fxBI_s]
      dsimp only
      rw [fxL_r, if_pos (by decide), thN, fxG_t (fx_inN (by omega) (by decide)), fxG_t (fx_inN (by omega) (by decide)), fx_clN (by omega), show (fx_sl τ2 0 54 (nJ (lcg (lcg (lcg g))))).1 33 (3 + dv (lcg g) (r 0 0)) = nI (a (3 + dv (lcg g) (r 0 0))) from sm_k s3 (by omega), nI_1, posN (by omega) (by omega), fxL_r]
      dsimp only
      rw [fxL_r, if_neg (by decide)]
      dsimp only
      rw [if_neg (by decide)]
      exact e'
    · have e : ddl r a g = (wrk r a (dv (lcg g) (r 0 0)) (dv (lcg (lcg (lcg g))) 20 + 1), lcg (lcg (lcg g))) := by unfold ddl; rw [if_neg c, q, if_neg (by decide), if_neg (by decide), if_pos rfl]
      obtain ⟨τ4, e4, s4, g4⟩ := m_works r3 hb s3 (j := dv (lcg g) (r 0 0)) (m := dv (lcg (lcg (lcg g))) 20 + 1) k1 (by omega) (hsb.2.2.2.1 _ k1)
      obtain ⟨σ', e', p'⟩ := week τ4 (agT_tr a3 (agT_M (agrM_33 g4))) (by rw [e]; exact s4) (by rw [e, g4.2]; exact v3)
      refine ⟨σ', ?_, p'⟩
      rw [q, if_neg (by decide), e3, fxBI_s]
      dsimp only
      rw [fxL_r, if_neg (by decide)]
      dsimp only
      rw [fxL_r, if_pos (by decide), nI_1, show fX12_works (nI (dv (lcg g) (r 0 0))) (nI (dv (lcg (lcg (lcg g))) 20 + 1)) (fx_sl τ2 0 54 (nJ (lcg (lcg (lcg g))))) = _ from e4, fxBI_s]
      dsimp only
      rw [if_neg (by decide)]
      exact e'
    · rw [q, if_pos (by decide), if_pos (by decide), fxG_t (by decide), show τ2.1 2 0 = nI (r 0 0) from rm_w r2, e3w, fxBI_s]
      dsimp only
      rw [fxL_r, if_neg (by decide)]
      dsimp only
      rw [fxL_r, if_neg (by decide)]
      dsimp only
      rw [if_pos (by decide), show fX12_canJoin (nI (dv (lcg g) (r 0 0))) (nI (dv (lcg (lcg (lcg g))) (r 0 0))) (fx_sl τ2 0 54 (nJ (lcg (lcg (lcg g))))) = _ from m_canJoin r3 hb s3 hsb.2.2.2.1 k1 k2, fxBP_s]
      by_cases cj : canJ r a (dv (lcg g) (r 0 0)) (dv (lcg (lcg (lcg g))) (r 0 0)) = true
      · have e : ddl r a g = (jn r a (dv (lcg g) (r 0 0)) (dv (lcg (lcg (lcg g))) (r 0 0)), lcg (lcg (lcg g))) := by unfold ddl; rw [if_neg c, q, if_neg (by decide), if_neg (by decide), if_neg (by decide), if_pos cj]
        obtain ⟨τ4, e4, s4, g4⟩ := m_joins r3 hb s3 k1 k2
        obtain ⟨σ', e', p'⟩ := week τ4 (agT_tr a3 (agT_M (agrM_33 g4))) (by rw [e]; exact s4) (by rw [e, g4.2]; exact v3)
        refine ⟨σ', ?_, p'⟩
        rw [if_pos cj, if_neg (by decide), show fX12_joins (nI (dv (lcg g) (r 0 0))) (nI (dv (lcg (lcg (lcg g))) (r 0 0))) (fx_sl τ2 0 54 (nJ (lcg (lcg (lcg g))))) = _ from e4, fxBV_s]
        exact e'
      · have e : ddl r a g = (a, lcg (lcg (lcg g))) := by unfold ddl; rw [if_neg c, q, if_neg (by decide), if_neg (by decide), if_neg (by decide), if_neg cj]
        obtain ⟨σ', e', p'⟩ := week τ3 a3 (by rw [e]; exact s3) (by rw [e]; exact v3)
        refine ⟨σ', ?_, p'⟩
        rw [if_neg cj, if_pos rfl]
        exact e'
    · have e : ddl r a g = (a, lcg (lcg g)) := by unfold ddl; rw [if_neg c, q, if_pos (by decide)]
      obtain ⟨σ', e', p'⟩ := week τ2 a2 (by rw [e]; exact s2) (by rw [e]; exact v2)
      refine ⟨σ', ?_, p'⟩
      rw [q, if_pos (by decide), if_neg (by decide)]
      dsimp only
      rw [fxL_r, if_neg (by decide)]
      dsimp only
      rw [fxL_r, if_neg (by decide)]
      dsimp only
      rw [if_neg (by decide)]
      exact e'
    · have e : ddl r a g = (a, lcg (lcg g)) := by unfold ddl; rw [if_neg c, q, if_pos (by decide)]
      obtain ⟨σ', e', p'⟩ := week τ2 a2 (by rw [e]; exact s2) (by rw [e]; exact v2)
      refine ⟨σ', ?_, p'⟩
      rw [q, if_pos (by decide), if_neg (by decide)]
      dsimp only
      rw [fxL_r, if_neg (by decide)]
      dsimp only
      rw [fxL_r, if_neg (by decide)]
      dsimp only
      rw [if_neg (by decide)]
      exact e'
theorem m_terms_loop (h : RM σ 0 r) (hb : RB r) (he : EM σ ef) (heb : EB ef) (hsb : SB r a n) (hn : n < 700) {seed w : Nat} (hseed : seed < 2 ^ 31) (hw : w ≤ 99) (K : FH → Option (Int32 × FH)) :
    ∀ (m k i : Nat) (σ1 : FH), i + m = w → m < k → SM σ1 33 0 (tms r ef a seed i).1 → σ1.2.1 0 54 = nJ (tms r ef a seed i).2 → agT σ σ1 → ∃ σ', fX12_terms_59 (nI w) K k (nI i) σ1 = K σ' ∧ SM σ' 33 0 (tms r ef a seed w).1 ∧ agT σ σ'
  | m, 0, i, σ1, _, h2, _, _, _ => absurd h2 (by omega)
  | 0, k + 1, i, σ1, h1, _, hs1, _, g1 => by
    obtain rfl : i = w := by omega
    exact ⟨σ1, by rw [fX12_terms_59, if_pos (le_yes (by omega))], hs1, g1⟩
  | m + 1, k + 1, i, σ1, h1, h2, hs1, hv1, g1 => by
    obtain ⟨σ2, e2, s2, v2, g2⟩ := m_lives (RM_agT h g1) hb (EM_agT he g1) heb hs1 (SB_tms hb heb hsb seed i) (by omega) hv1 (tms_g hseed i)
    obtain ⟨σ', e', s', g'⟩ := m_terms_loop h hb he heb hsb hn hseed hw K m k (i + 1) σ2 (by omega) (by omega) s2 v2 (agT_tr g1 g2)
    refine ⟨σ', ?_, s', g'⟩
    rw [fX12_terms_59, if_neg (le_no (by omega) (by omega)), e2, fxBV_s, nI_1]
    exact e'
end TM2
theorem op_terms (x y z : Int32) : OpI (fX11_terms x y z) (fX12_terms x y z) := by
  intro n σx σm hn h
  have h1 := Rel_th h
  unfold fX11_terms fX12_terms
  rw [fxL_r (fx_si σm 0 0 0), fxL_r]
  generalize fx_si σm 0 0 0 = σ1 at h1 ⊢
  obtain ⟨r, ef, a, t, d, hA⟩ := id h1
  obtain ⟨hMV, hRB, hEB, hRX, hEX, hRM, hEM, hNX, hSX, hSM, hSB, -⟩ := id hA
  have hT : σx.2.2 2 = 17 ∨ σx.2.2 2 = 28 := by rcases hMV.1 with z | z <;> omega
  rcases pk_ix x (n := 10000) (by decide) with hx | hx | ⟨seed, hseed, rfl⟩
  · exact ⟨-1, σx, σ1, by rw [if_pos hx, if_pos rfl], by rw [wi_f (Or.inl hx), fxBP_s, if_pos rfl], Rel_up h1 (by omega)⟩
  · have hx3 : 9999 < x := nle_lt (a := 9999) (by decide) hx (by decide)
    refine ⟨-1, σx, σ1, ?_, by rw [wi_f (Or.inr hx3), fxBP_s, if_pos rfl], Rel_up h1 (by omega)⟩
    by_cases c : x < 0
    · rw [if_pos c, if_pos rfl]
    · rw [if_neg c, if_pos hx3, if_pos rfl]
  · have c0 : ¬ nI seed < 0 := nI_pos (by omega)
    have c9 : ¬ (9999 : Int32) < nI seed := by rw [show (9999 : Int32) = nI 9999 from rfl, nI_ltI (by omega) (by omega)]; omega
    rw [if_neg c0, if_neg c9, wi_t c0 c9, fxBP_s, if_neg (by decide : ¬ (1 : Int32) = 0)]
    have hy : (y < 1 ∨ 99 < y) ∨ ∃ w, 1 ≤ w ∧ w ≤ 99 ∧ y = nI w := by
      rcases pk_ix y (n := 100) (by decide) with q | q | ⟨w, hw, rfl⟩
      · exact Or.inl (Or.inl (Int32.lt_trans q (by decide)))
      · exact Or.inl (Or.inr (nle_lt (a := 99) (by decide) q (by decide)))
      · by_cases h0 : w = 0
        · subst h0; exact Or.inl (Or.inl (by decide))
        · exact Or.inr ⟨w, by omega, by omega, rfl⟩
    rcases hy with hy | ⟨w, w1, w6, rfl⟩
    · refine ⟨-1, σx, σ1, ?_, by rw [wi_f hy, fxBP_s, if_pos rfl], Rel_up h1 (by omega)⟩
      rcases hy with hy | hy
      · rw [if_pos hy, if_pos rfl]
      · by_cases c : y < 1
        · rw [if_pos c, if_pos rfl]
        · rw [if_neg c, if_pos hy, if_pos rfl]
    · have c1 : ¬ nI w < 1 := by rw [one_nI, nI_ltI (by omega) (by omega)]; omega
      have c6 : ¬ (99 : Int32) < nI w := by rw [show (99 : Int32) = nI 99 from rfl, nI_ltI (by omega) (by omega)]; omega
      rw [if_neg c1, if_neg c6, if_neg (by decide : ¬ (1 : Int32) = 0), wi_t c1 c6, fxBP_s, if_neg (by decide : ¬ (1 : Int32) = 0)]
      rcases three z with hz | hz
      · refine ⟨-1, σx, σ1, ?_, by rw [wi_f hz, fxBP_s, if_pos rfl], Rel_up h1 (by omega)⟩
        rcases hz with hz | hz
        · rw [if_pos hz]
        · by_cases c : z < 0
          · rw [if_pos c]
          · rw [if_neg c, if_neg (Int32.not_le.mpr hz)]
      · have hz0 : ¬ z < 0 := by rcases hz with rfl | rfl | rfl <;> decide
        have hz2 : z ≤ 2 := by rcases hz with rfl | rfl | rfl <;> decide
        obtain ⟨σx5, e5, hs5, g5⟩ := x_copyOf (t := 10) hSX rfl (by omega)
        have g5' : agr scX σx σx5 := agr_mono (fun q hq => by unfold scX; omega) g5
        let Kx : FH → Option (Int32 × FH) := fun σ15 => if z = 0 then (some (((σ15.1 10 3) - (σ15.1 7 3)), σ15)) else (if z = 1 then (some (((σ15.1 10 4) - (σ15.1 7 4)), σ15)) else (fxBP (fX7_allDone 10 σ15) <| fun r19 => some (r19, σ15)))
        obtain ⟨σx6, e6, s6, g6⟩ := x_terms_loop (seed := seed) hT rfl hRX hRB hEX hEB hSB (by omega) (by omega) w6 Kx w FU 0 σx5 (by omega) (by unfold FU; omega) hs5 g5'
        have hsl : SM (fx_sl σ1 0 54 (nJ seed)) 33 0 a := hSM
        obtain ⟨σ8, e8, hs8, h34, g8, back⟩ := m_aside hsl
        have hR8 : RM σ8 0 r := RM_34 (σ := fx_sl σ1 0 54 (nJ seed)) hRM g8
        have hE8 : EM σ8 ef := EM_34 (σ := fx_sl σ1 0 54 (nJ seed)) hEM g8
        have hv8 : σ8.2.1 0 54 = nJ seed := by rw [g8.2, sl21, if_pos ⟨rfl, rfl⟩]
        let Km : FH → Option (Int32 × FH) := fun σ19 => fxG (fx_in 1 14 = true) <| fxG (fx_in 1 14 = true) <| fxL (α := Int32) ((σ19.1 33 (Int32.toNatClampNeg 1)) - (σ19.1 34 (Int32.toNatClampNeg 1))) <| fun v22 => fxG (fx_in 2 14 = true) <| fxG (fx_in 2 14 = true) <| fxL (α := Int32) ((σ19.1 33 (Int32.toNatClampNeg 2)) - (σ19.1 34 (Int32.toNatClampNeg 2))) <| fun v25 => fxBP (fX12_allDone σ19) <| fun r27 => fxBV (fX12_copies 34 14 0 33 14 0 σ19) <| fun σ31 => fxL (α := Int32) (if z = 0 then v22 else (if z = 1 then v25 else r27)) <| fun v32 => some (v32, σ31)
        obtain ⟨σ9, e9, s9, g9⟩ := m_terms_loop (seed := seed) hR8 hRB hE8 hEB hSB (by omega) (by omega) w6 Km w FU 0 σ8 (by omega) (by unfold FU; omega) hs8 hv8 (agT_rf _)
        have h34' : SM σ9 34 0 a := fun k hk => by rw [g9.1.1 34 (by decide) (by decide) (by unfold scrM; omega)]; exact h34 k hk
        obtain ⟨σ14, e14, g14, -, d14⟩ := m_copies (o1 := 0) (c2 := 33) (n2 := 14) (o2 := 0) (n1 := 14) h34' (by decide) (by omega) (by omega) (by omega) (by omega) rfl rfl
        have e14' : fX12_copies 34 14 0 33 14 0 σ9 = some σ14 := e14
        have gall : agS σ1 σ14 := by
          have q1 : agS σ1 (fx_sl σ1 0 54 (nJ seed)) := agS_T agT_g
          have q2 : agS (fx_sl σ1 0 54 (nJ seed)) σ8 := ⟨fun b h1 h2 h3 => g8.1 b (fun q => h3 (by unfold scQ; omega)), fun k _ _ => by rw [g8.1 0 (by decide)], fun b j _ => by rw [g8.2], by rw [g8.2]⟩
          exact agS_tr q1 (agS_tr q2 (agS_tr (agS_T g9) (agS_33 g14)))
        have f7a : σx6.1 7 3 = nI (a 1) := (SX_sc hSX g6 (Or.inl rfl)).2.2.1
        have f7b : σx6.1 7 4 = nI (a 2) := (SX_sc hSX g6 (Or.inl rfl)).2.2.2.1
        have f10a : σx6.1 10 3 = nI ((tms r ef a seed w).1 1) := s6.2.2.1
        have f10b : σx6.1 10 4 = nI ((tms r ef a seed w).1 2) := s6.2.2.2.1
        have m1 : σ9.1 33 1 = nI ((tms r ef a seed w).1 1) := sm_k s9 (by omega)
        have m2 : σ9.1 33 2 = nI ((tms r ef a seed w).1 2) := sm_k s9 (by omega)
        have q1 : σ9.1 34 1 = nI (a 1) := by have := h34' 1 (by omega); rwa [Nat.zero_add] at this
        have q2 : σ9.1 34 2 = nI (a 2) := by have := h34' 2 (by omega); rwa [Nat.zero_add] at this
        refine ⟨if z = 0 then nI ((tms r ef a seed w).1 1) - nI (a 1) else if z = 1 then nI ((tms r ef a seed w).1 2) - nI (a 2) else nI (ald (tms r ef a seed w).1), σx6, σ14, ?_, ?_, ⟨r, ef, a, t, d, RelA_st hA (agr_mono (fun q hq => Or.inr (Or.inr (Or.inr hq))) g6) gall (SX_sc hSX g6 (Or.inl rfl)) d14 (SB_up hSB (by omega)) (by omega)⟩⟩
        · rw [if_neg hz0, if_pos hz2, e5, fxBV_s, nJ_nI (by omega), fxL_r, fxL_r]
          refine e6.trans ?_
          show (if z = 0 then (some (((σx6.1 10 3) - (σx6.1 7 3)), σx6)) else (if z = 1 then (some (((σx6.1 10 4) - (σx6.1 7 4)), σx6)) else (fxBP (fX7_allDone 10 σx6) <| fun r19 => some (r19, σx6)))) = _
          rw [f10a, f10b, f7a, f7b, x_allDone s6, fxBP_s]
          split
          · rfl
          · split <;> rfl
        · rw [wi_t hz0 (Int32.not_lt.mpr hz2), fxBP_s, if_neg (by decide : ¬ (1 : Int32) = 0), nJ_nI (by omega), fxL_r, e8, fxBV_s, fxL_r]
          refine e9.trans ?_
          show (fxG (fx_in 1 14 = true) <| fxG (fx_in 1 14 = true) <| fxL (α := Int32) ((σ9.1 33 (Int32.toNatClampNeg 1)) - (σ9.1 34 (Int32.toNatClampNeg 1))) <| fun v22 => fxG (fx_in 2 14 = true) <| fxG (fx_in 2 14 = true) <| fxL (α := Int32) ((σ9.1 33 (Int32.toNatClampNeg 2)) - (σ9.1 34 (Int32.toNatClampNeg 2))) <| fun v25 => fxBP (fX12_allDone σ9) <| fun r27 => fxBV (fX12_copies 34 14 0 33 14 0 σ9) <| fun σ31 => fxL (α := Int32) (if z = 0 then v22 else (if z = 1 then v25 else r27)) <| fun v32 => some (v32, σ31)) = _
          rw [fxG_t (by decide), fxG_t (by decide), cl1, m1, q1, fxL_r, fxG_t (by decide), fxG_t (by decide), cl2, m2, q2, fxL_r, m_allDone s9, fxBP_s, e14', fxBV_s, fxL_r]
