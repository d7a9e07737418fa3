/-! ===== the reference: a week ===== -/
/-- a ware is worked at twice -/
theorem wrk2 {r : AR} {a : AS} {j m : Nat} (ha : a (3 + j) ≤ rH r j) : wrk r (wrk r a j m) j m = wrk r a j (2 * m) ∧ wfi r a j m + wfi r (wrk r a j m) j m = wfi r a j (2 * m) := by
  have e3 : wrk r a j m (3 + j) = min (a (3 + j) + m) (rH r j) := by rw [wrk, upS_ne (by omega), upS_eq]
  have e1 : wrk r a j m 1 = a 1 + (a (3 + j) + m - rH r j) * r 0 2 := by rw [wrk, upS_eq]
  have key : (a (3 + j) + m - rH r j) + (min (a (3 + j) + m) (rH r j) + m - rH r j) = a (3 + j) + 2 * m - rH r j := by omega
  refine ⟨funext fun k => ?_, ?_⟩
  · rw [wrk.eq_def r (wrk r a j m), wrk.eq_def r a j (2 * m)]
    by_cases k1 : k = 1
    · subst k1
      rw [upS_eq, upS_eq, e1, e3, Nat.add_assoc, ← Nat.add_mul, key]
    · rw [upS_ne k1, upS_ne k1]
      by_cases k3 : k = 3 + j
      · subst k3
        rw [upS_eq, upS_eq, e3]
        omega
      · rw [upS_ne k3, upS_ne k3, wrk, upS_ne k1, upS_ne k3]
  · unfold wfi
    rw [e3, ← Nat.add_mul, key]
def agrM (σ σ' : FH) : Prop := (∀ b, b ≠ 33 → b ≠ 0 → ¬ scrM b → σ'.1 b = σ.1 b) ∧ (∀ k, k ≠ 52 → σ'.1 0 k = σ.1 0 k) ∧ σ'.2 = σ.2
theorem agrM_rf (σ : FH) : agrM σ σ := ⟨fun _ _ _ _ => rfl, fun _ _ => rfl, rfl⟩
theorem agrM_tr {a b c : FH} (h : agrM a b) (h' : agrM b c) : agrM a c := ⟨fun q h1 h2 h3 => (h'.1 q h1 h2 h3).trans (h.1 q h1 h2 h3), fun k hk => (h'.2.1 k hk).trans (h.2.1 k hk), h'.2.2.trans h.2.2⟩
theorem agrM_33 {σ σ' : FH} (h : agr (fun b => b = 33) σ σ') : agrM σ σ' := ⟨fun b h1 _ _ => h.1 b h1, fun k _ => by rw [h.1 0 (by decide)], h.2⟩
theorem agrM_sc {σ σ' : FH} (h : agr scrM σ σ') : agrM σ σ' := ⟨fun b _ _ h3 => h.1 b h3, fun k _ => by rw [h.1 0 (by unfold scrM; omega)], h.2⟩
theorem agrM_52 {σ : FH} {v : Int32} : agrM σ (fx_si σ 0 52 v) := ⟨fun b _ h2 _ => fx_si_o h2, fun k hk => by rw [si1, if_neg (by omega)], rfl⟩
theorem agrM_s33 {σ : FH} {k : Nat} {v : Int32} : agrM σ (fx_si σ 33 k v) := agrM_33 (agr_si rfl)
theorem RM_agrM {σ σ' : FH} {r : AR} (h : RM σ 0 r) (g : agrM σ σ') : RM σ' 0 r := by
  have e : ∀ b, b = 2 ∨ b = 5 ∨ b = 6 ∨ b = 7 ∨ b = 8 ∨ b = 9 → σ'.1 b = σ.1 b := fun b hb => g.1 b (by omega) (by omega) (by unfold scrM; omega)
  rw [RM, e 2 (by omega), e 5 (by omega), e 6 (by omega), e 7 (by omega), e 8 (by omega), e 9 (by omega)]
  exact h
theorem EM_agrM {σ σ' : FH} {ef : EF} (h : EM σ ef) (g : agrM σ σ') : EM σ' ef := by
  have e : ∀ b, b = 10 ∨ b = 11 ∨ b = 12 → σ'.1 b = σ.1 b := fun b hb => g.1 b (by omega) (by omega) (by unfold scrM; omega)
  intro so half votes date σ0 a1 a2 a3 a4 e1 e2 e3
  rw [e 10 (by omega)] at e1
  rw [e 11 (by omega)] at e2
  exact h so half votes date σ0 a1 a2 a3 a4 e1 e2 (fun k hk => by rw [e3 k hk, e 12 (by omega)])
theorem SM_sc {σ σ' : FH} {a : AS} (h : SM σ 33 0 a) (g : agr scrM σ σ') : SM σ' 33 0 a := fun k hk => by rw [g.1 33 (by unfold scrM; omega)]; exact h k hk
theorem SM_52 {σ : FH} {a : AS} {v : Int32} (h : SM σ 33 0 a) : SM (fx_si σ 0 52 v) 33 0 a := fun k hk => by rw [fx_si_o (by decide)]; exact h k hk
def agW (σ σ' : FH) : Prop := agr (fun b => b = 33 ∨ scrM b) σ σ'
theorem agW_33 {σ σ' : FH} (h : agr (fun b => b = 33) σ σ') : agW σ σ' := agr_mono (fun _ q => Or.inl q) h
theorem agW_sc {σ σ' : FH} (h : agr scrM σ σ') : agW σ σ' := agr_mono (fun _ q => Or.inr q) h
theorem agW_0 {σ σ' : FH} (h : agW σ σ') : σ'.1 0 = σ.1 0 := h.1 0 (by unfold scrM; omega)
theorem agW_M {σ σ' : FH} (h : agW σ σ') : agrM σ σ' := ⟨fun b h1 _ h3 => h.1 b (fun q => q.elim h1 h3), fun k _ => by rw [agW_0 h], h.2⟩
section MB
variable {σ : FH} {r : AR} {a : AS} {ef : EF}
theorem m_worksWeek (h : RM σ 0 r) (hb : RB r) (he : EM σ ef) (heb : EB ef) (hs : SM σ 33 0 a) {j : Nat} (hj : j < r 0 0) (hd : a (3 + j) ≤ rH r j) (hsb : ∀ p, p < r 0 1 → a (9 + p) ≤ 99) (h0 : a 0 < 60000) :
    ∃ σ', fX12_worksWeek (nI j) σ = some (nI (wfi r a j (mch r ef a j)), σ') ∧ SM σ' 33 0 (wrk r a j (mch r ef a j)) ∧ agW σ σ' := by
  have hw := hb.1
  have hB := hb.2.2.2.2.1 j hj
  have hhalf : rH r j ≤ 30 := by unfold rH; omega
  have hv := vts_le hb hsb j
  have h9 := heb (a (3 + j)) (rH r j) (vts r a j) (a 0)
  obtain ⟨σ1, e1, g1⟩ := he (a (3 + j)) (rH r j) (vts r a j) (a 0) σ (by omega) (by omega) (by omega) (by omega) rfl rfl (fun _ _ => rfl)
  have hR1 := RM_agrM h (agrM_sc g1)
  have hs1 := SM_sc hs g1
  have hml := much_le heb (r 1 j) (a (3 + j)) (rH r j) (vts r a j) (a 0)
  unfold fX12_worksWeek
  rw [fxG_t (fx_inN (by omega) (by decide)), fxL_r, thN, fxG_t (fx_inN (by omega) (by decide)), m_halfOf h hb hj, fxBP_s, m_votesOf h hb hs (by omega), fxBP_s, gi _ _ (by decide), cl0, fx_clN (by omega), fx_clN (by omega), sm_k hs (by omega), sm_k hs (by omega), e1, fxBI_s, fxG_t (fx_inN (by omega) (by decide)), fxL_r, rm_k h hj, rm_k hR1 hj, gi _ _ (by decide), remN (by omega)]
  have hm2 : a 0 % 2 < 2 := Nat.mod_lt _ (by decide)
  -- what follows the effort, for a ware that isn't a bridge, with so much
  have tail : ∀ m, m ≤ 9 → r 1 j ≠ 1 → mch r ef a j = m → ∃ σ', (fxBI (fX12_works (nI j) (nI m) σ1) fun r18 σ19 => fxG (fx_in (nI j) 12 = true) (if σ19.1 5 j = 1 then fxBI (fX12_works (nI j) (nI m) σ19) fun r23 σ24 => some (r18 + r23, σ24) else some (r18, σ19))) = some (nI (wfi r a j (mch r ef a j)), σ') ∧ SM σ' 33 0 (wrk r a j (mch r ef a j)) ∧ agW σ σ' := by
    intro m hm hk1 hmm
    obtain ⟨σ2, e2, hs2, g2⟩ := m_works hR1 hb hs1 (j := j) (m := m) hj (by omega) hd
    have hR2 := RM_agrM hR1 (agrM_33 g2)
    refine ⟨σ2, ?_, by rw [hmm]; exact hs2, agr_tr (agW_sc g1) (agW_33 g2)⟩
    have c1 : ¬ nI (r 1 j) = 1 := fun q => hk1 (nI_inj (b := 1) (by omega) (by decide) q)
    rw [e2, fxBI_s, fxG_t (fx_inN (by omega) (by decide)), rm_k hR2 hj, if_neg c1, hmm]
  by_cases k3 : r 1 j = 3
  · rw [if_pos (by rw [k3]; rfl)]
    by_cases d1 : a 0 % 2 = 1
    · have hz : mch r ef a j = 0 := by unfold mch much; rw [if_pos ⟨k3, d1⟩]
      refine ⟨σ, ?_, ?_, agr_rf _ σ⟩
      · rw [d1, if_pos (by decide), hz]
        have : wfi r a j 0 = 0 := by unfold wfi; rw [show a (3 + j) + 0 - rH r j = 0 by omega, Nat.zero_mul]
        rw [this]
        rfl
      · intro k hk
        rw [hz, hs k hk, wrk]
        by_cases k1 : k = 1
        · subst k1
          rw [upS_eq, show a (3 + j) + 0 - rH r j = 0 by omega, Nat.zero_mul, Nat.add_zero]
        · rw [upS_ne k1]
          by_cases kj : k = 3 + j
          · subst kj
            rw [upS_eq]
            congr 1
            omega
          · rw [upS_ne kj]
    · rw [show a 0 % 2 = 0 by omega, if_neg (by decide), if_neg (fun q => by rw [k3] at q; exact absurd q (by decide))]
      exact tail _ h9 (by omega) (by unfold mch much; rw [if_neg (by omega), if_neg (by omega), if_neg (by omega)])
  · have c3 : ¬ nI (r 1 j) = 3 := fun q => k3 (nI_inj (b := 3) (by omega) (by decide) q)
    rw [if_neg c3]
    by_cases k2 : r 1 j = 2
    · rw [if_pos (by rw [k2]; rfl), m_halfOf hR1 hb hj, fxBP_s, fxG_t (fx_inN (by omega) (by decide)), sm_k hs1 (by omega), pk_sub hd, nI_1, div2N (by omega), minN (by omega) (by omega), fxL_r]
      have hmin := Nat.min_le_left (ef (a (3 + j)) (rH r j) (vts r a j) (a 0)) ((rH r j - a (3 + j) + 1) / 2)
      exact tail _ (by omega) (by omega) (by unfold mch much; rw [if_neg (by omega), if_neg (by omega), if_pos k2])
    · have c2 : ¬ nI (r 1 j) = 2 := fun q => k2 (nI_inj (b := 2) (by omega) (by decide) q)
      rw [if_neg c2]
      by_cases k1 : r 1 j = 1
      · have hmm : mch r ef a j = 2 * ef (a (3 + j)) (rH r j) (vts r a j) (a 0) := by unfold mch much; rw [if_neg (by omega), if_pos k1]
        obtain ⟨σ2, e2, hs2, g2⟩ := m_works hR1 hb hs1 (j := j) (m := ef (a (3 + j)) (rH r j) (vts r a j) (a 0)) hj (by omega) hd
        have hR2 := RM_agrM hR1 (agrM_33 g2)
        have hd2 : wrk r a j (ef (a (3 + j)) (rH r j) (vts r a j) (a 0)) (3 + j) ≤ rH r j := by rw [wrk, upS_ne (by omega), upS_eq]; exact Nat.min_le_right _ _
        obtain ⟨σ3, e3, hs3, g3⟩ := m_works hR2 hb hs2 (j := j) (m := ef (a (3 + j)) (rH r j) (vts r a j) (a 0)) hj (by omega) hd2
        have hw2 := wrk2 (r := r) (a := a) (j := j) (m := ef (a (3 + j)) (rH r j) (vts r a j) (a 0)) hd
        refine ⟨σ3, ?_, by rw [hmm, ← hw2.1]; exact hs3, agr_tr (agW_sc g1) (agr_tr (agW_33 g2) (agW_33 g3))⟩
        dsimp only
        rw [e2, fxBI_s, fxG_t (fx_inN (by omega) (by decide)), rm_k hR2 hj, if_pos (by rw [k1]; rfl), e3, fxBI_s, nI_add, hw2.2, hmm]
      · exact tail _ h9 k1 (by unfold mch much; rw [if_neg (by omega), if_neg k1, if_neg k2])
/-- which wares are fined in a week, as bits -/
def wkb (r : AR) (ef : EF) (a : AS) : Nat → Nat
  | 0 => 0
  | n + 1 => wkb r ef a n + (if 0 < wfi r (wks r ef a n) n (mch r ef (wks r ef a n) n) then 1 else 0) * 2 ^ n
theorem wkb_lt (r : AR) (ef : EF) (a : AS) : ∀ n, wkb r ef a n < 2 ^ n
  | 0 => by rw [wkb]; decide
  | n + 1 => by
    have h := wkb_lt r ef a n
    have : (if 0 < wfi r (wks r ef a n) n (mch r ef (wks r ef a n) n) then 1 else 0) * 2 ^ n ≤ 1 * 2 ^ n := Nat.mul_le_mul_right _ (by split <;> omega)
    rw [wkb, Nat.pow_succ]
    omega
theorem or0 (x : Int32) : x ||| 0 = x := Int32.or_zero
theorem m_pass_loop (h : RM σ 0 r) (hb : RB r) (he : EM σ ef) (heb : EB ef) (hd : ∀ i, i < r 0 0 → a (3 + i) ≤ rH r i) (hsb : ∀ p, p < r 0 1 → a (9 + p) ≤ 99) (h0 : a 0 < 60000) (K : Int32 → FH → Option (Int32 × FH)) :
    ∀ (m n i acc : Nat) (σ1 : FH), i + m = r 0 0 → m < n → SM σ1 33 0 (wks r ef a i) → σ1.1 0 52 = nI (wkb r ef a i) → agrM σ σ1 →
      ∃ σ', fX12_passes_9 K n (nI (acc + wkf r ef a i)) (nI i) σ1 = K (nI (acc + wkf r ef a (r 0 0))) σ' ∧ SM σ' 33 0 (wks r ef a (r 0 0)) ∧ σ'.1 0 52 = nI (wkb r ef a (r 0 0)) ∧ agrM σ σ'
  | m, 0, i, acc, σ1, _, h2, _, _, _ => absurd h2 (by omega)
  | 0, n + 1, i, acc, σ1, h1, _, hs1, hf1, g1 => by
    have hw := hb.1
    have hR := RM_agrM h g1
    obtain rfl : i = r 0 0 := by omega
    refine ⟨σ1, ?_, hs1, hf1, g1⟩
    rw [fX12_passes_9, gi _ _ (by decide), cl0, rm_w hR, if_pos (nI_le (by omega) (by omega))]
  | m + 1, n + 1, i, acc, σ1, h1, h2, hs1, hf1, g1 => by
    have hw := hb.1
    have hR := RM_agrM h g1
    have hE := EM_agrM he g1
    have hlt : i < r 0 0 := by omega
    have hs9 : ∀ p, p < r 0 1 → wks r ef a i (9 + p) ≤ 99 := fun p hp => by rw [wks_keep r ef a i (9 + p) (by omega) (by omega)]; exact hsb p hp
    have hdn := wks_done (ef := ef) hd i (by omega) hw i hlt
    have hk0 := wks_keep r ef a i 0 (by omega) (by omega)
    have hB := hb.2.2.2.2.1 i hlt
    have hhalf : rH r i ≤ 30 := by unfold rH; omega
    have hF := hb.2.2.2.1
    have hml : mch r ef (wks r ef a i) i ≤ 18 := much_le heb _ _ _ _ _
    obtain ⟨σ2, e2, hs2, g2⟩ := m_worksWeek hR hb hE heb hs1 hlt hdn hs9 (by omega)
    have hf2 : σ2.1 0 52 = nI (wkb r ef a i) := by rw [agW_0 g2]; exact hf1
    have hwl := wkb_lt r ef a i
    have hfi : wfi r (wks r ef a i) i (mch r ef (wks r ef a i) i) < 1000 := by
      unfold wfi
      have : (wks r ef a i (3 + i) + mch r ef (wks r ef a i) i - rH r i) * r 0 2 ≤ 48 * 9 := Nat.mul_le_mul (by omega) hF
      omega
    have hor : nI (wkb r ef a i) ||| (if nI (wfi r (wks r ef a i) i (mch r ef (wks r ef a i) i)) ≤ 0 then (0 : Int32) else ((1 : Int32) <<< (nI i &&& 31))) = nI (wkb r ef a (i + 1)) := by
      rw [wkb]
      by_cases c : wfi r (wks r ef a i) i (mch r ef (wks r ef a i) i) = 0
      · rw [c, if_pos (by decide), or0, if_neg (by omega), Nat.zero_mul, Nat.add_zero]
      · rw [if_neg (by rw [n0, nI_leI (by omega) (by omega)]; omega), if_pos (by omega)]
        exact orN i (by omega) _ hwl 1 (by decide)
    obtain ⟨σ', e', hs', hf', g'⟩ := m_pass_loop h hb he heb hd hsb h0 K m n (i + 1) acc (fx_si σ2 0 52 (nI (wkb r ef a (i + 1)))) (by omega) (by omega) (SM_52 hs2) (by rw [si1, if_pos ⟨rfl, rfl⟩]) (agrM_tr g1 (agrM_tr (agW_M g2) agrM_52))
    refine ⟨σ', ?_, hs', hf', g'⟩
    rw [fX12_passes_9, gi _ _ (by decide), cl0, rm_w hR, if_neg (by rw [nI_leI (by omega) (by omega)]; omega), e2, fxBI_s, nI_add, fxL_r, fxL_r, hf2, hor, fxL_r, nI_1, ← e']
    simp only [wkf, Nat.add_assoc]
theorem m_passes (h : RM σ 0 r) (hb : RB r) (he : EM σ ef) (heb : EB ef) (hs : SM σ 33 0 a) (hd : ∀ i, i < r 0 0 → a (3 + i) ≤ rH r i) (hsb : ∀ p, p < r 0 1 → a (9 + p) ≤ 99) (h0 : a 0 < 60000) :
    ∃ σ', fX12_passes σ = some (nI (wf r ef a), σ') ∧ SM σ' 33 0 (wk r ef a) ∧ σ'.1 0 52 = nI (wkb r ef a (r 0 0)) ∧ agrM σ σ' := by
  have hw := hb.1
  have g0 : agrM σ (fx_si σ 0 52 0) := agrM_52
  obtain ⟨σ1, e1, hs1, hf1, g1⟩ := m_pass_loop h hb he heb hd hsb h0 (fun x3 σ4 => fxG (fx_in 0 14 = true) <| fxG (fx_in 0 14 = true) <| fxL (fx_si σ4 33 (Int32.toNatClampNeg 0) ((σ4.1 33 (Int32.toNatClampNeg 0)) + 1)) <| fun σ7 => some (x3, σ7)) (r 0 0) FU 0 0 (fx_si σ 0 52 0) (by omega) (by unfold FU; omega) (SM_52 hs) (by rw [si1, if_pos ⟨rfl, rfl⟩]; rfl) g0
  refine ⟨fx_si σ1 33 0 (nI (a 0 + 1)), ?_, fun k hk => ?_, ?_, agrM_tr g1 agrM_s33⟩
  · unfold fX12_passes
    rw [fxL_r, fxL_r]
    refine e1.trans ?_
    rw [gi _ _ (by decide), gi _ _ (by decide), fxL_r, cl0, sm_k hs1 (by omega), wks_keep r ef a _ 0 hw (by omega), nI_1, Nat.zero_add]
    rfl
  · rw [Nat.zero_add, si1, wk]
    by_cases k0 : k = 0
    · subst k0
      rw [if_pos ⟨rfl, rfl⟩, upS_eq]
    · rw [if_neg (by omega), upS_ne k0]
      exact sm_k hs1 hk
  · rw [si1, if_neg (by omega)]
    exact hf1
end MB
