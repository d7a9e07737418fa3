/-! ===== the reference works a law out: the loop ===== -/
theorem dlv_lt (φ : Nat → RW) (d : Nat) (v : Int32) : (dlv v d φ).1 ≤ d := by rw [dlv_pops]; exact pops_le φ d v
set_option maxHeartbeats 4000000 in
theorem w_loop (ev : EV) {to : Nat} (hto : to ≤ 2000) : ∀ (l : List Int32) (n k d : Nat) (σ : FH) (s' : WS), l.length < n → k + l.length = to → σ.1 11 0 = nI to → CD (σ.1 12) k l → (∀ c, 1 ≤ c → c ≤ 4 → σ.1 24 c = ev c) → d < 7 → irun ev l (d, phi σ) = some s' → ∃ σ', (∀ K, fX12_worked_14 0 K n (nI d) (nI k) σ = K σ') ∧ phi σ' = s'.2 ∧ agW9 σ σ'
  | l, 0, k, d, σ, s', h, _, _, _, _, _, _ => absurd h (by omega)
  | [], n + 1, k, d, σ, s', _, h2, hl, _, _, _, hr => by
    refine ⟨σ, fun K => ?_, ?_, agW9_rf _⟩
    · have : k = to := by simpa using h2
      rw [fX12_worked_14, fxG_t (by decide), show Int32.toNatClampNeg 0 = 0 from by decide, hl, if_pos (nI_le (by omega) (by omega))]
    · have := Option.some.inj hr
      rw [← this]
  | c :: l, n + 1, k, d, σ, s', h, h2, hl, hc, hv, hd, hr => by
    rw [List.length_cons] at h h2
    have hk : ¬ nI to ≤ nI k := le_no (by omega) (by omega)
    have hki : fx_in (nI k) 2000 = true := fx_inN (by omega) (by decide)
    have hkc : Int32.toNatClampNeg (nI k) = k := fx_clN (by omega)
    have hdi : fx_in (nI d) 7 = true := fx_inN hd (by decide)
    have hdc : Int32.toNatClampNeg (nI d) = d := fx_clN (by omega)
    have h0 : Int32.toNatClampNeg 0 = 0 := by decide
    have hg : fx_in 0 2 = true := by decide
    have step : ∀ (d1 : Nat) (φ1 : Nat → RW) (σ2 : FH), istep ev (d, phi σ) c = some (d1, φ1) → phi σ2 = φ1 → agW9 σ σ2 → d1 < 7 → (∀ K, fX12_worked_14 0 K (n + 1) (nI d) (nI k) σ = fX12_worked_14 0 K n (nI d1) (nI (k + 1)) σ2) → ∃ σ', (∀ K, fX12_worked_14 0 K (n + 1) (nI d) (nI k) σ = K σ') ∧ phi σ' = s'.2 ∧ agW9 σ σ' := by
      intro d1 φ1 σ2 e1 e2 g2 b2 e3
      have hr2 : irun ev l (d1, phi σ2) = some s' := by
        rw [irun, e1] at hr
        rw [e2]; exact hr
      obtain ⟨σ', e4, e5, g3⟩ := w_loop ev hto l n (k + 1) d1 σ2 s' (by omega) (by omega) (by rw [g2.1 11 (by omega)]; exact hl) (by rw [g2.1 12 (by omega)]; exact hc.2) (fun c c1 c2 => by rw [g2.1 24 (by omega)]; exact hv c c1 c2) b2 hr2
      exact ⟨σ', fun K => (e3 K).trans (e4 K), e5, agW9_tr g2 g3⟩
    by_cases a1 : c = 28 ∨ c = 30
    · have ei : istep ev (d, phi σ) c = if d < 6 then some (d + 1, sR (phi σ) (d + 1) (opR (upd (phi σ (d + 1)) 8 (if c = 30 then 1 else 0)))) else none := if_pos a1
      by_cases d6 : d < 6
      · rw [if_pos d6] at ei
        obtain ⟨σ3, e3, p3, g3⟩ := w_opens (σ := fx_si σ (15 + 8) (d + 1) (if c = 30 then 1 else 0)) (d := d + 1) (by omega)
        have hdi1 : fx_in (nI (d + 1)) 7 = true := fx_inN (by omega) (by decide)
        have hdc1 : Int32.toNatClampNeg (nI (d + 1)) = d + 1 := fx_clN (by omega)
        refine step (d + 1) _ σ3 ei (by rw [p3, phi_si _ 8, sR_at, sR_sR]) (agW9_tr (agW9_si (f := 8) (by decide)) g3) (by omega) (fun K => ?_)
        have ee : ∀ A B : Option (Int32 × FH), (if c = 28 then A else (if c = 30 then A else B)) = A := fun A B => by
          rcases a1 with z | z
          · rw [if_pos z]
          · by_cases y : c = 28
            · rw [if_pos y]
            · rw [if_neg y, if_pos z]
        rw [fX12_worked_14, fxG_t hg, h0, hl, if_neg hk, fxG_t hki, hkc, hc.1, fxL_r, fxL_r, nI_1, nI_1, ee, fxL_r, fxG_t hdi1, hdc1, fxL_r, show (23 : Nat) = 15 + 8 from rfl, e3, fxBV_s]
      · rw [if_neg d6] at ei
        rw [irun, ei] at hr
        cases hr
    have b28 : ¬ c = 28 := fun z => a1 (Or.inl z)
    have b30 : ¬ c = 30 := fun z => a1 (Or.inr z)
    by_cases a2 : c = 20 ∨ c = 21
    · have ei : istep ev (d, phi σ) c = some (d, sR (phi σ) d (upd (smR (phi σ d)) 5 c)) := by unfold istep; rw [if_neg a1, if_pos a2]
      obtain ⟨σ3, e3, p3, g3⟩ := w_sums (σ := σ) hd
      refine step d _ (fx_si σ3 (15 + 5) d c) ei (by rw [phi_si _ 5, p3, sR_at, sR_sR]) (agW9_tr g3 (agW9_si (f := 5) (by decide))) hd (fun K => ?_)
      rw [fX12_worked_14, fxG_t hg, h0, hl, if_neg hk, fxG_t hki, hkc, hc.1, fxL_r, fxL_r, if_neg b28, if_neg b30, fxL_r, e3, fxBV_s, fxG_t hdi, hdc, fxL_r, nI_1]
      rcases a2 with z | z
      · rw [if_pos z]
      · by_cases y : c = 20
        · rw [if_pos y]
        · rw [if_neg y, if_pos z]
    have b20 : ¬ c = 20 := fun z => a2 (Or.inl z)
    have b21 : ¬ c = 21 := fun z => a2 (Or.inr z)
    by_cases a3 : c = 22
    · have ei : istep ev (d, phi σ) c = some (d, sR (phi σ) d (upd (phi σ d) 7 c)) := by unfold istep; rw [if_neg a1, if_neg a2, if_pos a3]
      refine step d _ (fx_si σ (15 + 7) d c) ei (by rw [phi_si _ 7]) (agW9_si (f := 7) (by decide)) hd (fun K => ?_)
      rw [fX12_worked_14, fxG_t hg, h0, hl, if_neg hk, fxG_t hki, hkc, hc.1, fxL_r, fxL_r, if_neg b28, if_neg b30, fxL_r, if_neg b20, if_neg b21, if_pos a3, fxG_t hdi, hdc, fxL_r, nI_1]
    by_cases a4 : c = 24 ∨ c = 25
    · have ei : istep ev (d, phi σ) c = some (d, sR (phi σ) d (cmR (phi σ d) c)) := by unfold istep; rw [if_neg a1, if_neg a2, if_neg a3, if_pos a4]
      obtain ⟨σ3, e3, p3, g3⟩ := w_sums (σ := σ) hd
      have q4 : σ3.1 19 d = smV (phi σ d) := by
        have := congrFun (congrFun p3 d) 4
        rw [sR_at] at this
        exact this
      refine step d _ (fx_si (fx_si (fx_si (fx_si σ3 (15 + 2) d (smV (phi σ d))) (15 + 3) d c) (15 + 4) d 0) (15 + 5) d 20) ei ?_ (agW9_tr g3 (agW9_tr (agW9_si (f := 2) (by decide)) (agW9_tr (agW9_si (f := 3) (by decide)) (agW9_tr (agW9_si (f := 4) (by decide)) (agW9_si (f := 5) (by decide)))))) hd (fun K => ?_)
      · rw [phi_si _ 5, phi_si _ 4, phi_si _ 3, phi_si _ 2, p3]
        simp only [sR_at, sR_sR]
        rfl
      · rw [fX12_worked_14, fxG_t hg, h0, hl, if_neg hk, fxG_t hki, hkc, hc.1, fxL_r, fxL_r, if_neg b28, if_neg b30, fxL_r, if_neg b20, if_neg b21, if_neg a3, fxL_r, e3, fxBV_s, hdc, q4]
        simp only [fxL_r, fxG_t hdi, nI_1]
        rcases a4 with z | z
        · rw [if_pos z]
        · by_cases y : c = 24
          · rw [if_pos y]
          · rw [if_neg y, if_pos z]
    have b24 : ¬ c = 24 := fun z => a4 (Or.inl z)
    have b25 : ¬ c = 25 := fun z => a4 (Or.inr z)
    by_cases a5 : c = 26 ∨ c = 27
    · have ei : istep ev (d, phi σ) c = some (d, sR (phi σ) d (upd (teR (phi σ d)) 1 c)) := by unfold istep; rw [if_neg a1, if_neg a2, if_neg a3, if_neg a4, if_pos a5]
      obtain ⟨σ3, e3, p3, g3⟩ := w_tests (σ := σ) hd
      refine step d _ (fx_si σ3 (15 + 1) d c) ei (by rw [phi_si _ 1, p3, sR_at, sR_sR]) (agW9_tr g3 (agW9_si (f := 1) (by decide))) hd (fun K => ?_)
      rw [fX12_worked_14, fxG_t hg, h0, hl, if_neg hk, fxG_t hki, hkc, hc.1, fxL_r, fxL_r, if_neg b28, if_neg b30, fxL_r, if_neg b20, if_neg b21, if_neg a3, fxL_r, if_neg b24, if_neg b25, fxL_r, e3, fxBV_s, fxG_t hdi, hdc, fxL_r, nI_1]
      rcases a5 with z | z
      · rw [if_pos z]
      · by_cases y : c = 26
        · rw [if_pos y]
        · rw [if_neg y, if_pos z]
    have b26 : ¬ c = 26 := fun z => a5 (Or.inl z)
    have b27 : ¬ c = 27 := fun z => a5 (Or.inr z)
    -- what a value does
    have fin : ∀ (e : Nat) (v : Int32) (σ4 : FH), e < 7 → ∀ (K : FH → Option (Int32 × FH)), fX12_worked_268 σ4 (fun (x71 : Int32) (x72 : Int32) => fxG (fx_in x71 7 = true) (if (σ4.1 22 (Int32.toNatClampNeg x71)) = 0 then (fxG (fx_in x71 7 = true) (fX12_worked_14 0 K n x71 (nI (k + 1)) (fx_si σ4 21 (Int32.toNatClampNeg x71) x72))) else (fxG (fx_in x71 7 = true) (fxG (fx_in x71 7 = true) (fX12_worked_14 0 K n x71 (nI (k + 1)) (fx_si σ4 21 (Int32.toNatClampNeg x71) ((σ4.1 21 (Int32.toNatClampNeg x71)) * x72))))))) FU (nI e) v = fX12_worked_14 0 K n (nI (dlv v e (phi σ4)).1) (nI (k + 1)) (fx_si σ4 (15 + 6) (pops v e (phi σ4)).1 (if phi σ4 (pops v e (phi σ4)).1 7 = 0 then (pops v e (phi σ4)).2 else phi σ4 (pops v e (phi σ4)).1 6 * (pops v e (phi σ4)).2)) := by
      intro e v σ4 he K
      have hp := pops_le (phi σ4) e v
      rw [w_pops σ4 _ e FU v he (by unfold FU; omega), dlv_pops]
      have hi : fx_in (nI (pops v e (phi σ4)).1) 7 = true := fx_inN (by omega) (by decide)
      have hcc : Int32.toNatClampNeg (nI (pops v e (phi σ4)).1) = (pops v e (phi σ4)).1 := fx_clN (by omega)
      rw [hcc]
      simp only [fxG_t hi]
      by_cases z : σ4.1 22 (pops v e (phi σ4)).1 = 0
      · rw [if_pos z, if_pos (show phi σ4 (pops v e (phi σ4)).1 7 = 0 from z)]
      · rw [if_neg z, if_neg (show ¬ phi σ4 (pops v e (phi σ4)).1 7 = 0 from z)]; rfl
    have finp : ∀ (e : Nat) (v : Int32) (σ4 : FH), phi (fx_si σ4 (15 + 6) (pops v e (phi σ4)).1 (if phi σ4 (pops v e (phi σ4)).1 7 = 0 then (pops v e (phi σ4)).2 else phi σ4 (pops v e (phi σ4)).1 6 * (pops v e (phi σ4)).2)) = (dlv v e (phi σ4)).2 := fun e v σ4 => by rw [phi_si _ 6, dlv_pops]; rfl
    by_cases a6 : c = 29
    · have ei : istep ev (d, phi σ) c = if 0 < d then some (dlv (chV (phi σ d)) (d - 1) (sR (phi σ) d (teR (phi σ d)))) else none := by unfold istep; rw [if_neg a1, if_neg a2, if_neg a3, if_neg a4, if_neg a5, if_pos a6]
      by_cases d0 : 0 < d
      · rw [if_pos d0] at ei
        obtain ⟨σ3, e3, p3, g3⟩ := w_tests (σ := σ) hd
        have q0 : σ3.1 15 d = chV (phi σ d) := by
          have := congrFun (congrFun p3 d) 0
          rw [sR_at] at this
          exact this
        have hm : nI d + -1 = nI (d - 1) := by
          obtain ⟨m, rfl⟩ : ∃ m, d = m + 1 := ⟨d - 1, by omega⟩
          exact pk_m1 m
        have hp := finp (d - 1) (chV (phi σ d)) σ3
        rw [p3] at hp
        have hlt := dlv_lt (sR (phi σ) d (teR (phi σ d))) (d - 1) (chV (phi σ d))
        refine step (dlv (chV (phi σ d)) (d - 1) (sR (phi σ) d (teR (phi σ d)))).1 _ _ ei hp (agW9_tr g3 (agW9_si (f := 6) (by decide))) (by omega) (fun K => ?_)
        have hf := fin (d - 1) (chV (phi σ d)) σ3 (by omega) K
        rw [p3] at hf
        refine Eq.trans ?_ hf
        have b100 : c < 100 := by rw [a6]; decide
        have bb20 : (20 : Int32) ≤ c := by rw [a6]; decide
        rw [fX12_worked_14, fxG_t hg, h0, hl, if_neg hk, fxG_t hki, hkc, hc.1, fxL_r, fxL_r, if_neg b28, if_neg b30, fxL_r, if_neg b20, if_neg b21, if_neg a3, fxL_r, if_neg b24, if_neg b25, fxL_r, if_neg b26, if_neg b27, fxL_r]
        simp only [fxL_r]
        rw [if_pos b100, if_pos bb20, if_pos a6, e3, fxBV_s, fxG_t hdi, hdc, q0, hm, nI_1]
      · rw [if_neg d0] at ei
        rw [irun, ei] at hr
        cases hr
    by_cases a7 : c = 1 ∨ c = 2 ∨ c = 3 ∨ c = 4
    · have ei : istep ev (d, phi σ) c = some (dlv (ev c.toNatClampNeg) d (phi σ)) := by unfold istep; rw [if_neg a1, if_neg a2, if_neg a3, if_neg a4, if_neg a5, if_neg a6, if_pos a7]
      have cx : c < 100 ∧ ¬ (20 : Int32) ≤ c ∧ fx_in c 20 = true ∧ 1 ≤ c.toNatClampNeg ∧ c.toNatClampNeg ≤ 4 := by
        rcases a7 with z | z | z | z <;> rw [z] <;> decide
      have hlt := dlv_lt (phi σ) d (ev c.toNatClampNeg)
      refine step (dlv (ev c.toNatClampNeg) d (phi σ)).1 _ _ ei (finp d _ σ) (agW9_si (f := 6) (by decide)) (by omega) (fun K => ?_)
      refine Eq.trans ?_ (fin d (ev c.toNatClampNeg) σ hd K)
      rw [fX12_worked_14, fxG_t hg, h0, hl, if_neg hk, fxG_t hki, hkc, hc.1, fxL_r, fxL_r, if_neg b28, if_neg b30, fxL_r, if_neg b20, if_neg b21, if_neg a3, fxL_r, if_neg b24, if_neg b25, fxL_r, if_neg b26, if_neg b27, fxL_r]
      simp only [fxL_r]
      rw [if_pos cx.1, if_neg cx.2.1, fxG_t cx.2.2.1, if_neg a6, hv _ cx.2.2.2.1 cx.2.2.2.2, nI_1]
    by_cases a8 : c < 100
    · have ei : istep ev (d, phi σ) c = none := by unfold istep; rw [if_neg a1, if_neg a2, if_neg a3, if_neg a4, if_neg a5, if_neg a6, if_neg a7, if_pos a8]
      rw [irun, ei] at hr
      cases hr
    · have ei : istep ev (d, phi σ) c = some (dlv (c - 100) d (phi σ)) := by unfold istep; rw [if_neg a1, if_neg a2, if_neg a3, if_neg a4, if_neg a5, if_neg a6, if_neg a7, if_neg a8]
      have hlt := dlv_lt (phi σ) d (c - 100)
      refine step (dlv (c - 100) d (phi σ)).1 _ _ ei (finp d _ σ) (agW9_si (f := 6) (by decide)) (by omega) (fun K => ?_)
      refine Eq.trans ?_ (fin d (c - 100) σ hd K)
      rw [fX12_worked_14, fxG_t hg, h0, hl, if_neg hk, fxG_t hki, hkc, hc.1, fxL_r, fxL_r, if_neg b28, if_neg b30, fxL_r, if_neg b20, if_neg b21, if_neg a3, fxL_r, if_neg b24, if_neg b25, fxL_r, if_neg b26, if_neg b27, fxL_r]
      simp only [fxL_r]
      rw [if_neg a8, if_neg a6, nI_1]
/-- a fresh row, and what is kept at last -/
def clr (r : RW) : Prop := r 1 = 0 ∧ r 3 = 0 ∧ r 4 = 0 ∧ r 5 = 20 ∧ r 7 = 0
theorem opR_clr (r : RW) : clr (opR r) := ⟨rfl, rfl, rfl, rfl, rfl⟩
theorem w_worked (ev : EV) {I : List Int32} {σ : FH} {v : Int32} (h0 : σ.1 10 0 = nI 0) (h1 : σ.1 11 0 = nI I.length) (hI : I.length ≤ 1000) (hc : CD (σ.1 12) 0 I) (hv : ∀ c, 1 ≤ c → c ≤ 4 → σ.1 24 c = ev c) (hr : ∀ φ : Nat → RW, clr (φ 0) → ∃ φ1, irun ev I (0, φ) = some (0, φ1) ∧ chV (φ1 0) = v) : ∃ σ', fX12_worked 0 σ = some (v, σ') ∧ agW9 σ σ' := by
  unfold fX12_worked
  obtain ⟨σ3, e3, p3, g3⟩ := w_opens (σ := σ) (d := 0) (by decide)
  have e3' : fX12_opens 0 σ = some σ3 := e3
  rw [e3', fxBV_s, fxG_t (by decide), show Int32.toNatClampNeg 0 = 0 from by decide, g3.1 10 (by omega), h0, fxL_r, fxL_r]
  obtain ⟨φ1, r1, r2⟩ := hr (phi σ3) (by rw [p3, sR_at]; exact opR_clr _)
  obtain ⟨σ4, e4, p4, g4⟩ := w_loop ev (to := I.length) (by omega) I FU 0 0 σ3 (0, φ1) (by unfold FU; omega) (by omega) (by rw [g3.1 11 (by omega)]; exact h1) (by rw [g3.1 12 (by omega)]; exact hc) (fun c c1 c2 => by rw [g3.1 24 (by omega)]; exact hv c c1 c2) (by decide) r1
  obtain ⟨σ5, e5, p5, g5⟩ := w_tests (σ := σ4) (d := 0) (by decide)
  refine ⟨σ5, ?_, agW9_tr g3 (agW9_tr g4 g5)⟩
  refine (e4 _).trans ?_
  have e5' : fX12_tests 0 σ4 = some σ5 := e5
  rw [e5', fxBV_s, fxG_t (by decide)]
  have q0 : σ5.1 15 0 = v := by
    have := congrFun (congrFun p5 0) 0
    rw [sR_at, p4] at this
    exact this.trans r2
  rw [q0]
