/-! ===== wholes, ask ===== -/
/-- how much is done behind so many weeks, of a ware begun now with such a half -/
def pgr (ef : EF) (date half : Nat) : Nat → Nat
  | 0 => 0
  | k + 1 => min (pgr ef date half k + ef (pgr ef date half k) half 0 (date + k)) half
def pAt (ef : EF) (date half k : Nat) : Bool := decide (pgr ef date half k = half)
def rch (ef : EF) (date half : Nat) : Nat := (fst1 (pAt ef date half) 31 0).getD 31
theorem pgr_le (ef : EF) (date half : Nat) : ∀ k, pgr ef date half k ≤ half
  | 0 => Nat.zero_le _
  | k + 1 => Nat.min_le_right _ _
theorem pAt_up {ef : EF} {date half k : Nat} (h : pAt ef date half k = true) : pAt ef date half (k + 1) = true := by
  have h := of_decide_eq_true h
  refine decide_eq_true ?_
  rw [pgr, h]; omega
theorem pAt_mono {ef : EF} {date half : Nat} : ∀ j k, pAt ef date half k = true → pAt ef date half (k + j) = true
  | 0, k, h => h
  | j + 1, k, h => pAt_up (pAt_mono j k h)
theorem fst1_some {P : Nat → Bool} : ∀ (m i k : Nat), fst1 P m i = some k → P k = true ∧ ∀ j, i ≤ j → j < k → ¬ P j = true
  | 0, i, k, h => by simp [fst1] at h
  | m + 1, i, k, h => by
    unfold fst1 at h
    by_cases c : P i = true
    · rw [if_pos c] at h
      obtain rfl : i = k := by simpa using h
      exact ⟨c, fun j h1 h2 => by omega⟩
    · rw [if_neg c] at h
      obtain ⟨q1, q2⟩ := fst1_some m (i + 1) k h
      exact ⟨q1, fun j h1 h2 => by
        by_cases e : j = i
        · subst e; exact c
        · exact q2 j (by omega) h2⟩
theorem fst1_none {P : Nat → Bool} : ∀ (m i : Nat), fst1 P m i = none → ∀ j, i ≤ j → j < i + m → ¬ P j = true
  | 0, i, h, j, h1, h2 => absurd h2 (by omega)
  | m + 1, i, h, j, h1, h2 => by
    unfold fst1 at h
    by_cases c : P i = true
    · rw [if_pos c] at h; simp at h
    · rw [if_neg c] at h
      by_cases e : j = i
      · subst e; exact c
      · exact fst1_none m (i + 1) h j (by omega) (by omega)
theorem rch_iff {ef : EF} {date half n : Nat} (hn : n ≤ 30) : rch ef date half ≤ n ↔ pgr ef date half n = half := by
  unfold rch
  cases e : fst1 (pAt ef date half) 31 0 with
  | none =>
    have := fst1_none _ _ e n (by omega) (by omega)
    constructor
    · intro h; exact absurd (show 31 ≤ n from h) (by omega)
    · intro h; exact absurd (decide_eq_true h) this
  | some k =>
    obtain ⟨h1, h2⟩ := fst1_some _ _ _ e
    show k ≤ n ↔ _
    constructor
    · intro h
      have := pAt_mono (n - k) k h1
      rw [show k + (n - k) = n by omega] at this
      exact of_decide_eq_true this
    · intro h
      exact Nat.le_of_not_lt (fun q => h2 n (by omega) q (decide_eq_true h))
theorem rch_le (ef : EF) (date half : Nat) : rch ef date half ≤ 31 := by
  unfold rch
  cases e : fst1 (pAt ef date half) 31 0 with
  | none => exact Nat.le_refl _
  | some k => have := fst1_ge _ _ _ e; show k ≤ 31; omega
theorem lt30 {i : Nat} (hi : i ≤ 1000) : (30 : Int32) < nI i ↔ 30 < i := by rw [show (30 : Int32) = nI 30 from rfl, nI_ltI (by decide) (by omega)]
section AK
variable {σ : FH} {T : Nat} {r : AR} {ef : EF} {d : AT}
theorem x_weeksTo_loop (h : RX σ T r) (he : EX σ T ef) (heb : EB ef) {half date : Nat} (hh : half ≤ 30) (hd : date < 60000) (K : FH → Option (Int32 × FH)) (hK : ∀ τ, K τ = some (31, τ)) :
    ∀ (m n i so : Nat) (σ1 : FH), i + m = 31 → m < n → so ≤ 200 → (so = pgr ef date half i ∨ (half ≤ so ∧ pgr ef date half i = half)) → agr (fun b => b = T + 10 ∨ b = 16) σ σ1 →
      ∃ σ', fX6_weeksTo_5 T (nI half) (nI date) K n (nI so) (nI i) σ1 = some (nI ((fst1 (pAt ef date half) m i).getD 31), σ') ∧ agr (fun b => b = T + 10) σ1 σ'
  | m, 0, i, so, σ1, _, h2, _, _, _ => absurd h2 (by omega)
  | 0, n + 1, i, so, σ1, h1, _, _, _, g1 => by
    refine ⟨σ1, ?_, agr_rf _ _⟩
    rw [fX6_weeksTo_5, if_pos ((lt30 (by omega)).mpr (by omega)), hK]
    rfl
  | m + 1, n + 1, i, so, σ1, h1, h2, hso2, hso, g1 => by
    have hT16 : T = 17 ∨ T = 28 ∨ (T ≠ 16 ∧ T + 8 ≠ 16 ∧ T + 9 ≠ 16) ∨ T + 8 = 16 ∨ T + 9 = 16 ∨ T = 16 := by omega
    have hle := pgr_le ef date half i
    have c30 : ¬ (30 : Int32) < nI i := fun q => by have := (lt30 (by omega)).mp q; omega
    by_cases c : so < half
    · have hso' : so = pgr ef date half i := by omega
      have hlen := fx_len h.1
      have hT : T = 17 ∨ T = 28 := by
        have : ∀ T, T < 151 → LX[T]? == some (5, 0) → T = 17 ∨ T = 28 := by decide +kernel
        exact this T hlen (by rw [h.1]; rfl)
      have hR := RX_agr h g1 (fun k hk => by omega)
      have hE := EX_agr he g1 (by omega) (by omega)
      obtain ⟨σ2, e2, g2⟩ := x_weekWork hR hE heb (k := 0) (so := so) (half := half) (votes := 0) (date := date + i) (by omega) (by omega) (by omega) (by omega) (by omega)
      have e2' : fX5_weekWork T 0 (nI so) (nI half) 0 (nI (date + i)) σ1 = some (nI (ef so half 0 (date + i)), σ2) := e2
      have hml := heb so half 0 (date + i)
      have hst : pgr ef date half (i + 1) = min (so + ef so half 0 (date + i)) half := by rw [pgr, ← hso']
      obtain ⟨σ', e', g'⟩ := x_weeksTo_loop h he heb hh hd K hK m n (i + 1) (so + ef so half 0 (date + i)) σ2 (by omega) (by omega) (by omega) (by omega) (agr_tr g1 (agr_mono (fun q hq => by omega) g2))
      refine ⟨σ', ?_, agr_tr g2 g'⟩
      have hn : ¬ pAt ef date half i = true := fun q => by have := of_decide_eq_true q; omega
      rw [fX6_weeksTo_5, if_neg c30, if_pos (nI_lt c (by omega)), nI_add, e2', fxBI_s, nI_add, fxL_r, nI_1, e', fst1, if_neg hn]
    · have hy : pAt ef date half i = true := decide_eq_true (by omega)
      refine ⟨σ1, ?_, agr_rf _ _⟩
      rw [fX6_weeksTo_5, if_neg c30, if_neg (by rw [nI_ltI (by omega) (by omega)]; omega), fst1, if_pos hy]
      rfl
theorem x_look_loop (hT : T = 17 ∨ T = 28) (h : RX σ T r) (he : EX σ T ef) (heb : EB ef) {date : Nat} (hd : date < 60000) (K : FH → Option FH) :
    ∀ (m n i : Nat) (σ1 : FH), i + m = 31 → m < n → agr (fun b => b = T + 10 ∨ b = 16) σ σ1 → (∀ k, 1 ≤ k → k < i → σ1.1 16 k = nI (rch ef date k)) → ∃ σ', fX6_lookAhead_2 13 T (nI date) K n (nI i) σ1 = K σ' ∧ agr (fun b => b = T + 10 ∨ b = 16) σ σ' ∧ (∀ k, 1 ≤ k → k < 31 → σ'.1 16 k = nI (rch ef date k))
  | m, 0, i, σ1, _, h2, _, _ => absurd h2 (by omega)
  | 0, n + 1, i, σ1, h1, _, g1, f1 => by
    obtain rfl : i = 31 := by omega
    exact ⟨σ1, by rw [fX6_lookAhead_2, if_pos (by decide)], g1, f1⟩
  | m + 1, n + 1, i, σ1, h1, h2, g1, f1 => by
    have c30 : ¬ (30 : Int32) < nI i := fun q => by have := (lt30 (by omega)).mp q; omega
    obtain ⟨σ2, e2, g2⟩ := x_weeksTo_loop h he heb (half := i) (by omega) hd (fun τ => some (31, τ)) (fun τ => rfl) 31 FU 0 0 σ1 (by omega) (by decide) (by omega) (Or.inl rfl) g1
    obtain ⟨σ', e', g', f'⟩ := x_look_loop hT h he heb hd K m n (i + 1) (fx_si σ2 16 i (nI (rch ef date i))) (by omega) (by omega) (agr_sit (by omega) (agr_tr g1 (agr_mono (fun q hq => by omega) g2))) (fun k k1 k2 => by
      rw [si1]
      by_cases q : k = i
      · subst q; rw [if_pos ⟨rfl, rfl⟩]
      · rw [if_neg (by omega), g2.1 16 (by omega)]; exact f1 k k1 (by omega))
    refine ⟨σ', ?_, g', f'⟩
    rw [fX6_lookAhead_2, if_neg c30]
    unfold fX6_weeksTo
    have e2' : fX6_weeksTo_5 T (nI i) (nI date) (fun τ => some (31, τ)) FU 0 0 σ1 = some (nI ((fst1 (pAt ef date i) 31 0).getD 31), σ2) := e2
    rw [fxG_t h.1, fxL_r, e2', fxBI_s, fxG_t (fx_inN (by omega) (by decide)), fx_clN (by omega), fxL_r, nI_1]
    exact e'
theorem x_lookAhead (hT : T = 17 ∨ T = 28) (h : RX σ T r) (he : EX σ T ef) (heb : EB ef) {date : Nat} (hd : date < 60000) : ∃ σ', fX6_lookAhead 13 T (nI date) σ = some σ' ∧ agr scX σ σ' ∧ (∀ k, 1 ≤ k → k < 31 → σ'.1 16 k = nI (rch ef date k)) := by
  obtain ⟨σ', e', g', f'⟩ := x_look_loop hT h he heb hd (fun σ2 => some σ2) 30 FU 1 σ (by omega) (by decide) (agr_rf _ _) (fun k h1 h2 => absurd h2 (by omega))
  refine ⟨σ', ?_, agr_mono (fun q hq => by unfold scX; omega) g', f'⟩
  unfold fX6_lookAhead
  rw [fxG_t (show LX[13]? = some (6, 0) from rfl), fxG_t h.1, fxL_r]
  exact e'
/-- as was said -/
def asd (d : AT) (ρ : Nat) (k : Nat) : Bool := decide ((if ρ ≤ d 1 k then 1 else 0) = d 2 k)
def alw (d : AT) (ρ : Nat) : Nat → Nat → Bool
  | 0, _ => true
  | m + 1, i => if asd d ρ i then alw d ρ m (i + 1) else false
theorem x_allows_loop (hD : DX σ 13 d) (hb : DB d) {half ρ : Nat} (h1 : 1 ≤ half) (h2 : half ≤ 30) (hρ : σ.1 16 half = nI ρ) (hρ2 : ρ ≤ 31) : ∀ (m n i : Nat), i + m = d 0 0 → m < n → fX6_allows_15 13 (nI half) σ (some 1) n (nI i) = some (bI (alw d ρ m i))
  | m, 0, i, _, q => absurd q (by omega)
  | 0, n + 1, i, q, _ => by
    have hd8 := hb.1
    rw [fX6_allows_15, hD.2.1, show i = d 0 0 by omega, if_pos (le_yes (by omega))]
    rfl
  | m + 1, n + 1, i, q, q2 => by
    have hd8 := hb.1
    have hk := hD.2.2 i (by omega)
    have hbk := hb.2 i (by omega)
    have k1 : σ.1 14 i = nI (d 1 i) := hk.1
    have k2 : σ.1 15 i = nI (d 2 i) := hk.2
    rw [fX6_allows_15, hD.2.1, if_neg (le_no (by omega) (by omega)), fxG_t (fx_inN (by omega) (by decide)), fxG_t (fx_inN (by omega) (by decide)), fx_clN (by omega), fx_clN (by omega), k1, hρ, fxL_r, fxG_t (fx_inN (by omega) (by decide)), k2, nI_1, x_allows_loop hD hb h1 h2 hρ hρ2 m n (i + 1) (by omega) (by omega), alw]
    unfold asd
    by_cases c : ρ ≤ d 1 i
    · rw [if_neg (show ¬ nI (d 1 i) < nI ρ by rw [nI_ltI (by omega) (by omega)]; omega), if_pos c]
      by_cases c2 : d 2 i = 1
      · rw [c2, if_pos (by decide), if_pos (by decide)]
      · have : d 2 i = 0 := by omega
        rw [this, if_neg (by decide), if_neg (by decide)]
        rfl
    · rw [if_pos (nI_lt (by omega) (by omega)), if_neg c]
      by_cases c2 : d 2 i = 1
      · rw [c2, if_neg (by decide), if_neg (by decide)]
        rfl
      · have : d 2 i = 0 := by omega
        rw [this, if_pos (by decide), if_pos (by decide)]
def alh (ef : EF) (date : Nat) (d : AT) (half : Nat) : Bool := alw d (rch ef date half) (d 0 0) 0
theorem x_allows (hD : DX σ 13 d) (hb : DB d) {half date : Nat} (h1 : 1 ≤ half) (h2 : half ≤ 30) (hρ : ∀ k, 1 ≤ k → k < 31 → σ.1 16 k = nI (rch ef date k)) : fX6_allows 13 (nI half) σ = some (bI (alh ef date d half)) := by
  have h30 : nI half ≤ 30 := nI_le (b := 30) h2 (by decide)
  have h01 : ¬ nI half < 1 := by rw [one_nI, nI_ltI (by omega) (by omega)]; omega
  unfold fX6_allows
  rw [fxG_t hD.1, if_neg h01, if_pos h30, fxL_r]
  exact x_allows_loop hD hb h1 h2 (hρ half h1 (by omega)) (rch_le _ _ _) (d 0 0) FU 0 (by omega) (by have := hb.1; unfold FU; omega)
/-- the reference's table -/
def TBL (σ : FH) (ef : EF) (date : Nat) : Prop := ∀ v, 2 ≤ v → v < 61 → ∀ n, n ≤ 30 → σ.1 39 (31 * v + n) = nI (if rch ef date (v / 2) ≤ n then 1 else 0)
theorem mul31 (v n : Nat) : (31 : Int32) * nI v + nI n = nI (31 * v + n) := by rw [show (31 : Int32) * nI v = nI (31 * v) from pk_mul 31 v, nI_add]
def ag39 (σ σ' : FH) : Prop := agr (fun b => b = 39 ∨ scrM b) σ σ'
theorem m_lay12 {a : AS} (he : EM σ ef) (heb : EB ef) (hs : SM σ 33 0 a) (h0 : a 0 < 60000) {v : Nat} (hv2 : 2 ≤ v) (hv : v < 61) (K : FH → Option FH) : ∀ (m k i : Nat) (σ1 : FH), i + m = 31 → m < k → ag39 σ σ1 → ∃ σ', fX12_laysHalves_12 (nI v) K k (nI (pgr ef (a 0) (v / 2) i)) (nI i) σ1 = K σ' ∧ ag39 σ σ' ∧ (∀ n, i ≤ n → n ≤ 30 → σ'.1 39 (31 * v + n) = nI (if rch ef (a 0) (v / 2) ≤ n then 1 else 0)) ∧ (∀ q, q < 31 * v + i ∨ 31 * v + 31 ≤ q → σ'.1 39 q = σ1.1 39 q)
  | m, 0, i, σ1, _, h2, _ => absurd h2 (by omega)
  | 0, k + 1, i, σ1, h1, _, g1 => by
    obtain rfl : i = 31 := by omega
    exact ⟨σ1, by rw [fX12_laysHalves_12, if_pos (by decide)], g1, fun n h1 h2 => absurd h1 (by omega), fun q _ => rfl⟩
  | m + 1, k + 1, i, σ1, h1, h2, g1 => by
    have c30 : ¬ (30 : Int32) < nI i := fun q => by have := (lt30 (by omega)).mp q; omega
    have hpl := pgr_le ef (a 0) (v / 2) i
    have hef := heb (pgr ef (a 0) (v / 2) i) (v / 2) 0 (a 0 + i)
    let b := if rch ef (a 0) (v / 2) ≤ i then 1 else 0
    have hb1 : b ≤ 1 := by show (if rch ef (a 0) (v / 2) ≤ i then 1 else 0) ≤ 1; split <;> omega
    have g20 : ag39 σ (fx_si σ1 39 (31 * v + i) (nI b)) := agr_sit (Or.inl rfl) g1
    obtain ⟨σ2, e2, g2⟩ := he (pgr ef (a 0) (v / 2) i) (v / 2) 0 (a 0 + i) (fx_si σ1 39 (31 * v + i) (nI b)) (by omega) (by omega) (by omega) (by omega) (by rw [g20.1 10 (by unfold scrM; omega)]) (by rw [g20.1 11 (by unfold scrM; omega)]) (fun k hk => by rw [g20.1 12 (by unfold scrM; omega)])
    have g2' : ag39 σ σ2 := agr_tr g20 (agr_mono (fun q hq => Or.inr hq) g2)
    obtain ⟨σ', e', g', f', o'⟩ := m_lay12 he heb hs h0 hv2 hv K m k (i + 1) σ2 (by omega) (by omega) g2'
    have e39 : σ2.1 39 = (fx_si σ1 39 (31 * v + i) (nI b)).1 39 := g2.1 39 (by unfold scrM; omega)
    refine ⟨σ', ?_, g', fun n n1 n2 => ?_, fun q hq => ?_⟩
    · have e2' : fX12_effort (nI (pgr ef (a 0) (v / 2) i)) (nI (v / 2)) 0 (nI (a 0 + i)) (fx_si σ1 39 (31 * v + i) (nI b)) = some (nI (ef (pgr ef (a 0) (v / 2) i) (v / 2) 0 (a 0 + i)), σ2) := e2
      have eb : (if nI (pgr ef (a 0) (v / 2) i) = nI (v / 2) then (1 : Int32) else 0) = nI b := by
        show _ = nI (if rch ef (a 0) (v / 2) ≤ i then 1 else 0)
        by_cases c : pgr ef (a 0) (v / 2) i = v / 2
        · rw [if_pos (by rw [c]), if_pos ((rch_iff (by omega)).mpr c)]; rfl
        · rw [if_neg (fun q => c (nI_inj (by omega) (by omega) q)), if_neg (fun q => c ((rch_iff (by omega)).mp q))]; rfl
      have es : σ1.1 33 0 = nI (a 0) := by rw [g1.1 33 (by unfold scrM; omega)]; exact sm_k hs (by omega)
      rw [fX12_laysHalves_12, if_neg c30, div2N (by omega), eb, fxL_r, mul31, fxG_t (fx_inN (by omega) (by decide)), fx_clN (by omega), narB b hb1, fxL_r, fxG_t (by decide), cl0, fx_si_o (by decide), es, nI_add, e2', fxBI_s, nI_add, fxL_r, nI_1]
      rw [show (if nI (pgr ef (a 0) (v / 2) i + ef (pgr ef (a 0) (v / 2) i) (v / 2) 0 (a 0 + i)) < nI (v / 2) then nI (pgr ef (a 0) (v / 2) i + ef (pgr ef (a 0) (v / 2) i) (v / 2) 0 (a 0 + i)) else nI (v / 2)) = nI (pgr ef (a 0) (v / 2) (i + 1)) from by
        rw [minN (by omega) (by omega), Nat.min_comm]; rfl]
      exact e'
    · by_cases c : n = i
      · subst c
        rw [o' _ (by omega), e39, si1, if_pos ⟨rfl, rfl⟩]
      · exact f' n (by omega) n2
    · rw [o' q (by omega), e39, si1, if_neg (by omega)]
theorem m_lay2 {a : AS} (he : EM σ ef) (heb : EB ef) (hs : SM σ 33 0 a) (h0 : a 0 < 60000) (K : FH → Option FH) : ∀ (m k i : Nat) (σ1 : FH), i + m = 61 → 2 ≤ i → m < k → ag39 σ σ1 → (∀ v, 2 ≤ v → v < i → ∀ n, n ≤ 30 → σ1.1 39 (31 * v + n) = nI (if rch ef (a 0) (v / 2) ≤ n then 1 else 0)) → ∃ σ', fX12_laysHalves_2 K k (nI i) σ1 = K σ' ∧ ag39 σ σ' ∧ TBL σ' ef (a 0)
  | m, 0, i, σ1, _, _, h2, _, _ => absurd h2 (by omega)
  | 0, k + 1, i, σ1, h1, _, _, g1, f1 => by
    obtain rfl : i = 61 := by omega
    exact ⟨σ1, by rw [fX12_laysHalves_2, if_pos (by decide)], g1, f1⟩
  | m + 1, k + 1, i, σ1, h1, hi2, h2, g1, f1 => by
    have c61 : ¬ (61 : Int32) ≤ nI i := le_no (b := 61) (by omega) (by decide)
    obtain ⟨σ2, e2, g2, f2, o2⟩ := m_lay12 he heb hs h0 hi2 (by omega : i < 61) (fun σ9 => fX12_laysHalves_2 K k (nI (i + 1)) σ9) 31 FU 0 σ1 (by omega) (by decide) g1
    obtain ⟨σ', e', g', f'⟩ := m_lay2 he heb hs h0 K m k (i + 1) σ2 (by omega) (by omega) (by omega) g2 (fun v v1 v2 n hn => by
      by_cases c : v = i
      · subst c; exact f2 n (by omega) hn
      · rw [o2 _ (by omega)]; exact f1 v v1 (by omega) n hn)
    refine ⟨σ', ?_, g', f'⟩
    rw [fX12_laysHalves_2, if_neg c61, fxL_r, nI_1]
    exact e2.trans e'
theorem m_laysHalves {a : AS} (he : EM σ ef) (heb : EB ef) (hs : SM σ 33 0 a) (h0 : a 0 < 60000) : ∃ σ', fX12_laysHalves σ = some σ' ∧ ag39 σ σ' ∧ TBL σ' ef (a 0) := by
  obtain ⟨σ', e', g', f'⟩ := m_lay2 he heb hs h0 (fun σ2 => some σ2) 59 FU 2 σ (by omega) (by omega) (by decide) (agr_rf _ _) (fun v v1 v2 => absurd v2 (by omega))
  refine ⟨σ', ?_, g', f'⟩
  unfold fX12_laysHalves
  rw [fxL_r]
  exact e'
theorem m_said_in (hD : DM σ 0 d) (hb : DB d) {date v : Nat} (hv2 : 2 ≤ v) (hv : v < 61) (ht : TBL σ ef date) : ∀ (m n i : Nat), i + m = d 0 0 → m < n → fX12_isAsSaid_2 (nI v) σ (some 1) n (nI i) = some (bI (alw d (rch ef date (v / 2)) m i))
  | m, 0, i, _, q => absurd q (by omega)
  | 0, n + 1, i, q, _ => by
    have hd8 := hb.1
    rw [fX12_isAsSaid_2, fxG_t (by decide), cl0, hD.1, show i = d 0 0 by omega, if_pos (le_yes (by omega))]
    rfl
  | m + 1, n + 1, i, q, q2 => by
    have hd8 := hb.1
    have hk := hD.2 i (by omega)
    have hbk := hb.2 i (by omega)
    rw [Nat.mul_zero, Nat.zero_add] at hk
    rw [fX12_isAsSaid_2, fxG_t (by decide), cl0, hD.1, if_neg (le_no (by omega) (by omega)), fxG_t (fx_inN (by omega) (by decide)), fx_clN (by omega), hk.1, hk.2, mul31, fxG_t (fx_inN (by omega) (by decide)), fxG_t (fx_inN (by omega) (by decide)), fx_clN (by omega), ht v hv2 hv _ hbk.1, nI_1, m_said_in hD hb hv2 hv ht m n (i + 1) (by omega) (by omega), alw]
    unfold asd
    have hl : (if rch ef date (v / 2) ≤ d 1 i then 1 else 0) < 2 := by split <;> omega
    by_cases c : (if rch ef date (v / 2) ≤ d 1 i then 1 else 0) = d 2 i
    · rw [if_pos (by rw [c]), decide_eq_true c, if_pos rfl]
    · rw [if_neg (fun q => c (nI_inj (by omega) (by omega) q)), decide_eq_false c, if_neg (by decide)]
      rfl
theorem m_isAsSaid (hD : DM σ 0 d) (hb : DB d) {date v : Nat} (hv2 : 2 ≤ v) (hv : v < 61) (ht : TBL σ ef date) : fX12_isAsSaid (nI v) σ = some (bI (alh ef date d (v / 2))) := by
  unfold fX12_isAsSaid
  rw [fxL_r]
  exact m_said_in hD hb hv2 hv ht (d 0 0) FU 0 (by omega) (by have := hb.1; unfold FU; omega)
/-- how many, the least, the greatest -/
def whF (A : Nat → Bool) (v : Nat) (b : Nat × Option Nat × Option Nat) : Nat × Option Nat × Option Nat := if A (v / 2) then (b.1 + 1, (match b.2.1 with | none => some v | some x => some x), some v) else b
def whI (i : Nat) (b : Nat × Option Nat × Option Nat) : Prop := ∀ x, b.2.1 = some x → x < i
theorem whI_s {A : Nat → Bool} {i : Nat} {b : Nat × Option Nat × Option Nat} (h : whI i b) : whI (i + 1) (whF A i b) := by
  intro x hx
  unfold whF at hx
  split at hx
  · cases e : b.2.1 with
    | none => rw [e] at hx; simp at hx; omega
    | some y => rw [e] at hx; simp at hx; have := h y e; omega
  · have := h x hx; omega
theorem x_wholes_loop (hD : DX σ 13 d) (hb : DB d) {date : Nat} (hρ : ∀ k, 1 ≤ k → k < 31 → σ.1 16 k = nI (rch ef date k)) (K : Int32 → Int32 → Int32 → Option (Int32 × FH)) : fX11_wholes_39 σ K FU 0 (-1) (-1) 2 = (fun b : Nat × Option Nat × Option Nat => K (nI b.1) (oI b.2.1) (oI b.2.2)) (itr (whF (alh ef date d)) 2 59 (0, none, none)) := by
  exact loopP (F := fun n (b : Nat × Option Nat × Option Nat) i => fX11_wholes_39 σ K n (nI b.1) (oI b.2.1) (oI b.2.2) (nI i)) (K := fun b => K (nI b.1) (oI b.2.1) (oI b.2.2)) (f := whF (alh ef date d)) (N := 61) (Inv := fun i b => 2 ≤ i ∧ whI i b) (fun n b _ => by rw [fX11_wholes_39, if_pos (by decide)]) (fun n b i hi hv => by
    refine ⟨?_, by omega, whI_s hv.2⟩
    have c60 : ¬ (60 : Int32) < nI i := fun q => by have := (lt60 (by omega)).mp q; omega
    rw [fX11_wholes_39, if_neg c60, div2N (by omega), x_allows (ef := ef) (date := date) hD hb (by omega) (by omega) hρ, fxBP_s, nI_1, nI_1, fxL_r]
    unfold whF
    cases c : alh ef date d (i / 2) with
    | false => rw [if_pos (by decide), if_neg (by decide)]
    | true =>
      rw [if_neg (by decide), if_pos rfl]
      cases e : b.2.1 with
      | none => rw [if_pos (show oI none = -1 from rfl)]; rfl
      | some x =>
        have := hv.2 x e
        rw [if_neg (show ¬ oI (some x) = -1 from nIne (by omega))]; rfl) 59 FU 2 (0, none, none) (by omega) (by decide) ⟨by omega, fun x hx => by simp at hx⟩
theorem m_wholes_loop (hD : DM σ 0 d) (hb : DB d) {date : Nat} (ht : TBL σ ef date) (K : Int32 → Int32 → Int32 → Option (Int32 × FH)) : fX12_wholes_30 σ K FU 0 (-1) (-1) 2 = (fun b : Nat × Option Nat × Option Nat => K (nI b.1) (oI b.2.1) (oI b.2.2)) (itr (whF (alh ef date d)) 2 59 (0, none, none)) := by
  exact loopP (F := fun n (b : Nat × Option Nat × Option Nat) i => fX12_wholes_30 σ K n (nI b.1) (oI b.2.1) (oI b.2.2) (nI i)) (K := fun b => K (nI b.1) (oI b.2.1) (oI b.2.2)) (f := whF (alh ef date d)) (N := 61) (Inv := fun i b => 2 ≤ i ∧ whI i b) (fun n b _ => by rw [fX12_wholes_30, if_pos (by decide)]) (fun n b i hi hv => by
    refine ⟨?_, by omega, whI_s hv.2⟩
    have c61 : ¬ (61 : Int32) ≤ nI i := le_no (b := 61) (by omega) (by decide)
    rw [fX12_wholes_30, if_neg c61, m_isAsSaid hD hb hv.1 hi ht, fxBP_s, nI_1, nI_1, fxL_r]
    unfold whF
    cases c : alh ef date d (i / 2) with
    | false => rw [if_pos (by decide), if_neg (by decide)]
    | true =>
      rw [if_neg (by decide), if_pos rfl]
      cases e : b.2.1 with
      | none => rw [if_neg (show ¬ (0 : Int32) ≤ oI none by decide)]; rfl
      | some x =>
        have := hv.2 x e
        rw [if_pos (show (0 : Int32) ≤ oI (some x) from nI_pos' (by omega))]; rfl) 59 FU 2 (0, none, none) (by omega) (by decide) ⟨by omega, fun x hx => by simp at hx⟩
end AK
theorem agQ_39 {σ σ' : FH} (g : ag39 σ σ') : agQ σ σ' := ⟨fun b h1 h2 => g.1 b (fun q => h2 (q.elim (fun e => by unfold scQ; omega) (fun e => Or.inl e))), fun k _ _ => by rw [g.1 0 (by unfold scrM; omega)], fun b j _ => by rw [g.2], by rw [g.2]⟩
theorem op_wholes (x : Int32) : OpI (fX11_wholes x) (fX12_wholes x) := by
  intro n σx σm hn h
  have h1 := Rel_th h
  unfold fX11_wholes fX12_wholes
  rw [fxL_r (fx_si σm 0 0 0)]
  generalize fx_si σm 0 0 0 = σ1 at h1 ⊢
  obtain ⟨r, ef, a, t, d, hA⟩ := id h1
  obtain ⟨hMV, hRB, hEB, hRX, hEX, hRM, hEM, hNX, hSX, hSM, hSB, hTX, hTM, hTB, hDX, hDM, hDB, hPX, hUX, hKX⟩ := id hA
  have hT : σx.2.2 2 = 17 ∨ σx.2.2 2 = 28 := by rcases hMV.1 with z | z <;> omega
  rcases three x with hx | hx
  · refine ⟨-1, σx, σ1, ?_, by rw [wi_f hx, fxBP_s, if_pos rfl], Rel_up h1 (by omega)⟩
    rcases hx with hx | hx
    · rw [if_pos hx]
    · by_cases c : x < 0
      · rw [if_pos c]
      · rw [if_neg c, if_neg (Int32.not_le.mpr hx)]
  · have hx0 : ¬ x < 0 := by rcases hx with rfl | rfl | rfl <;> decide
    have hx2 : x ≤ 2 := by rcases hx with rfl | rfl | rfl <;> decide
    have h0 := hSB.1
    obtain ⟨σx2, e2, g2, f2⟩ := x_lookAhead hT hRX hEX hEB (date := a 0) (by omega)
    obtain ⟨σ3, e3, g3, t3⟩ := m_laysHalves hEM hEB hSM (by omega)
    have hDM3 : DM σ3 0 d := DM_fr hDM hDB (by rw [g3.1 30 (by unfold scrM; omega)]) (fun b b1 b2 k hk => by rw [g3.1 b (by unfold scrM; omega)])
    rw [if_neg hx0, if_pos hx2, fxG_t hRX.1, hSX.2.1, e2, fxBV_s, fxL_r, x_wholes_loop (DX_sc hDX g2 (Or.inl rfl)) hDB f2, wi_t hx0 (Int32.not_lt.mpr hx2), fxBP_s, if_neg (by decide : ¬ (1 : Int32) = 0), e3, fxBV_s, fxL_r, m_wholes_loop hDM3 hDB t3]
    exact ⟨_, σx2, σ3, rfl, rfl, Rel_up (Rel_sc h1 g2 (agQ_39 g3)) (by omega)⟩

section AQ
variable {σ : FH} {ef : EF} {d : AT}
/-- the wholes allowed that are half done by a week -/
def abP (ef : EF) (date : Nat) (d : AT) (w v : Nat) : Nat := if rch ef date (v / 2) ≤ w ∧ alh ef date d (v / 2) = true then 1 else 0
def abC (ef : EF) (date : Nat) (d : AT) (w : Nat) : Nat := sF (abP ef date d w) 2 59
theorem abC_le (ef : EF) (date : Nat) (d : AT) (w : Nat) : abC ef date d w ≤ 59 := by
  have := sF_le (f := abP ef date d w) (b := 1) 59 2 (fun k _ _ => by unfold abP; split <;> omega)
  exact this
theorem abC_31 (ef : EF) (date : Nat) (d : AT) {w : Nat} (hw : w ≤ 31) : abC ef date d w ≤ abC ef date d 31 := by
  unfold abC
  have : ∀ m i, sF (abP ef date d w) i m ≤ sF (abP ef date d 31) i m := by
    intro m
    induction m with
    | zero => intro i; exact Nat.le_refl _
    | succ m ih =>
      intro i
      have := ih (i + 1)
      simp only [sF]
      have : abP ef date d w i ≤ abP ef date d 31 i := by
        unfold abP
        by_cases c : rch ef date (i / 2) ≤ w ∧ alh ef date d (i / 2) = true
        · rw [if_pos c, if_pos ⟨by omega, c.2⟩]; omega
        · rw [if_neg c]; omega
      omega
  exact this 59 2
theorem x_allowedBy (hD : DX σ 13 d) (hb : DB d) {date w : Nat} (hw : w ≤ 31) (hρ : ∀ k, 1 ≤ k → k < 31 → σ.1 16 k = nI (rch ef date k)) : fX6_allowedBy 13 (nI w) σ = some (nI (abC ef date d w)) := by
  unfold fX6_allowedBy
  rw [fxG_t hD.1, fxL_r]
  have := loopP (F := fun n b i => fX6_allowedBy_4 13 (nI w) σ (fun x => some x) n (nI b) (nI i)) (K := fun b => some (nI b)) (f := fun v b => b + abP ef date d w v) (N := 61) (Inv := fun i _ => 2 ≤ i) (fun n b _ => by rw [fX6_allowedBy_4, if_pos (by decide)]) (fun n b i hi hv => by
    refine ⟨?_, by omega⟩
    have c60 : ¬ (60 : Int32) < nI i := fun q => by have := (lt60 (by omega)).mp q; omega
    have hr := rch_le ef date (i / 2)
    have h16 : σ.1 16 (i / 2) = nI (rch ef date (i / 2)) := hρ (i / 2) (by omega) (by omega)
    rw [fX6_allowedBy_4, if_neg c60, div2N (by omega), fxG_t (fx_inN (by omega) (by decide)), fx_clN (by omega), h16, x_allows (ef := ef) (date := date) hD hb (by omega) (by omega) hρ, fxBP_s, nI_1, nI_1]
    unfold abP
    by_cases c : rch ef date (i / 2) ≤ w
    · rw [if_neg (show ¬ nI w < nI (rch ef date (i / 2)) by rw [nI_ltI (by omega) (by omega)]; omega)]
      cases c2 : alh ef date d (i / 2) with
      | true => rw [if_neg (by decide), if_pos ⟨c, rfl⟩]
      | false => rw [if_pos (by decide), if_neg (fun q => absurd q.2 (by decide))]; rfl
    · rw [if_pos (nI_lt (by omega) (by omega)), if_neg (fun q => c q.1)]; rfl) 59 FU 2 0 (by omega) (by decide) (by omega)
  rw [itr_sum, Nat.zero_add] at this
  exact this
theorem m_ask31 (hD : DM σ 0 d) (hb : DB d) {date w : Nat} (hw : w ≤ 30) (ht : TBL σ ef date) (K : Int32 → Option (Int32 × FH)) : fX12_ask_31 σ (nI w) K FU 0 2 = K (nI (abC ef date d w)) := by
  have := loopP (F := fun n b i => fX12_ask_31 σ (nI w) K n (nI b) (nI i)) (K := fun b => K (nI b)) (f := fun v b => b + abP ef date d w v) (N := 61) (Inv := fun i _ => 2 ≤ i) (fun n b _ => by rw [fX12_ask_31, if_pos (by decide)]) (fun n b i hi hv => by
    refine ⟨?_, by omega⟩
    have c61 : ¬ (61 : Int32) ≤ nI i := le_no (b := 61) (by omega) (by decide)
    rw [fX12_ask_31, if_neg c61, m_isAsSaid hD hb hv hi ht, fxBP_s, mul31, fxG_t (fx_inN (by omega) (by decide)), fx_clN (by omega), ht i hv hi w hw, nI_1, nI_1, Int32.add_zero, fxL_r, fxL_r]
    unfold abP
    cases c2 : alh ef date d (i / 2) with
    | false => rw [if_pos (by decide), if_neg (fun q => absurd q.2 (by decide))]; rfl
    | true =>
      rw [if_neg (show ¬ bI true = 0 by decide)]
      by_cases c : rch ef date (i / 2) ≤ w
      · rw [if_pos c, if_neg (by decide), if_pos ⟨c, rfl⟩]
      · rw [if_neg c, if_pos (by decide), if_neg (fun q => c q.1)]; rfl) 59 FU 2 0 (by omega) (by decide) (by omega)
  rw [itr_sum, Nat.zero_add] at this
  exact this
def bqF (C : Nat → Nat) (all w : Nat) (b : Option Nat × Nat) : Option Nat × Nat := if max (C w) (all - C w) < b.2 then (some w, max (C w) (all - C w)) else b
theorem maxSub {c all : Nat} (hc : c ≤ all) (ha : all ≤ 100) : (if nI c < nI all - nI c then nI all - nI c else nI c) = nI (max c (all - c)) := by
  rw [pk_sub hc, maxN (by omega) (by omega)]
theorem bq_step {C : Nat → Nat} {all w : Nat} {b : Option Nat × Nat} (hb : b.2 ≤ all) : (bqF C all w b).2 ≤ all := by
  unfold bqF
  split
  · show max (C w) (all - C w) ≤ all; omega
  · exact hb
theorem x_bestQ (hD : DX σ 13 d) (hb : DB d) {date : Nat} (hρ : ∀ k, 1 ≤ k → k < 31 → σ.1 16 k = nI (rch ef date k)) : fX6_bestQuestion 13 σ = some (oI (itr (bqF (abC ef date d) (abC ef date d 31)) 0 31 (none, abC ef date d 31)).1) := by
  have h59 := abC_le ef date d 31
  unfold fX6_bestQuestion
  have e31 : fX6_allowedBy 13 31 σ = some (nI (abC ef date d 31)) := x_allowedBy hD hb (w := 31) (by omega) hρ
  rw [fxG_t hD.1, e31, fxBP_s, fxL_r]
  exact loopP (F := fun n (b : Option Nat × Nat) i => fX6_bestQuestion_14 13 σ (nI (abC ef date d 31)) (fun x => some x) n (oI b.1) (nI b.2) (nI i)) (K := fun b => some (oI b.1)) (f := bqF (abC ef date d) (abC ef date d 31)) (N := 31) (Inv := fun _ b => b.2 ≤ abC ef date d 31) (fun n b _ => by rw [fX6_bestQuestion_14, if_pos (by decide)]) (fun n b i hi hv => by
    refine ⟨?_, bq_step hv⟩
    have c30 : ¬ (30 : Int32) < nI i := fun q => by have := (lt30 (by omega)).mp q; omega
    have hc := abC_31 ef date d (w := i) (by omega)
    rw [fX6_bestQuestion_14, if_neg c30, x_allowedBy hD hb (by omega) hρ, fxBP_s, maxSub hc (by omega), fxL_r, nI_1]
    unfold bqF
    by_cases c : max (abC ef date d i) (abC ef date d 31 - abC ef date d i) < b.2
    · rw [if_neg (le_no c (by omega)), if_pos c]; rfl
    · rw [if_pos (nI_le (by omega) (by omega)), if_neg c]) 31 FU 0 (none, abC ef date d 31) (by omega) (by decide) (Nat.le_refl _)
theorem m_ask18 (hD : DM σ 0 d) (hb : DB d) {date : Nat} (ht : TBL σ ef date) (K : Int32 → Option (Int32 × FH)) : fX12_ask_18 (nI (abC ef date d 31)) σ K FU (nI (abC ef date d 31)) (-1) 0 = K (oI (itr (bqF (abC ef date d) (abC ef date d 31)) 0 31 (none, abC ef date d 31)).1) := by
  have h59 := abC_le ef date d 31
  exact loopP (F := fun n (b : Option Nat × Nat) i => fX12_ask_18 (nI (abC ef date d 31)) σ K n (nI b.2) (oI b.1) (nI i)) (K := fun b => K (oI b.1)) (f := bqF (abC ef date d) (abC ef date d 31)) (N := 31) (Inv := fun _ b => b.2 ≤ abC ef date d 31) (fun n b _ => by rw [fX12_ask_18, if_pos (by decide)]) (fun n b i hi hv => by
    refine ⟨?_, bq_step hv⟩
    have c30 : ¬ (30 : Int32) < nI i := fun q => by have := (lt30 (by omega)).mp q; omega
    have hc := abC_31 ef date d (w := i) (by omega)
    rw [fX12_ask_18, if_neg c30, fxL_r, m_ask31 hD hb (by omega) ht, maxSub hc (by omega), fxL_r, nI_1]
    unfold bqF
    by_cases c : max (abC ef date d i) (abC ef date d 31 - abC ef date d i) < b.2
    · rw [if_pos (nI_lt c (by omega)), if_pos c]; rfl
    · rw [if_neg (show ¬ nI (max (abC ef date d i) (abC ef date d 31 - abC ef date d i)) < nI b.2 by rw [nI_ltI (by omega) (by omega)]; omega), if_neg c]) 31 FU 0 (none, abC ef date d 31) (by omega) (by decide) (Nat.le_refl _)
theorem wh_cnt (A : Nat → Bool) : ∀ (m i : Nat) (b : Nat × Option Nat × Option Nat), (itr (whF A) i m b).1 = b.1 + sF (fun v => if A (v / 2) then 1 else 0) i m
  | 0, i, b => rfl
  | m + 1, i, b => by
    rw [itr, wh_cnt A m (i + 1), sF]
    unfold whF
    split
    · simp; omega
    · simp
theorem abC_all (ef : EF) (date : Nat) (d : AT) : abC ef date d 31 = sF (fun v => if alh ef date d (v / 2) then 1 else 0) 2 59 := sF_congr _ _ (fun v _ _ => by
  have := rch_le ef date (v / 2)
  unfold abP
  by_cases c : alh ef date d (v / 2) = true
  · rw [if_pos ⟨this, c⟩, if_pos c]
  · rw [if_neg (fun q => c q.2), if_neg c])
end AQ
theorem op_ask : OpI fX11_ask fX12_ask := by
  intro n σx σm hn h
  have h1 := Rel_th (Rel_th h)
  unfold fX11_ask fX12_ask fX12_wholes
  rw [fxL_r (fx_si σm 0 0 0), fxL_r (fx_si (fx_si σm 0 0 0) 0 0 0)]
  generalize fx_si (fx_si σm 0 0 0) 0 0 0 = σ1 at h1 ⊢
  obtain ⟨r, ef, a, t, d, hA⟩ := id h1
  obtain ⟨hMV, hRB, hEB, hRX, hEX, hRM, hEM, hNX, hSX, hSM, hSB, hTX, hTM, hTB, hDX, hDM, hDB, hPX, hUX, hKX⟩ := id hA
  have hT : σx.2.2 2 = 17 ∨ σx.2.2 2 = 28 := by rcases hMV.1 with z | z <;> omega
  have h0 := hSB.1
  obtain ⟨σx2, e2, g2, f2⟩ := x_lookAhead hT hRX hEX hEB (date := a 0) (by omega)
  obtain ⟨σ3, e3, g3, t3⟩ := m_laysHalves hEM hEB hSM (by omega)
  have hDM3 : DM σ3 0 d := DM_fr hDM hDB (by rw [g3.1 30 (by unfold scrM; omega)]) (fun b b1 b2 k hk => by rw [g3.1 b (by unfold scrM; omega)])
  refine ⟨oI (itr (bqF (abC ef (a 0) d) (abC ef (a 0) d 31)) 0 31 (none, abC ef (a 0) d 31)).1, σx2, σ3, ?_, ?_, Rel_up (Rel_sc h1 g2 (agQ_39 g3)) (by omega)⟩
  · rw [fxG_t hRX.1, hSX.2.1, e2, fxBV_s, x_bestQ (DX_sc hDX g2 (Or.inl rfl)) hDB f2, fxBP_s]
  · have hc := wh_cnt (alh ef (a 0) d) 59 2 (0, none, none)
    rw [Nat.zero_add, ← abC_all] at hc
    rw [wi_t (by decide) (by decide), fxBP_s, if_neg (by decide : ¬ (1 : Int32) = 0), e3, fxBV_s, fxL_r, m_wholes_loop hDM3 hDB t3]
    dsimp only
    rw [if_pos rfl, fxL_r, fxBI_s, hc, fxL_r]
    exact m_ask18 hDM3 hDB t3 _
