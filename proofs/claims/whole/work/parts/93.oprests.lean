/-! ===== rests: both sides agree, where they throw too ===== -/
def zG (a b c v w : Int32) : Int32 := if v = 1 then (if w = 1 then -a else b) else (if w = 1 then c else 0)
def zq (a b c i : Int32) : Int32 := if zG a b c (i / 2) (i - i / 2 * 2) < zG a b c (1 - i / 2) (i - i / 2 * 2) then 0 else if zG a b c (i - i / 2 * 2) (i / 2) < zG a b c (1 - (i - i / 2 * 2)) (i / 2) then 0 else 1
theorem zG_x {a b c v w : Int32} {σ : FH} : fX11_gain v w a b c σ = some (zG a b c v w) := by
  unfold fX11_gain zG
  by_cases h : v = 1
  · rw [if_pos h, if_pos h, fxL_r]
  · rw [if_neg h, if_neg h, fxL_r]
theorem zG_m {a b c v w : Int32} {σ : FH} : fX12_getsBy a b c v w σ = some (zG a b c v w) := by
  unfold fX12_getsBy zG
  rw [fxL_r]
theorem zBP_s {α β : Type} {x : α} {k : α → Option β} : fxBP (some x) k = k x := rfl
theorem zq_x {a b c i : Int32} {σ : FH} : fX11_isAtRest i a b c σ = some (zq a b c i) := by
  unfold fX11_isAtRest zq
  rw [fxL_r, fxL_r, zG_x, zBP_s, zG_x, zBP_s]
  by_cases h : zG a b c (i / 2) (i - i / 2 * 2) < zG a b c (1 - i / 2) (i - i / 2 * 2)
  · rw [if_pos h, if_pos h]
  · rw [if_neg h, if_neg h, zG_x, zBP_s, zG_x, zBP_s]
    by_cases h2 : zG a b c (i - i / 2 * 2) (i / 2) < zG a b c (1 - (i - i / 2 * 2)) (i / 2)
    · rw [if_pos h2, if_pos h2]
    · rw [if_neg h2, if_neg h2]
theorem zq_m {a b c a4 : Int32} {σ : FH} {K : Int32 → Option (Int32 × FH)} {n : Nat} {w i : Int32} : fX12_rests_61 a b c a4 σ K (n + 1) w i = if 4 ≤ i then K w else if zq a b c i = 0 then fX12_rests_61 a b c a4 σ K n w (i + 1) else if w = a4 then some (i, σ) else fX12_rests_61 a b c a4 σ K n (w + 1) (i + 1) := by
  show (if 4 ≤ i then K w else _) = _
  by_cases h4 : 4 ≤ i
  · rw [if_pos h4, if_pos h4]
  · rw [if_neg h4, if_neg h4, fxL_r, fxL_r, zG_m, zBP_s, zG_m, zBP_s]
    unfold zq
    by_cases h : zG a b c (i / 2) (i - i / 2 * 2) < zG a b c (1 - i / 2) (i - i / 2 * 2)
    · rw [if_pos h, if_pos h, if_pos rfl]
    · rw [if_neg h, if_neg h, zG_m, zBP_s, zG_m, zBP_s]
      by_cases h2 : zG a b c (i - i / 2 * 2) (i / 2) < zG a b c (1 - (i - i / 2 * 2)) (i / 2)
      · rw [if_pos h2, if_pos rfl, if_neg (Int32.not_le.mpr h2)]
      · rw [if_neg h2, if_pos (Int32.not_lt.mp h2), if_neg (by decide : ¬ (1 : Int32) = 0)]
theorem zq_k {a b c a4 : Int32} {σ : FH} {K : Int32 → Option (Int32 × FH)} (hσ : σ.1 0 0 = 0) (hK : ∀ w, K w = some (if a4 = -1 then w else 0, fx_si σ 0 0 (if a4 = -1 then 0 else 1))) : ∀ (k : Nat), k ≤ 4 → ∀ (n : Nat) (w : Int32), ∃ (r : Int32) (σ' : FH), fX12_rests_61 a b c a4 σ K (n + k + 1) w (Int32.ofNat (4 - k)) = some (r, σ') ∧ (σ' = σ ∨ ∃ y, σ' = fx_si σ 0 0 y) ∧ σ'.1 0 0 = (if zr4 (fun j => zq a b c (Int32.ofNat j)) a4 k w = none then 1 else 0) ∧ ∀ v, zr4 (fun j => zq a b c (Int32.ofNat j)) a4 k w = some v → v = r := by
  intro k
  induction k with
  | zero =>
    intro _ n w
    refine ⟨if a4 = -1 then w else 0, fx_si σ 0 0 (if a4 = -1 then 0 else 1), ?_, Or.inr ⟨_, rfl⟩, ?_, fun v hv => ?_⟩
    · rw [zq_m, if_pos (by decide), hK]
    · rw [si1s]
      unfold zr4
      by_cases h : a4 = -1
      · rw [if_pos h, if_pos h, if_neg (fun h => by cases h)]
      · rw [if_neg h, if_neg h, if_pos rfl]
    · unfold zr4 at hv
      by_cases h : a4 = -1
      · rw [if_pos h] at hv ⊢
        cases hv; rfl
      · rw [if_neg h] at hv
        cases hv
  | succ k ih =>
    intro hk n w
    have e1 : Int32.ofNat (4 - (k + 1)) + 1 = Int32.ofNat (4 - k) := by
      have : k = 0 ∨ k = 1 ∨ k = 2 ∨ k = 3 := by omega
      rcases this with rfl | rfl | rfl | rfl <;> decide
    have e2 : ¬ (4 : Int32) ≤ Int32.ofNat (4 - (k + 1)) := by
      have : k = 0 ∨ k = 1 ∨ k = 2 ∨ k = 3 := by omega
      rcases this with rfl | rfl | rfl | rfl <;> decide
    have e3 : Int32.ofNat (4 - (k + 1)) = Int32.ofNat (3 - k) := by
      rw [show 4 - (k + 1) = 3 - k by omega]
    rw [zq_m, if_neg e2, e1, e3]
    unfold zr4
    show ∃ (r : Int32) (σ' : FH), _ ∧ _ ∧ σ'.1 0 0 = (if (if zq a b c (Int32.ofNat (3 - k)) = 0 then _ else _) = none then 1 else 0) ∧ ∀ v, (if zq a b c (Int32.ofNat (3 - k)) = 0 then _ else _) = some v → v = r
    by_cases h : zq a b c (Int32.ofNat (3 - k)) = 0
    · rw [if_pos h, if_pos h]
      exact ih (by omega) n w
    · rw [if_neg h, if_neg h]
      by_cases hw : w = a4
      · rw [if_pos hw, if_pos hw]
        refine ⟨_, _, rfl, Or.inl rfl, ?_, fun v hv => ?_⟩
        · rw [if_neg (fun h => by cases h)]; exact hσ
        · cases hv; rfl
      · rw [if_neg hw, if_neg hw]
        exact ih (by omega) n (w + 1)
def zst (a : Int32) : Int32 := if a < 0 then 0 else if 9 < a then 0 else 1
theorem zst_bo {a : Int32} : fx_bo (zst a) = true := by
  unfold zst
  split
  · rfl
  · split <;> rfl
theorem zst_x {a : Int32} {σ : FH} : fX11_isStake a σ = some (zst a) := by
  unfold fX11_isStake
  rw [fxL_r]
  show fxG (fx_bo (zst a) = true) (some (zst a)) = some (zst a)
  exact fxG_t zst_bo
theorem zst_m {a : Int32} {σ : FH} : fX12_within a 0 9 σ = some (zst a) := by
  unfold fX12_within
  rw [fxL_r]
  show fxG (fx_bo (zst a) = true) (some (zst a)) = some (zst a)
  exact fxG_t zst_bo
def zres (a1 a2 a3 a4 : Int32) : Option Int32 := zrr (zst a1) (zst a2) (zst a3) (fun j => zq a1 a2 a3 (Int32.ofNat j)) a4
theorem zr4_low {q : Nat → Int32} {a4 : Int32} (h : a4 < -1) : ∀ (k : Nat), k ≤ 4 → ∀ (w : Int32), 0 ≤ w → w ≤ Int32.ofNat (4 - k) → zr4 q a4 k w = none := by
  intro k
  induction k with
  | zero =>
    intro _ w _ _
    unfold zr4
    rw [if_neg (fun e => by rw [e] at h; exact absurd h (by decide))]
  | succ k ih =>
    intro hk w h0 h1
    unfold zr4
    have hb : (Int32.ofNat (4 - k)).toInt = 4 - (k : Int) ∧ (Int32.ofNat (4 - (k + 1))).toInt = 3 - (k : Int) := by
      have : k = 0 ∨ k = 1 ∨ k = 2 ∨ k = 3 := by omega
      rcases this with rfl | rfl | rfl | rfl <;> decide
    have t0 := Int32.le_iff_toInt_le.mp h0
    have t1 := Int32.le_iff_toInt_le.mp h1
    rw [hb.2] at t1
    have t00 : (0 : Int32).toInt = 0 := by decide
    rw [t00] at t0
    have tp : (w + 1).toInt = w.toInt + 1 := by
      rw [Int32.toInt_add]
      have : (1 : Int32).toInt = 1 := by decide
      rw [this, Int.bmod_def]
      omega
    split
    · exact ih (by omega) w h0 (Int32.le_iff_toInt_le.mpr (by rw [hb.1]; omega))
    · rw [if_neg (fun e => by
        have := Int32.lt_iff_toInt_lt.mp h
        rw [← e] at this
        have tm : (-1 : Int32).toInt = -1 := by decide
        omega)]
      exact ih (by omega) (w + 1) (Int32.le_iff_toInt_le.mpr (by rw [t00]; omega)) (Int32.le_iff_toInt_le.mpr (by rw [hb.1]; omega))
theorem Rel_th9 {n : Nat} {σx σm : FH} {y : Int32} (h : Rel n σx σm) : Rel n σx (fx_si σm 0 0 y) := Rel_sc h (agr_rf _ _) agQ_th
theorem op_rests (a1 a2 a3 a4 : Int32) {n : Nat} {σx σm : FH} (h : Rel n σx σm) : ∃ (r : Int32) (σm' : FH), fX12_rests a1 a2 a3 a4 σm = some (r, σm') ∧ Rel n σx σm' ∧ σm'.1 0 0 = (if zres a1 a2 a3 a4 = none then 1 else 0) ∧ ∀ v, zres a1 a2 a3 a4 = some v → v = r := by
  unfold fX12_rests zres zrr
  rw [zst_m, zBP_s, fxL_r]
  generalize hJ : (fun (y5 : Int32) => fxL (fx_si σm 0 0 y5) (fun (σ6 : FH) => if σ6.1 0 0 = 1 then some ((0 : Int32), σ6) else fxL (fun (x9 : Int32) => fxL (α := Int32) (if a4 = (-1) then 0 else 1) (fun (v10 : Int32) => fxL (fx_si σ6 0 0 v10) (fun (σ13 : FH) => fxL (α := Int32) (if a4 = (-1) then x9 else 0) (fun (v14 : Int32) => some (v14, σ13))))) (fun K8 => fX12_rests_61 a1 a2 a3 a4 σ6 K8 FU 0 0))) = J4
  have j1 : J4 1 = some (0, fx_si σm 0 0 1) := by
    rw [← hJ]
    dsimp only
    rw [fxL_r, si1s, if_pos rfl]
  have j0 : ∃ (r : Int32) (σ' : FH), J4 0 = some (r, σ') ∧ (σ' = fx_si σm 0 0 0 ∨ ∃ y, σ' = fx_si (fx_si σm 0 0 0) 0 0 y) ∧ σ'.1 0 0 = (if zr4 (fun j => zq a1 a2 a3 (Int32.ofNat j)) a4 4 0 = none then 1 else 0) ∧ ∀ v, zr4 (fun j => zq a1 a2 a3 (Int32.ofNat j)) a4 4 0 = some v → v = r := by
    rw [← hJ]
    dsimp only
    rw [fxL_r, si1s, if_neg (by decide), fxL_r, show FU = 4995 + 4 + 1 from rfl]
    exact zq_k (si1s _ _ _ _) (fun w => by rw [fxL_r, fxL_r, fxL_r]) 4 (Nat.le_refl 4) 4995 0
  clear hJ
  have k1 : ∃ (r : Int32) (σm' : FH), J4 1 = some (r, σm') ∧ Rel n σx σm' ∧ σm'.1 0 0 = (if (none : Option Int32) = none then 1 else 0) ∧ ∀ v, (none : Option Int32) = some v → v = r := ⟨0, _, j1, Rel_th9 h, by rw [si1s, if_pos rfl], fun v hv => by cases hv⟩
  rw [fxL_r]
  by_cases c1 : zst a1 = 0
  · rw [if_pos c1, if_pos c1]; exact k1
  · rw [if_neg c1, if_neg c1, zst_m, zBP_s]
    by_cases c2 : zst a2 = 0
    · rw [if_pos c2, if_pos c2]; exact k1
    · rw [if_neg c2, if_neg c2, zst_m, zBP_s]
      by_cases c3 : zst a3 = 0
      · rw [if_pos c3, if_pos c3]; exact k1
      · rw [if_neg c3, if_neg c3]
        by_cases c4 : a4 < -1
        · rw [if_pos c4, zr4_low c4 4 (Nat.le_refl 4) 0 (by decide) (by decide)]; exact k1
        · rw [if_neg c4]
          obtain ⟨r, σ', e1, e2, e3, e4⟩ := j0
          refine ⟨r, σ', e1, ?_, e3, e4⟩
          rcases e2 with rfl | ⟨y, rfl⟩
          · exact Rel_th9 h
          · exact Rel_th9 (Rel_th9 h)
