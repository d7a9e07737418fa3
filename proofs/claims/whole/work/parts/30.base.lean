/-! ===== level 3: the methods' functions, read as numbers ===== -/
theorem fxG_t {β : Type} {P : Prop} [Decidable P] {o : Option β} (h : P) : fxG P o = o := if_pos h
theorem fxL_r {α β : Type} (e : α) (k : α → β) : fxL e k = k e := rfl
theorem fxBI_s {β : Type} (r : Int32) (σ : FH) (k : Int32 → FH → Option β) : fxBI (some (r, σ)) k = k r σ := rfl
theorem fxBJ_s {β : Type} (r : Int64) (σ : FH) (k : Int64 → FH → Option β) : fxBJ (some (r, σ)) k = k r σ := rfl
theorem fxBV_s {β : Type} (σ : FH) (k : FH → Option β) : fxBV (some σ) k = k σ := rfl
theorem fxBP_s {α β : Type} (r : α) (k : α → Option β) : fxBP (some r) k = k r := rfl
theorem fx_inN {i n : Nat} (h : i < n) (hn : n ≤ 2000000) : fx_in (nI i) n = true := by
  have h2 : ¬ ((nI i) < 0 ∨ n ≤ (nI i).toNatClampNeg) := by
    rw [nI_clamp (by omega)]
    exact fun q => q.elim (nI_pos (by omega)) (fun z => by omega)
  exact decide_eq_true h2
theorem fx_clN {i : Nat} (h : i < 2 ^ 31) : Int32.toNatClampNeg (nI i) = i := nI_clamp h
/-- reading what was written -/
theorem si1 (σ : FH) (a k : Nat) (v : Int32) (b j : Nat) : (fx_si σ a k v).1 b j = if b = a ∧ j = k then v else σ.1 b j := by
  unfold fx_si upd
  by_cases h : b = a
  · subst h
    by_cases hj : j = k <;> simp [hj]
  · simp [h]
theorem si2 (σ : FH) (a k : Nat) (v : Int32) : (fx_si σ a k v).2 = σ.2 := rfl
theorem sl1 (σ : FH) (a k : Nat) (v : Int64) : (fx_sl σ a k v).1 = σ.1 := rfl
theorem sl21 (σ : FH) (a k : Nat) (v : Int64) (b j : Nat) : (fx_sl σ a k v).2.1 b j = if b = a ∧ j = k then v else σ.2.1 b j := by
  unfold fx_sl vp_updL
  by_cases h : b = a
  · subst h
    by_cases hj : j = k <;> simp [hj]
  · simp [h]
theorem sl22 (σ : FH) (a k : Nat) (v : Int64) : (fx_sl σ a k v).2.2 = σ.2.2 := rfl
theorem sr1 (σ : FH) (k x : Nat) : (fx_sr σ k x).1 = σ.1 := rfl
theorem sr21 (σ : FH) (k x : Nat) : (fx_sr σ k x).2.1 = σ.2.1 := rfl
theorem sr22 (σ : FH) (k x j : Nat) : (fx_sr σ k x).2.2 j = if j = k then x else σ.2.2 j := rfl
/-- the world but for the cells of a kind -/
def agr (P : Nat → Prop) (σ σ' : FH) : Prop := (∀ b, ¬ P b → σ'.1 b = σ.1 b) ∧ σ'.2 = σ.2
theorem agr_rf (P : Nat → Prop) (σ : FH) : agr P σ σ := ⟨fun _ _ => rfl, rfl⟩
theorem agr_tr {P : Nat → Prop} {a b c : FH} (h : agr P a b) (h' : agr P b c) : agr P a c := ⟨fun q hq => (h'.1 q hq).trans (h.1 q hq), h'.2.trans h.2⟩
theorem agr_mono {P Q : Nat → Prop} {a b : FH} (hPQ : ∀ q, P q → Q q) (h : agr P a b) : agr Q a b := ⟨fun q hq => h.1 q (fun z => hq (hPQ q z)), h.2⟩
theorem agr_si {P : Nat → Prop} {σ : FH} {a k : Nat} {v : Int32} (h : P a) : agr P σ (fx_si σ a k v) := ⟨fun _ hb => fx_si_o (fun e => hb (e ▸ h)), rfl⟩
theorem agr_sit {P : Nat → Prop} {σ σ0 : FH} {a k : Nat} {v : Int32} (h : P a) (h0 : agr P σ0 σ) : agr P σ0 (fx_si σ a k v) := agr_tr h0 (agr_si h)
/-- numbers -/
theorem n0 : (0 : Int32) = nI 0 := rfl
theorem nI_m1 {a : Nat} (h : 0 < a) : nI a - 1 = nI (a - 1) := by
  obtain ⟨b, rfl⟩ : ∃ b, a = b + 1 := ⟨a - 1, by omega⟩
  rw [nI_pred]; rfl
theorem nI_inj {a b : Nat} (ha : a < 2 ^ 31) (hb : b < 2 ^ 31) (h : nI a = nI b) : a = b := (nI_eq ha hb).mp h
/-- a sum of numbers -/
def sN (f : Nat → Nat) : Nat → Nat
  | 0 => 0
  | n + 1 => sN f n + f n
theorem sN_le {f : Nat → Nat} {b : Nat} : ∀ n : Nat, (∀ i, i < n → f i ≤ b) → sN f n ≤ n * b
  | 0, _ => by simp [sN]
  | n + 1, h => by
    have h1 := sN_le n (fun i hi => h i (by omega))
    have h2 := h n (by omega)
    simp only [sN, Nat.add_mul]
    omega
theorem sN_congr {f g : Nat → Nat} : ∀ n : Nat, (∀ i, i < n → f i = g i) → sN f n = sN g n
  | 0, _ => rfl
  | n + 1, h => by
    simp only [sN]
    rw [sN_congr n (fun i hi => h i (by omega)), h n (by omega)]
