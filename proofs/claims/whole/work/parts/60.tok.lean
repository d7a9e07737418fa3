/-! ===== tokens: the tape's words, numbers and signs, as the class and the reference read them ===== -/
def isB (c : Nat) : Bool := decide (c = 10 ∨ c = 32)
def isL (c : Nat) : Bool := decide (97 ≤ c ∧ c ≤ 122)
def isD (c : Nat) : Bool := decide (48 ≤ c ∧ c ≤ 57)
def isG (c : Nat) : Bool := decide ((40 ≤ c ∧ c ≤ 43) ∨ c = 45 ∨ (59 ≤ c ∧ c ≤ 61))
def bv (b : Bool) : Int32 := bif b then 1 else 0
theorem bo_bv (b : Bool) : fx_bo (bv b) = true := by cases b <;> decide
theorem bv_0 (b : Bool) : bv b = 0 ↔ b = false := by cases b <;> decide
theorem bv_f : bv false = 0 := rfl
theorem bv_t : bv true = 1 := rfl
theorem tOK_lt {c : Nat} (h : tOK c) : c < 127 := by unfold tOK at h; omega
theorem nk (a b : Nat) (h : decide (a = b) = false) {P : Prop} : a = b → P := fun e => absurd e (of_decide_eq_false h)
/-- as far as the signs are such -/
def rn (P : Nat → Bool) (t : TP) : Nat → Nat → Nat
  | 0, q => q
  | n + 1, q => if q < t.1 ∧ P (t.2 q) = true then rn P t n (q + 1) else q
theorem rn_ge (P : Nat → Bool) (t : TP) : ∀ (n q : Nat), q ≤ rn P t n q
  | 0, q => Nat.le_refl q
  | n + 1, q => by
    rw [rn]
    by_cases c : q < t.1 ∧ P (t.2 q) = true
    · rw [if_pos c]; exact Nat.le_trans (Nat.le_succ q) (rn_ge P t n (q + 1))
    · rw [if_neg c]; exact Nat.le_refl q
theorem rn_le (P : Nat → Bool) (t : TP) : ∀ (n q : Nat), q ≤ t.1 → rn P t n q ≤ t.1
  | 0, q, h => h
  | n + 1, q, h => by
    rw [rn]
    by_cases c : q < t.1 ∧ P (t.2 q) = true
    · rw [if_pos c]; exact rn_le P t n (q + 1) c.1
    · rw [if_neg c]; exact h
theorem rn_in (P : Nat → Bool) (t : TP) : ∀ (n q j : Nat), q ≤ j → j < rn P t n q → P (t.2 j) = true
  | 0, q, j, h1, h2 => absurd h2 (by rw [rn]; omega)
  | n + 1, q, j, h1, h2 => by
    rw [rn] at h2
    by_cases c : q < t.1 ∧ P (t.2 q) = true
    · rw [if_pos c] at h2
      by_cases e : j = q
      · rw [e]; exact c.2
      · exact rn_in P t n (q + 1) j (by omega) h2
    · rw [if_neg c] at h2; omega
theorem rn_st (P : Nat → Bool) (t : TP) : ∀ (n q : Nat), t.1 ≤ q + n → rn P t n q < t.1 → P (t.2 (rn P t n q)) = false
  | 0, q, h1, h2 => absurd h2 (by rw [rn]; omega)
  | n + 1, q, h1, h2 => by
    rw [rn] at h2 ⊢
    by_cases c : q < t.1 ∧ P (t.2 q) = true
    · rw [if_pos c] at h2 ⊢; exact rn_st P t n (q + 1) (by omega) h2
    · rw [if_neg c] at h2 ⊢
      cases e : P (t.2 q) with
      | false => rfl
      | true => exact absurd ⟨h2, e⟩ c
theorem rn_gt (P : Nat → Bool) (t : TP) {n q : Nat} (h : q < t.1) (hP : P (t.2 q) = true) : q < rn P t (n + 1) q := by
  rw [rn, if_pos ⟨h, hP⟩]
  exact Nat.lt_of_lt_of_le (Nat.lt_succ_self q) (rn_ge P t n (q + 1))
/-- the letters of m signs, their number as digits -/
def lets (t : TP) (b : Nat) : Nat → List Nat
  | 0 => []
  | m + 1 => lets t b m ++ [t.2 (b + m) - 96]
def nums (t : TP) (b : Nat) : Nat → Nat
  | 0 => 0
  | m + 1 => nums t b m * 10 + (t.2 (b + m) - 48)
theorem lets_len (t : TP) (b : Nat) : ∀ m, (lets t b m).length = m
  | 0 => rfl
  | m + 1 => by rw [lets, List.length_append, lets_len t b m]; rfl
theorem lets_in (t : TP) (b : Nat) : ∀ m, (∀ j, b ≤ j → j < b + m → isL (t.2 j) = true) → ∀ x ∈ lets t b m, 1 ≤ x ∧ x ≤ 26
  | 0, _, x, hx => by cases hx
  | m + 1, h, x, hx => by
    rw [lets] at hx
    rcases List.mem_append.mp hx with q | q
    · exact lets_in t b m (fun j h1 h2 => h j h1 (by omega)) x q
    · have e := List.mem_singleton.mp q
      have := of_decide_eq_true (h (b + m) (by omega) (by omega))
      omega
theorem nums_lt (t : TP) (b : Nat) : ∀ m, (∀ j, b ≤ j → j < b + m → isD (t.2 j) = true) → nums t b m < 10 ^ m
  | 0, _ => Nat.zero_lt_one
  | m + 1, h => by
    have h1 := nums_lt t b m (fun j h1 h2 => h j h1 (by omega))
    have := of_decide_eq_true (h (b + m) (by omega) (by omega))
    rw [nums, Nat.pow_succ]
    omega
theorem enc_app (k : Nat) (l : List Nat) (x : Nat) : enc k (l ++ [x]) = enc k l * k + x := by unfold enc; rw [List.foldl_append]; rfl
/-- a token: kind (0 none, 1 the end, 2 a number, 3 a word, 4 a sign), where it begins, where the next may, letters, number -/
abbrev TK : Type := Nat × Nat × Nat × List Nat × Nat
def tkAt (t : TP) (q : Nat) : TK :=
  if t.1 ≤ rn isB t 1000 q then (1, rn isB t 1000 q, rn isB t 1000 q, [], 0)
  else if isL (t.2 (rn isB t 1000 q)) = true then ((if rn isL t 1000 (rn isB t 1000 q) - rn isB t 1000 q ≤ 8 then 3 else 0), rn isB t 1000 q, rn isL t 1000 (rn isB t 1000 q), lets t (rn isB t 1000 q) (rn isL t 1000 (rn isB t 1000 q) - rn isB t 1000 q), 0)
  else if isD (t.2 (rn isB t 1000 q)) = true then ((if rn isD t 1000 (rn isB t 1000 q) - rn isB t 1000 q ≤ 4 then 2 else 0), rn isB t 1000 q, rn isD t 1000 (rn isB t 1000 q), [], nums t (rn isB t 1000 q) (rn isD t 1000 (rn isB t 1000 q) - rn isB t 1000 q))
  else ((if isG (t.2 (rn isB t 1000 q)) = true then 4 else 0), rn isB t 1000 q, rn isB t 1000 q + 1, [], 0)
/-- what is known of a token -/
def TKok (t : TP) (τ : TK) : Prop := τ.1 ≤ 4 ∧ τ.2.1 ≤ τ.2.2.1 ∧ τ.2.2.1 ≤ t.1 ∧ (τ.1 ≠ 1 → τ.2.1 < t.1 ∧ τ.2.1 < τ.2.2.1) ∧ (τ.1 = 3 → wOK τ.2.2.2.1) ∧ (τ.1 = 2 → τ.2.2.2.2 < 10000) ∧ (τ.1 = 4 → isG (t.2 τ.2.1) = true)
theorem tkAt_ok {t : TP} (ht : t.1 ≤ 1000) {q : Nat} (hq : q ≤ t.1) : TKok t (tkAt t q) ∧ q ≤ (tkAt t q).2.1 := by
  have b1 := rn_ge isB t 1000 q
  have b2 := rn_le isB t 1000 q hq
  unfold tkAt
  generalize rn isB t 1000 q = b at b1 b2
  by_cases c : t.1 ≤ b
  · rw [if_pos c]
    exact ⟨⟨(by decide : (1 : Nat) ≤ 4), Nat.le_refl b, b2, fun h => absurd rfl h, nk 1 3 rfl, nk 1 2 rfl, nk 1 4 rfl⟩, b1⟩
  rw [if_neg c]
  by_cases c1 : isL (t.2 b) = true
  · rw [if_pos c1]
    have e1 := rn_gt isL t (n := 999) (by omega) c1
    have e2 := rn_le isL t 1000 b b2
    have e3 := rn_in isL t 1000 b
    generalize rn isL t 1000 b = e at e1 e2 e3
    by_cases c8 : e - b ≤ 8
    · rw [if_pos c8]
      refine ⟨⟨(by decide : (3 : Nat) ≤ 4), Nat.le_of_lt e1, e2, fun _ => ⟨by show b < t.1; omega, e1⟩, fun _ => ⟨?_, ?_, ?_⟩, nk 3 2 rfl, nk 3 4 rfl⟩, b1⟩
      · show (lets t b (e - b)).length ≤ 8
        rw [lets_len]; exact c8
      · intro h
        have h2 := lets_len t b (e - b)
        have h3 : lets t b (e - b) = [] := h
        rw [h3] at h2
        have : 0 = e - b := h2
        omega
      · exact lets_in t b (e - b) (fun j h1 h2 => e3 j h1 (by omega))
    · rw [if_neg c8]
      exact ⟨⟨(by decide : (0 : Nat) ≤ 4), Nat.le_of_lt e1, e2, fun _ => ⟨by show b < t.1; omega, e1⟩, nk 0 3 rfl, nk 0 2 rfl, nk 0 4 rfl⟩, b1⟩
  rw [if_neg c1]
  by_cases c2 : isD (t.2 b) = true
  · rw [if_pos c2]
    have e1 := rn_gt isD t (n := 999) (by omega) c2
    have e2 := rn_le isD t 1000 b b2
    have e3 := rn_in isD t 1000 b
    generalize rn isD t 1000 b = e at e1 e2 e3
    by_cases c8 : e - b ≤ 4
    · rw [if_pos c8]
      refine ⟨⟨(by decide : (2 : Nat) ≤ 4), Nat.le_of_lt e1, e2, fun _ => ⟨by show b < t.1; omega, e1⟩, nk 2 3 rfl, fun _ => ?_, nk 2 4 rfl⟩, b1⟩
      show nums t b (e - b) < 10000
      have h1 := nums_lt t b (e - b) (fun j h1 h2 => e3 j h1 (by omega))
      have h2 : 10 ^ (e - b) ≤ 10 ^ 4 := Nat.pow_le_pow_right (by decide) c8
      have h3 : 10 ^ 4 = 10000 := by decide
      omega
    · rw [if_neg c8]
      exact ⟨⟨(by decide : (0 : Nat) ≤ 4), Nat.le_of_lt e1, e2, fun _ => ⟨by show b < t.1; omega, e1⟩, nk 0 3 rfl, nk 0 2 rfl, nk 0 4 rfl⟩, b1⟩
  rw [if_neg c2]
  by_cases c3 : isG (t.2 b) = true
  · rw [if_pos c3]
    exact ⟨⟨(by decide : (4 : Nat) ≤ 4), Nat.le_succ b, by show b + 1 ≤ t.1; omega, fun _ => ⟨by show b < t.1; omega, Nat.lt_succ_self b⟩, nk 4 3 rfl, nk 4 2 rfl, fun _ => c3⟩, b1⟩
  · rw [if_neg c3]
    exact ⟨⟨(by decide : (0 : Nat) ≤ 4), Nat.le_succ b, by show b + 1 ≤ t.1; omega, fun _ => ⟨by show b < t.1; omega, Nat.lt_succ_self b⟩, nk 0 3 rfl, nk 0 2 rfl, nk 0 4 rfl⟩, b1⟩
/-- the class stands at a token -/
def XT (σ : FH) (t : TP) (τ : TK) : Prop := XP σ t ∧ σ.1 3 2 = nI τ.2.1 ∧ σ.1 3 3 = nI τ.2.2.1 ∧ σ.1 3 4 = nI τ.1 ∧ (τ.1 = 3 → σ.2.1 3 7 = lN (enc 32 τ.2.2.2.1)) ∧ (τ.1 = 2 → σ.1 3 5 = nI τ.2.2.2.2) ∧ (τ.1 = 4 → σ.1 3 6 = nI (t.2 τ.2.1))
/-- the reference: 0 the end, 1 a word, 2 a number, 3 a sign, 4 none -/
def mk5 (k : Nat) : Nat := if k = 1 then 0 else if k = 3 then 1 else if k = 2 then 2 else if k = 4 then 3 else 4
def MPs (σ : FH) (t : TP) : Prop := t.1 ≤ 1000 ∧ σ.1 0 3 = nI t.1 ∧ ∀ j, j < t.1 → tOK (t.2 j) ∧ σ.1 1 j = nI (t.2 j)
def MK (σ : FH) (t : TP) (τ : TK) : Prop := MPs σ t ∧ σ.1 0 5 = nI τ.2.1 ∧ σ.1 0 4 = nI τ.2.2.1 ∧ σ.1 0 6 = nI (mk5 τ.1) ∧ (τ.1 = 3 → σ.2.1 0 7 = lN (enc 27 τ.2.2.2.1)) ∧ (τ.1 = 2 → σ.1 0 8 = nI τ.2.2.2.2)
/-- what reading a token leaves alone -/
def fA (σ σ' : FH) : Prop := (∀ b j, ¬ (b = 3 ∧ 2 ≤ j ∧ j ≤ 6) → σ'.1 b j = σ.1 b j) ∧ (∀ b j, ¬ (b = 3 ∧ j = 7) → σ'.2.1 b j = σ.2.1 b j) ∧ σ'.2.2 = σ.2.2
theorem fA_rf (σ : FH) : fA σ σ := ⟨fun _ _ _ => rfl, fun _ _ _ => rfl, rfl⟩
theorem fA_tr {a b c : FH} (h : fA a b) (h' : fA b c) : fA a c := ⟨fun q j z => (h'.1 q j z).trans (h.1 q j z), fun q j z => (h'.2.1 q j z).trans (h.2.1 q j z), h'.2.2.trans h.2.2⟩
theorem fA_si {σ : FH} {k : Nat} {v : Int32} (h1 : 2 ≤ k) (h2 : k ≤ 6) : fA σ (fx_si σ 3 k v) := ⟨fun b j z => by rw [si1, if_neg (fun q => z ⟨q.1, by omega, by omega⟩)], fun _ _ _ => rfl, rfl⟩
theorem fA_sl {σ : FH} {v : Int64} : fA σ (fx_sl σ 3 7 v) := ⟨fun _ _ _ => rfl, fun b j z => by rw [sl21, if_neg z], rfl⟩
theorem XP_fA {σ σ' : FH} {t : TP} (h : XP σ t) (g : fA σ σ') : XP σ' t := ⟨h.1, by rw [g.1 3 1 (by omega)]; exact h.2.1, fun j hj => ⟨(h.2.2 j hj).1, by rw [g.1 4 j (by omega)]; exact (h.2.2 j hj).2⟩⟩
/-- the same of the reference -/
def fN (σ σ' : FH) : Prop := (∀ b j, ¬ (b = 0 ∧ 4 ≤ j ∧ j ≤ 8) → σ'.1 b j = σ.1 b j) ∧ (∀ b j, ¬ (b = 0 ∧ j = 7) → σ'.2.1 b j = σ.2.1 b j) ∧ σ'.2.2 = σ.2.2
theorem fN_rf (σ : FH) : fN σ σ := ⟨fun _ _ _ => rfl, fun _ _ _ => rfl, rfl⟩
theorem fN_tr {a b c : FH} (h : fN a b) (h' : fN b c) : fN a c := ⟨fun q j z => (h'.1 q j z).trans (h.1 q j z), fun q j z => (h'.2.1 q j z).trans (h.2.1 q j z), h'.2.2.trans h.2.2⟩
theorem fN_si {σ : FH} {k : Nat} {v : Int32} (h1 : 4 ≤ k) (h2 : k ≤ 8) : fN σ (fx_si σ 0 k v) := ⟨fun b j z => by rw [si1, if_neg (fun q => z ⟨q.1, by omega, by omega⟩)], fun _ _ _ => rfl, rfl⟩
theorem fN_sl {σ : FH} {v : Int64} : fN σ (fx_sl σ 0 7 v) := ⟨fun _ _ _ => rfl, fun b j z => by rw [sl21, if_neg z], rfl⟩
theorem MPs_fN {σ σ' : FH} {t : TP} (h : MPs σ t) (g : fN σ σ') : MPs σ' t := ⟨h.1, by rw [g.1 0 3 (by omega)]; exact h.2.1, fun j hj => ⟨(h.2.2 j hj).1, by rw [g.1 1 j (by omega)]; exact (h.2.2 j hj).2⟩⟩
/-- signs, as both test them -/
theorem cl_blank : ∀ c, c < 127 → (if nI c = 10 then (1 : Int32) else (if nI c = 32 then 1 else 0)) = bv (isB c) := by decide +kernel
theorem cl_letter : ∀ c, c < 127 → (if nI c < 97 then (0 : Int32) else (if 122 < nI c then 0 else 1)) = bv (isL c) := by decide +kernel
theorem cl_digit : ∀ c, c < 127 → (if nI c < 48 then (0 : Int32) else (if 57 < nI c then 0 else 1)) = bv (isD c) := by decide +kernel
theorem x_isBlank {c : Nat} (h : c < 127) {σ : FH} : fX9_isBlank (nI c) σ = some (bv (isB c)) := by
  unfold fX9_isBlank
  rw [cl_blank c h, fxL_r, fxG_t (bo_bv _)]
theorem x_isLetter {c : Nat} (h : c < 127) {σ : FH} : fX9_isLetter (nI c) σ = some (bv (isL c)) := by
  unfold fX9_isLetter
  rw [cl_letter c h, fxL_r, fxG_t (bo_bv _)]
theorem x_isDigit {c : Nat} (h : c < 127) {σ : FH} : fX9_isDigit (nI c) σ = some (bv (isD c)) := by
  unfold fX9_isDigit
  rw [cl_digit c h, fxL_r, fxG_t (bo_bv _)]
/-- the class passes blanks -/
theorem x_skip {t : TP} : ∀ (m n p : Nat) (σ1 : FH), XP σ1 t → σ1.1 3 2 = nI p → p ≤ t.1 → t.1 ≤ p + m → m < n → ∃ σ', (∀ K, fX9_advance_8 K n σ1 = K σ') ∧ σ'.1 3 2 = nI (rn isB t m p) ∧ fA σ1 σ'
  | m, 0, p, σ1, _, _, _, _, h3 => absurd h3 (by omega)
  | 0, n + 1, p, σ1, hx, hp, h1, h2, _ => by
    have := hx.1
    refine ⟨σ1, ?_, hp, fA_rf _⟩
    intro K; rw [fX9_advance_8, hx.2.1, hp, if_pos (nI_le (by omega) (by omega))]
  | m + 1, n + 1, p, σ1, hx, hp, h1, h2, h3 => by
    have hL := hx.1
    by_cases c : p < t.1
    · have hc := tOK_lt (hx.2.2 p c).1
      cases hb : isB (t.2 p) with
      | true =>
        have g : fA σ1 (fx_si σ1 3 2 (nI (p + 1))) := fA_si (by decide) (by decide)
        obtain ⟨σ', e1, e2, e3⟩ := x_skip m n (p + 1) _ (XP_fA hx g) (by rw [si1, if_pos ⟨rfl, rfl⟩]) (by omega) (by omega) (by omega)
        refine ⟨σ', ?_, ?_, fA_tr g e3⟩
        · intro K; rw [fX9_advance_8, hx.2.1, hp, if_neg (le_no c (by omega)), fxG_t (fx_inN (by omega) (by decide)), fx_clN (by omega), (hx.2.2 p c).2, x_isBlank hc, fxBP_s, hb, if_neg (by decide), nI_1, fxL_r]
          exact e1 K
        · rw [rn, if_pos ⟨c, hb⟩]; exact e2
      | false =>
        refine ⟨σ1, ?_, ?_, fA_rf _⟩
        · intro K; rw [fX9_advance_8, hx.2.1, hp, if_neg (le_no c (by omega)), fxG_t (fx_inN (by omega) (by decide)), fx_clN (by omega), (hx.2.2 p c).2, x_isBlank hc, fxBP_s, hb, if_pos (by decide)]
        · rw [rn, if_neg (by rw [hb]; exact fun q => absurd q.2 (by decide))]; exact hp
    · refine ⟨σ1, ?_, ?_, fA_rf _⟩
      · intro K; rw [fX9_advance_8, hx.2.1, hp, if_pos (nI_le (by omega) (by omega))]
      · rw [rn, if_neg (fun q => c q.1)]; exact hp
theorem let_c : ∀ c, c < 127 → isL c = true → Int32.toInt64 ((nI c - 97) + 1) = lN (c - 96) ∧ Int32.toInt64 (nI c) = lN c := by decide +kernel
theorem dig_c : ∀ c, c < 127 → isD c = true → nI c - 48 = nI (c - 48) := by decide +kernel
/-- the class reads a word, a number -/
theorem x_word {t : TP} (b : Nat) : ∀ (m n i : Nat) (σ1 : FH), XP σ1 t → σ1.1 3 3 = nI (b + i) → σ1.2.1 3 7 = lN (enc 32 (lets t b i)) → b + i ≤ t.1 → t.1 ≤ b + i + m → m < n → ∃ σ', (∀ K, fX9_readWord_13 K n σ1 = K σ') ∧ σ'.1 3 3 = nI (rn isL t m (b + i)) ∧ σ'.2.1 3 7 = lN (enc 32 (lets t b (rn isL t m (b + i) - b))) ∧ fA σ1 σ' ∧ σ'.1 3 2 = σ1.1 3 2
  | m, 0, i, σ1, _, _, _, _, _, h3 => absurd h3 (by omega)
  | 0, n + 1, i, σ1, hx, hp, hk, h1, h2, _ => by
    have := hx.1
    refine ⟨σ1, ?_, hp, by rw [rn, Nat.add_sub_cancel_left]; exact hk, fA_rf _, rfl⟩
    intro K; rw [fX9_readWord_13, hx.2.1, hp, if_pos (nI_le (by omega) (by omega))]
  | m + 1, n + 1, i, σ1, hx, hp, hk, h1, h2, h3 => by
    have hL := hx.1
    by_cases c : b + i < t.1
    · have hc := tOK_lt (hx.2.2 _ c).1
      cases hb : isL (t.2 (b + i)) with
      | true =>
        have g0 : fA σ1 (fx_sl σ1 3 7 (lN (enc 32 (lets t b (i + 1))))) := fA_sl
        have g : fA σ1 (fx_si (fx_sl σ1 3 7 (lN (enc 32 (lets t b (i + 1))))) 3 3 (nI (b + (i + 1)))) := fA_tr g0 (fA_si (by decide) (by decide))
        obtain ⟨σ', e1, e2, e3, e4, e5⟩ := x_word b m n (i + 1) _ (XP_fA hx g) (by rw [si1, if_pos ⟨rfl, rfl⟩]) (by rw [si2, sl21, if_pos ⟨rfl, rfl⟩]) (by omega) (by omega) (by omega)
        have hrn : rn isL t (m + 1) (b + i) = rn isL t m (b + (i + 1)) := by rw [rn, if_pos ⟨c, hb⟩, Nat.add_assoc]
        refine ⟨σ', ?_, by rw [hrn]; exact e2, by rw [hrn]; exact e3, fA_tr g e4, by rw [e5, si1, if_neg (by decide), sl1]⟩
        intro K; rw [fX9_readWord_13, hx.2.1, hp, if_neg (le_no c (by omega)), fxG_t (fx_inN (by omega) (by decide)), fx_clN (by omega), (hx.2.2 _ c).2, x_isLetter hc, fxBP_s, hb, if_neg (by decide), fxG_t (fx_inN (by omega) (by decide)), hk]
        unfold fX10_withLetter
        rw [(let_c _ hc hb).1, fxBP_s, show (32 : Int64) = lN 32 from rfl, lN_mul, lN_add, fxL_r, sl1, hp, nI_1, fxL_r]
        rw [lets, enc_app, ← Nat.add_assoc] at e1
        exact e1 K
      | false =>
        refine ⟨σ1, ?_, ?_, ?_, fA_rf _, rfl⟩
        · intro K; rw [fX9_readWord_13, hx.2.1, hp, if_neg (le_no c (by omega)), fxG_t (fx_inN (by omega) (by decide)), fx_clN (by omega), (hx.2.2 _ c).2, x_isLetter hc, fxBP_s, hb, if_pos (by decide)]
        · rw [rn, if_neg (by rw [hb]; exact fun q => absurd q.2 (by decide))]; exact hp
        · rw [rn, if_neg (by rw [hb]; exact fun q => absurd q.2 (by decide)), Nat.add_sub_cancel_left]; exact hk
    · refine ⟨σ1, ?_, ?_, ?_, fA_rf _, rfl⟩
      · intro K; rw [fX9_readWord_13, hx.2.1, hp, if_pos (nI_le (by omega) (by omega))]
      · rw [rn, if_neg (fun q => c q.1)]; exact hp
      · rw [rn, if_neg (fun q => c q.1), Nat.add_sub_cancel_left]; exact hk
theorem x_num {t : TP} (b : Nat) : ∀ (m n i : Nat) (σ1 : FH), XP σ1 t → σ1.1 3 3 = nI (b + i) → σ1.1 3 5 = nI (nums t b i) → b + i ≤ t.1 → t.1 ≤ b + i + m → m < n → ∃ σ', (∀ K, fX9_readNumber_13 K n σ1 = K σ') ∧ σ'.1 3 3 = nI (rn isD t m (b + i)) ∧ σ'.1 3 5 = nI (nums t b (rn isD t m (b + i) - b)) ∧ fA σ1 σ' ∧ σ'.1 3 2 = σ1.1 3 2
  | m, 0, i, σ1, _, _, _, _, _, h3 => absurd h3 (by omega)
  | 0, n + 1, i, σ1, hx, hp, hk, h1, h2, _ => by
    have := hx.1
    refine ⟨σ1, ?_, hp, by rw [rn, Nat.add_sub_cancel_left]; exact hk, fA_rf _, rfl⟩
    intro K; rw [fX9_readNumber_13, hx.2.1, hp, if_pos (nI_le (by omega) (by omega))]
  | m + 1, n + 1, i, σ1, hx, hp, hk, h1, h2, h3 => by
    have hL := hx.1
    by_cases c : b + i < t.1
    · have hc := tOK_lt (hx.2.2 _ c).1
      cases hb : isD (t.2 (b + i)) with
      | true =>
        have g0 : fA σ1 (fx_si σ1 3 5 (nI (nums t b (i + 1)))) := fA_si (by decide) (by decide)
        have g : fA σ1 (fx_si (fx_si σ1 3 5 (nI (nums t b (i + 1)))) 3 3 (nI (b + (i + 1)))) := fA_tr g0 (fA_si (by decide) (by decide))
        obtain ⟨σ', e1, e2, e3, e4, e5⟩ := x_num b m n (i + 1) _ (XP_fA hx g) (by rw [si1, if_pos ⟨rfl, rfl⟩]) (by rw [si1, if_neg (by decide), si1, if_pos ⟨rfl, rfl⟩]) (by omega) (by omega) (by omega)
        have hrn : rn isD t (m + 1) (b + i) = rn isD t m (b + (i + 1)) := by rw [rn, if_pos ⟨c, hb⟩, Nat.add_assoc]
        refine ⟨σ', ?_, by rw [hrn]; exact e2, by rw [hrn]; exact e3, fA_tr g e4, by rw [e5, si1, if_neg (by decide), si1, if_neg (by decide)]⟩
        intro K; rw [fX9_readNumber_13, hx.2.1, hp, if_neg (le_no c (by omega)), fxG_t (fx_inN (by omega) (by decide)), fx_clN (by omega), (hx.2.2 _ c).2, x_isDigit hc, fxBP_s, hb, if_neg (by decide), fxG_t (fx_inN (by omega) (by decide)), hk]
        rw [dig_c _ hc hb, show (10 : Int32) = nI 10 from rfl, pk_mul, nI_add, fxL_r, si1, if_neg (by decide), hp, nI_1, fxL_r]
        rw [nums, ← Nat.add_assoc] at e1
        exact e1 K
      | false =>
        refine ⟨σ1, ?_, ?_, ?_, fA_rf _, rfl⟩
        · intro K; rw [fX9_readNumber_13, hx.2.1, hp, if_neg (le_no c (by omega)), fxG_t (fx_inN (by omega) (by decide)), fx_clN (by omega), (hx.2.2 _ c).2, x_isDigit hc, fxBP_s, hb, if_pos (by decide)]
        · rw [rn, if_neg (by rw [hb]; exact fun q => absurd q.2 (by decide))]; exact hp
        · rw [rn, if_neg (by rw [hb]; exact fun q => absurd q.2 (by decide)), Nat.add_sub_cancel_left]; exact hk
    · refine ⟨σ1, ?_, ?_, ?_, fA_rf _, rfl⟩
      · intro K; rw [fX9_readNumber_13, hx.2.1, hp, if_pos (nI_le (by omega) (by omega))]
      · rw [rn, if_neg (fun q => c q.1)]; exact hp
      · rw [rn, if_neg (fun q => c q.1), Nat.add_sub_cancel_left]; exact hk
theorem x_signs {σ : FH} : ∀ c, c < 127 → ∃ v, fJ0_indexOf_0f7a4 (nI c) σ = some v ∧ (if v < 0 then (0 : Int32) else 4) = nI (if isG c = true then 4 else 0) ∧ fx_chb (nI c) = true := by
  have h : ∀ c, c < 127 → fJ0_indexOf_0f7a4 (nI c) ((fun _ _ => 0), (fun _ _ => 0), fun _ => 0) = some ((fJ0_indexOf_0f7a4 (nI c) ((fun _ _ => 0), (fun _ _ => 0), fun _ => 0)).getD 0) ∧ (if (fJ0_indexOf_0f7a4 (nI c) ((fun _ _ => 0), (fun _ _ => 0), fun _ => 0)).getD 0 < 0 then (0 : Int32) else 4) = nI (if isG c = true then 4 else 0) ∧ fx_chb (nI c) = true := by decide +kernel
  intro c hc
  obtain ⟨h1, h2, h3⟩ := h c hc
  exact ⟨_, h1, h2, h3⟩
/-- the class's next token -/
theorem x_advance {σ : FH} {t : TP} {q : Nat} (h : XP σ t) (hn : σ.1 3 3 = nI q) (hq : q ≤ t.1) : ∃ σ', fX9_advance σ = some σ' ∧ XT σ' t (tkAt t q) ∧ fA σ σ' := by
  have hL := h.1
  unfold fX9_advance
  rw [hn, fxL_r, fxL_r]
  have g1 : fA σ (fx_si σ 3 2 (nI q)) := fA_si (by decide) (by decide)
  obtain ⟨σ2, e2, p2, g2⟩ := x_skip (t := t) 1000 FU q _ (XP_fA h g1) (by rw [si1, if_pos ⟨rfl, rfl⟩]) hq (by omega) (by decide)
  rw [e2]
  have g12 := fA_tr g1 g2
  have b1 := rn_ge isB t 1000 q
  have b2 := rn_le isB t 1000 q hq
  unfold tkAt
  generalize rn isB t 1000 q = b at b1 b2 p2 ⊢
  rw [fxL_r, p2, nI_1]
  have g3 : fA σ (fx_si σ2 3 3 (nI (b + 1))) := fA_tr g12 (fA_si (by decide) (by decide))
  have p3 : (fx_si σ2 3 3 (nI (b + 1))).1 3 2 = nI b := by rw [si1, if_neg (by decide)]; exact p2
  have n3 : (fx_si σ2 3 3 (nI (b + 1))).1 3 3 = nI (b + 1) := by rw [si1, if_pos ⟨rfl, rfl⟩]
  generalize fx_si σ2 3 3 (nI (b + 1)) = σ3 at g3 p3 n3 ⊢
  have x3 := XP_fA h g3
  rw [p3, x3.2.1]
  by_cases c : t.1 ≤ b
  · rw [if_neg (by rw [nI_ltI (by omega) (by omega)]; omega), if_pos c, fxL_r, fxL_r]
    have g5 : fA σ (fx_si (fx_si σ3 3 3 (nI b)) 3 4 1) := fA_tr g3 (fA_tr (fA_si (by decide) (by decide)) (fA_si (by decide) (by decide)))
    refine ⟨_, rfl, ⟨XP_fA h g5, ?_, ?_, ?_, nk 1 3 rfl, nk 1 2 rfl, nk 1 4 rfl⟩, g5⟩
    · rw [si1, if_neg (by decide), si1, if_neg (by decide)]; exact p3
    · rw [si1, if_neg (by decide), si1, if_pos ⟨rfl, rfl⟩]
    · rw [si1, if_pos ⟨rfl, rfl⟩]; rfl
  have hb : b < t.1 := by omega
  have hc := tOK_lt (x3.2.2 b hb).1
  rw [if_pos (nI_lt hb (by omega)), if_neg c, fxG_t (fx_inN (by omega) (by decide)), fx_clN (by omega), (x3.2.2 b hb).2, x_isLetter hc, fxBP_s]
  cases c1 : isL (t.2 b) with
  | true =>
    rw [if_neg (by decide), if_pos rfl]
    unfold fX9_readWord
    rw [fxL_r, sl1, p3, fxL_r, fxL_r]
    have g4 : fA σ3 (fx_si (fx_sl σ3 3 7 0) 3 3 (nI b)) := fA_tr fA_sl (fA_si (by decide) (by decide))
    obtain ⟨σ5, e5, n5, k5, g5, q5⟩ := x_word (t := t) b 1000 FU 0 _ (XP_fA x3 g4) (by rw [si1, if_pos ⟨rfl, rfl⟩]; rfl) (by rw [si2, sl21, if_pos ⟨rfl, rfl⟩]; rfl) (by omega) (by omega) (by decide)
    rw [e5]
    have d1 := rn_ge isL t 1000 b
    have d2 := rn_le isL t 1000 b b2
    rw [Nat.add_zero] at n5 k5
    generalize rn isL t 1000 b = e at n5 k5 d1 d2 ⊢
    have q6 : σ5.1 3 2 = nI b := by rw [q5, si1, if_neg (by decide), sl1]; exact p3
    have ek : (if 8 < (nI e - nI b) then (0 : Int32) else 3) = nI (if e - b ≤ 8 then 3 else 0) := by
      rw [pk_sub d1]
      by_cases z : e - b ≤ 8
      · rw [if_pos z, if_neg (by rw [show (8 : Int32) = nI 8 from rfl, nI_ltI (by omega) (by omega)]; omega)]; rfl
      · rw [if_neg z, if_pos (by rw [show (8 : Int32) = nI 8 from rfl, nI_ltI (by omega) (by omega)]; omega)]; rfl
    rw [n5, q6, ek, fxL_r, fxL_r, fxBV_s]
    have g6 : fA σ (fx_si σ5 3 4 (nI (if e - b ≤ 8 then 3 else 0))) := fA_tr g3 (fA_tr g4 (fA_tr g5 (fA_si (by decide) (by decide))))
    refine ⟨_, rfl, ⟨XP_fA h g6, ?_, ?_, ?_, fun _ => k5, fun z => absurd z ?_, fun z => absurd z ?_⟩, g6⟩
    · rw [si1, if_neg (by decide)]; exact q6
    · rw [si1, if_neg (by decide)]; exact n5
    · rw [si1, if_pos ⟨rfl, rfl⟩]
    · show (if e - b ≤ 8 then 3 else 0) ≠ 2
      by_cases z : e - b ≤ 8
      · rw [if_pos z]; decide
      · rw [if_neg z]; decide
    · show (if e - b ≤ 8 then 3 else 0) ≠ 4
      by_cases z : e - b ≤ 8
      · rw [if_pos z]; decide
      · rw [if_neg z]; decide
  | false =>
  rw [if_pos (by decide), if_neg (by decide), fxG_t (fx_inN (by omega) (by decide)), x_isDigit hc, fxBP_s]
  cases c2 : isD (t.2 b) with
  | true =>
    rw [if_neg (by decide), if_pos rfl]
    unfold fX9_readNumber
    rw [fxL_r, si1, if_neg (by decide), p3, fxL_r, fxL_r]
    have g4 : fA σ3 (fx_si (fx_si σ3 3 5 0) 3 3 (nI b)) := fA_tr (fA_si (by decide) (by decide)) (fA_si (by decide) (by decide))
    obtain ⟨σ5, e5, n5, k5, g5, q5⟩ := x_num (t := t) b 1000 FU 0 _ (XP_fA x3 g4) (by rw [si1, if_pos ⟨rfl, rfl⟩]; rfl) (by rw [si1, if_neg (by decide), si1, if_pos ⟨rfl, rfl⟩]; rfl) (by omega) (by omega) (by decide)
    rw [e5]
    have d1 := rn_ge isD t 1000 b
    have d2 := rn_le isD t 1000 b b2
    rw [Nat.add_zero] at n5 k5
    generalize rn isD t 1000 b = e at n5 k5 d1 d2 ⊢
    have q6 : σ5.1 3 2 = nI b := by rw [q5, si1, if_neg (by decide), si1, if_neg (by decide)]; exact p3
    have ek : (if 4 < (nI e - nI b) then (0 : Int32) else 2) = nI (if e - b ≤ 4 then 2 else 0) := by
      rw [pk_sub d1]
      by_cases z : e - b ≤ 4
      · rw [if_pos z, if_neg (by rw [show (4 : Int32) = nI 4 from rfl, nI_ltI (by omega) (by omega)]; omega)]; rfl
      · rw [if_neg z, if_pos (by rw [show (4 : Int32) = nI 4 from rfl, nI_ltI (by omega) (by omega)]; omega)]; rfl
    rw [n5, q6, ek, fxL_r, fxL_r, fxBV_s]
    have g6 : fA σ (fx_si σ5 3 4 (nI (if e - b ≤ 4 then 2 else 0))) := fA_tr g3 (fA_tr g4 (fA_tr g5 (fA_si (by decide) (by decide))))
    refine ⟨_, rfl, ⟨XP_fA h g6, ?_, ?_, ?_, fun z => absurd z ?_, fun _ => ?_, fun z => absurd z ?_⟩, g6⟩
    · rw [si1, if_neg (by decide)]; exact q6
    · rw [si1, if_neg (by decide)]; exact n5
    · rw [si1, if_pos ⟨rfl, rfl⟩]
    · show (if e - b ≤ 4 then 2 else 0) ≠ 3
      by_cases z : e - b ≤ 4
      · rw [if_pos z]; decide
      · rw [if_neg z]; decide
    · rw [si1, if_neg (by decide)]; exact k5
    · show (if e - b ≤ 4 then 2 else 0) ≠ 4
      by_cases z : e - b ≤ 4
      · rw [if_pos z]; decide
      · rw [if_neg z]; decide
  | false =>
  rw [if_pos (by decide), if_neg (by decide)]
  unfold fX9_readSign
  obtain ⟨v, v1, v2, v3⟩ := x_signs (σ := fx_si σ3 3 6 (nI (t.2 b))) (t.2 b) hc
  rw [p3, fxG_t (fx_inN (by omega) (by decide)), fx_clN (by omega), (x3.2.2 b hb).2, fxG_t v3, fxL_r, si1, if_pos ⟨rfl, rfl⟩, v1, fxBP_s, v2, fxL_r, fxL_r, fxBV_s]
  have g6 : fA σ (fx_si (fx_si σ3 3 6 (nI (t.2 b))) 3 4 (nI (if isG (t.2 b) = true then 4 else 0))) := fA_tr g3 (fA_tr (fA_si (by decide) (by decide)) (fA_si (by decide) (by decide)))
  refine ⟨_, rfl, ⟨XP_fA h g6, ?_, ?_, ?_, fun z => absurd z ?_, fun z => absurd z ?_, fun _ => ?_⟩, g6⟩
  · rw [si1, if_neg (by decide), si1, if_neg (by decide)]; exact p3
  · rw [si1, if_neg (by decide), si1, if_neg (by decide)]; exact n3
  · rw [si1, if_pos ⟨rfl, rfl⟩]
  · show (if isG (t.2 b) = true then 4 else 0) ≠ 3
    by_cases z : isG (t.2 b) = true
    · rw [if_pos z]; decide
    · rw [if_neg z]; decide
  · show (if isG (t.2 b) = true then 4 else 0) ≠ 2
    by_cases z : isG (t.2 b) = true
    · rw [if_pos z]; decide
    · rw [if_neg z]; decide
  · rw [si1, if_neg (by decide), si1, if_pos ⟨rfl, rfl⟩]
