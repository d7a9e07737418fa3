/-! ===== the Assembly: ways, pivot, power, core, lean ===== -/
def stq (a : AS) (k s : Nat) : Nat := sF (fun p => if bt s p = 1 then a (9 + p) else 0) 0 k
theorem stq_sts (r : AR) (a : AS) (s : Nat) : stq a (r 0 1) s = sts r a s := rfl
theorem bt_top : ∀ n, n < 6 → ∀ x, x < 2 ^ n → bt x n = 0 ∧ bt (x + 2 ^ n) n = 1 ∧ ∀ j, j < n → bt (x + 2 ^ n) j = bt x j := by decide +kernel
theorem stq_lo {a : AS} {k s : Nat} (hk : k < 6) (hs : s < 2 ^ k) : stq a (k + 1) s = stq a k s := by
  unfold stq
  rw [sF_add _ k 1 0, Nat.zero_add, sF, sF, (bt_top k hk s hs).1, if_neg (by decide)]
  rfl
theorem stq_hi {a : AS} {k s : Nat} (hk : k < 6) (hs : s < 2 ^ k) : stq a (k + 1) (s + 2 ^ k) = stq a k s + a (9 + k) := by
  obtain ⟨-, h1, h2⟩ := bt_top k hk s hs
  unfold stq
  rw [sF_add _ k 1 0, Nat.zero_add, sF, sF, h1, if_pos rfl, sF_congr k 0 (g := fun p => if bt s p = 1 then a (9 + p) else 0) (fun j _ hj => by rw [h2 j (by omega)])]
  rfl
def mj (r : AR) (a : AS) (s : Nat) : Bool := decide (alls r a < 2 * sts r a s)
section AS
variable {σ : FH} {r : AR} {a : AS}
/-- the sums of so many parties lie there -/
def MT (σ : FH) (a : AS) (k : Nat) : Prop := σ.1 5 1 = nI (2 ^ k) ∧ ∀ s, s < 2 ^ k → σ.1 6 s = nI (stq a k s)
theorem pw_le {k : Nat} (h : k ≤ 5) : 2 ^ k ≤ 32 := Nat.pow_le_pow_right (by decide) h
theorem x_meet_in {q : Nat} (hq : q ≤ 5) {k : Nat} (hk : k < q) (K : FH → Option FH) (σ1 : FH) (g1 : agr (fun b => b = 5 ∨ b = 6) σ σ1) (hs : SX σ 7 a) (hm : MT σ1 a k) : ∃ σ2, fX0_meet_27 9 5 (nI k) K FU 0 σ1 = K σ2 ∧ agr (fun b => b = 5 ∨ b = 6) σ σ2 ∧ σ2.1 5 1 = nI (2 ^ k) ∧ ∀ s, s < 2 ^ (k + 1) → σ2.1 6 s = nI (stq a (k + 1) s) := by
  have hp := pw_le (k := k) (by omega)
  have hp2 : 2 ^ (k + 1) ≤ 32 := pw_le (by omega)
  have hpp : 2 ^ (k + 1) = 2 ^ k + 2 ^ k := by rw [Nat.pow_succ]; omega
  let f : Nat → FH → FH := fun i τ => fx_si τ 6 (i + 2 ^ k) (nI (stq a (k + 1) (i + 2 ^ k)))
  let Inv : Nat → FH → Prop := fun i τ => agr (fun b => b = 5 ∨ b = 6) σ τ ∧ τ.1 5 1 = nI (2 ^ k) ∧ ∀ s, s < 2 ^ k + i → τ.1 6 s = nI (stq a (k + 1) s)
  have hstep : ∀ (b : FH) (i : Nat), i < 2 ^ k → Inv i b → Inv (i + 1) (f i b) := by
    intro b i hi ⟨q1, q2, q3⟩
    refine ⟨agr_sit (by omega) q1, by rw [fx_si_o (by decide)]; exact q2, fun s hs => ?_⟩
    show (fx_si b 6 (i + 2 ^ k) (nI (stq a (k + 1) (i + 2 ^ k)))).1 6 s = _
    rw [si1]
    by_cases c : s = i + 2 ^ k
    · rw [if_pos ⟨rfl, c⟩, c]
    · rw [if_neg (by omega)]; exact q3 s (by omega)
  have h0 : Inv 0 σ1 := ⟨g1, hm.1, fun s hs => by rw [hm.2 s (by omega), stq_lo (by omega) (by omega)]⟩
  have := loopP (F := fun n τ i => fX0_meet_27 9 5 (nI k) K n (nI i) τ) (K := K) (f := f) (N := 2 ^ k) (Inv := Inv) (fun n b hb => by rw [fX0_meet_27, hb.2.1, if_pos (le_yes (by omega))]) (fun n b i hi hv => ⟨by
    have h9 : b.1 9 k = nI (a (9 + k)) := by rw [hv.1.1 9 (by omega)]; exact hs.2.2.2.2.2 k (by omega)
    rw [fX0_meet_27, hv.2.1, if_neg (le_no hi (by omega)), fxG_t (fx_inN (by omega) (by decide)), fxG_t (fx_inN (by omega) (by decide)), nI_add, fxG_t (fx_inN (by omega) (by decide)), fx_clN (by omega), fx_clN (by omega), fx_clN (by omega), hv.2.2 i (by omega), h9, nI_add, fxL_r, nI_1, stq_lo (by omega) hi]
    show _ = fX0_meet_27 9 5 (nI k) K n (nI (i + 1)) (fx_si b 6 (i + 2 ^ k) (nI (stq a (k + 1) (i + 2 ^ k))))
    rw [stq_hi (by omega) hi], hstep b i hi hv⟩) (2 ^ k) FU 0 σ1 (by omega) (by unfold FU; omega) h0
  have hI := itr_inv f Inv (2 ^ k) hstep (2 ^ k) 0 σ1 (by omega) h0
  refine ⟨_, this, hI.1, hI.2.1, fun s hs => hI.2.2 s (by omega)⟩
theorem dbl2 : ∀ k, k < 6 → nI (2 ^ k) * 2 = nI (2 ^ (k + 1)) := by decide +kernel
theorem x_meet_out {q : Nat} (hq : q ≤ 5) (K : FH → Option FH) (hs : SX σ 7 a) : ∀ (m n i : Nat) (σ1 : FH), i + m = q → m < n → agr (fun b => b = 5 ∨ b = 6) σ σ1 → MT σ1 a i → ∃ σ', fX0_meet_14 (nI q) 9 5 K n (nI i) σ1 = K σ' ∧ agr (fun b => b = 5 ∨ b = 6) σ σ' ∧ MT σ' a q
  | m, 0, i, σ1, _, h2, _, _ => absurd h2 (by omega)
  | 0, n + 1, i, σ1, h1, _, g1, m1 => by
    obtain rfl : i = q := by omega
    exact ⟨σ1, by rw [fX0_meet_14, if_pos (le_yes (by omega))], g1, m1⟩
  | m + 1, n + 1, i, σ1, h1, h2, g1, m1 => by
    obtain ⟨σ2, e2, g2, c2, s2⟩ := x_meet_in hq (k := i) (by omega) (fun σ15 => fxL (fx_si σ15 5 1 ((σ15.1 5 1) * 2)) <| fun σ16 => fX0_meet_14 (nI q) 9 5 K n (nI i + 1) σ16) σ1 g1 hs m1
    obtain ⟨σ', e', g', m'⟩ := x_meet_out hq K hs m n (i + 1) (fx_si σ2 5 1 (nI (2 ^ (i + 1)))) (by omega) (by omega) (agr_sit (by omega) g2) ⟨by rw [si1, if_pos ⟨rfl, rfl⟩], fun s hs => by rw [fx_si_o (by decide)]; exact s2 s hs⟩
    refine ⟨σ', ?_, g', m'⟩
    have c5 : ¬ (5 : Int32) ≤ nI i := le_no (b := 5) (by omega) (by decide)
    rw [fX0_meet_14, if_neg (le_no (by omega) (by omega)), if_neg c5, fxL_r]
    refine e2.trans ?_
    rw [c2, dbl2 i (by omega), fxL_r, nI_1]
    exact e'
theorem ones_top : ∀ k, k < 6 → ∀ p, p < k → bt (2 ^ k - 1) p = 1 := by decide +kernel
theorem sts_top {q : Nat} (hq : r 0 1 = q) (h5 : q ≤ 5) : stq a q (2 ^ q - 1) = alls r a := by
  unfold stq alls
  rw [hq]
  exact sF_congr _ _ (fun p _ hp => by rw [ones_top q (by omega) p (by omega), if_pos rfl])
theorem x_meet (h : RX σ (σ.2.2 2) r) (hb : RB r) (hs : SX σ 7 a) : ∃ σ', fX0_meet (σ.1 (σ.2.2 2) 5) 9 5 σ = some σ' ∧ agr (fun b => b = 5 ∨ b = 6) σ σ' ∧ MT σ' a (r 0 1) ∧ σ'.1 5 2 = nI (alls r a) := by
  have h5 := hb.2.1
  have hp := pw_le h5
  have hp1 : 1 ≤ 2 ^ r 0 1 := Nat.one_le_two_pow
  unfold fX0_meet
  rw [fxG_t (show LX[9]? = some (20, 5) from rfl), fxG_t (by decide), cl0, fxL_r, fxL_r, fxL_r, h.2.2.1]
  obtain ⟨σ', e', g', m'⟩ := x_meet_out (σ := σ) h5 (fun σ5 => fxG (fx_in ((σ5.1 5 1) - 1) 32 = true) <| fxL (fx_si σ5 5 2 (σ5.1 6 (Int32.toNatClampNeg ((σ5.1 5 1) - 1)))) <| fun σ7 => some σ7) hs (r 0 1) FU 0 (fx_si (fx_si σ 6 0 0) 5 1 1) (by omega) (by unfold FU; omega) (agr_sit (by omega) (agr_si (by omega))) ⟨by rw [si1, if_pos ⟨rfl, rfl⟩]; rfl, fun s hs => by
    have : s = 0 := by simp at hs; omega
    subst this
    rw [fx_si_o (by decide), si1, if_pos ⟨rfl, rfl⟩]; rfl⟩
  refine ⟨fx_si σ' 5 2 (nI (alls r a)), ?_, agr_sit (by omega) g', ⟨by rw [si1, if_neg (by omega)]; exact m'.1, fun s hs => by rw [fx_si_o (by decide)]; exact m'.2 s hs⟩, by rw [si1, if_pos ⟨rfl, rfl⟩]⟩
  refine e'.trans ?_
  rw [m'.1, nI_m1 (by omega), fxG_t (fx_inN (by omega) (by decide)), fx_clN (by omega), m'.2 _ (by omega), sts_top rfl h5, fxL_r]
/-- what a meeting leaves -/
def MS (σ : FH) (r : AR) (a : AS) : Prop := σ.1 5 1 = nI (2 ^ r 0 1) ∧ (∀ s, s < 2 ^ r 0 1 → σ.1 6 s = nI (sts r a s)) ∧ σ.1 5 2 = nI (alls r a)
theorem sts_le (hb : RB r) (hsb : ∀ p, p < r 0 1 → a (9 + p) ≤ 99) (s : Nat) : sts r a s ≤ 495 := by
  have h1 := sF_le (f := fun p => if bt s p = 1 then a (9 + p) else 0) (b := 99) (r 0 1) 0 (fun k _ hk => by
    have := hsb k (by omega)
    split <;> omega)
  have h3 : r 0 1 * 99 ≤ 5 * 99 := Nat.mul_le_mul_right _ hb.2.1
  exact Nat.le_trans h1 h3
theorem x_isMaj {n : Nat} (hm : MS σ r a) (hb : RB r) (hsb : SB r a n) {s : Nat} (hs : s < 2 ^ r 0 1) : fX0_isMajority (nI s) σ = some (bI (mj r a s)) := by
  have hp := pw_le hb.2.1
  have h1 := sts_le hb hsb.2.2.2.2.2.1 s
  have h2 := alls_le hb hsb
  have c : ¬ (32 : Int32) ≤ nI s := le_no (b := 32) (by omega) (by decide)
  unfold fX0_isMajority mj
  rw [if_neg (nI_pos (by omega)), if_neg c, fxG_t (fx_inN (by omega) (by decide)), fx_clN (by omega), hm.2.1 s hs, hm.2.2, show (2 : Int32) * nI (sts r a s) = nI (2 * sts r a s) from pk_mul 2 _]
  by_cases q : alls r a < 2 * sts r a s
  · rw [if_neg (le_no q (by omega)), decide_eq_true q]; rfl
  · rw [if_pos (nI_le (by omega) (by omega)), decide_eq_false q]; rfl
theorem m_isMore {n : Nat} (h : RM σ 0 r) (hb : RB r) (hs : SM σ 33 0 a) (hsb : SB r a n) {s : Nat} (hs6 : s < 64) : fX12_isMore (nI s) σ = some (bI (mj r a s)) := by
  have h1 := sts_le hb hsb.2.2.2.2.2.1 s
  have h2 := alls_le hb hsb
  unfold fX12_isMore mj
  rw [m_seatsOf h hb hs hs6, fxBP_s, m_allSeats h hb hs, fxBP_s, fxL_r, show (2 : Int32) * nI (sts r a s) = nI (2 * sts r a s) from pk_mul 2 _]
  by_cases q : alls r a < 2 * sts r a s
  · rw [if_neg (le_no q (by omega)), decide_eq_true q]; rfl
  · rw [if_pos (nI_le (by omega) (by omega)), decide_eq_false q]; rfl
theorem shl1 : ∀ q, q < 7 → (1 : Int32) <<< (nI q &&& 31) = nI (2 ^ q) := by decide +kernel
def wyC (r : AR) (a : AS) (w : Nat) : Nat := sF (fun s => if sts r a s = w then 1 else 0) 0 (2 ^ r 0 1)
theorem x_setsOf (hm : MS σ r a) (hb : RB r) (hsb : ∀ p, p < r 0 1 → a (9 + p) ≤ 99) {w : Nat} (hw : w ≤ 200) : fX0_setsOf (nI w) σ = some (nI (wyC r a w)) := by
  have hp := pw_le hb.2.1
  unfold fX0_setsOf
  rw [fxL_r]
  have := loopP (F := fun n b i => fX0_setsOf_4 (nI w) σ (fun x => some x) n (nI b) (nI i)) (K := fun b => some (nI b)) (f := fun s b => b + if sts r a s = w then 1 else 0) (N := 2 ^ r 0 1) (Inv := fun _ _ => True) (fun n b _ => by rw [fX0_setsOf_4, hm.1, if_pos (le_yes (by omega))]) (fun n b i hi _ => ⟨by
    have h1 := sts_le hb hsb i
    rw [fX0_setsOf_4, hm.1, if_neg (le_no hi (by omega)), fxG_t (fx_inN (by omega) (by decide)), fx_clN (by omega), hm.2.1 i hi, fxL_r, nI_1, nI_1]
    by_cases c : sts r a i = w
    · rw [if_pos (by rw [c]), if_pos c]
    · rw [if_neg (fun q => c (nI_inj (by omega) (by omega) q)), if_neg c]; rfl, trivial⟩) (2 ^ r 0 1) FU 0 0 (by omega) (by unfold FU; omega) trivial
  rw [itr_sum, Nat.zero_add] at this
  exact this
theorem m_ways (h : RM σ 0 r) (hb : RB r) (hs : SM σ 33 0 a) (hsb : ∀ p, p < r 0 1 → a (9 + p) ≤ 99) {w : Nat} (hw : w ≤ 200) (K : Int32 → Option (Int32 × FH)) : fX12_ways_22 (nI w) σ K FU 0 0 = K (nI (wyC r a w)) := by
  have h5 := hb.2.1
  have hp := pw_le hb.2.1
  have := loopP (F := fun n b i => fX12_ways_22 (nI w) σ K n (nI b) (nI i)) (K := fun b => K (nI b)) (f := fun s b => b + if sts r a s = w then 1 else 0) (N := 2 ^ r 0 1) (Inv := fun _ _ => True) (fun n b _ => by rw [fX12_ways_22, fxG_t (by decide), cl1, rm_q h, shl1 _ (by omega), if_pos (le_yes (by omega))]) (fun n b i hi _ => ⟨by
    have h1 := sts_le hb hsb i
    rw [fX12_ways_22, fxG_t (by decide), cl1, rm_q h, shl1 _ (by omega), if_neg (le_no hi (by omega)), m_seatsOf h hb hs (by omega), fxBP_s, fxL_r, fxL_r, nI_1]
    by_cases c : sts r a i = w
    · rw [if_pos (by rw [c]), if_pos c, nI_1]
    · rw [if_neg (fun q => c (nI_inj (by omega) (by omega) q)), if_neg c, Int32.add_zero]; rfl, trivial⟩) (2 ^ r 0 1) FU 0 0 (by omega) (by unfold FU; omega) trivial
  rw [itr_sum, Nat.zero_add] at this
  exact this
def pvB (r : AR) (a : AS) (p s : Nat) : Bool := decide (bt s p = 0) && !(mj r a s) && mj r a (s ||| 2 ^ p)
def pvC (r : AR) (a : AS) (p : Nat) : Nat := sF (fun s => if pvB r a p s then 1 else 0) 0 (2 ^ r 0 1)
theorem andB : ∀ s, s < 32 → ∀ p, p < 5 → ((nI s &&& nI (2 ^ p) = 0) ↔ bt s p = 0) ∧ (nI s ||| nI (2 ^ p)) = nI (s ||| 2 ^ p) := by decide +kernel
theorem orLt : ∀ q, q < 6 → ∀ s, s < 2 ^ q → ∀ p, p < q → s ||| 2 ^ p < 2 ^ q := by decide +kernel
theorem x_turnsBy {n : Nat} (hm : MS σ r a) (hb : RB r) (hsb : SB r a n) {p : Nat} (hpq : p < r 0 1) : fX0_turnsBy (nI p) σ = some (nI (pvC r a p)) := by
  have h5 := hb.2.1
  have hp := pw_le hb.2.1
  unfold fX0_turnsBy
  rw [shl1 p (by omega), fxL_r, fxL_r]
  have := loopP (F := fun n b i => fX0_turnsBy_9 σ (nI (2 ^ p)) (fun x => some x) n (nI b) (nI i)) (K := fun b => some (nI b)) (f := fun s b => b + if pvB r a p s then 1 else 0) (N := 2 ^ r 0 1) (Inv := fun _ _ => True) (fun n b _ => by rw [fX0_turnsBy_9, hm.1, if_pos (le_yes (by omega))]) (fun n b i hi _ => ⟨by
    have hab := andB i (by omega) p (by omega)
    rw [fX0_turnsBy_9, hm.1, if_neg (le_no hi (by omega)), nI_1, nI_1]
    unfold pvB
    by_cases c : bt i p = 0
    · rw [if_pos (hab.1.mpr c), x_isMaj hm hb hsb hi, fxBP_s, decide_eq_true c]
      cases q : mj r a i with
      | true => rw [if_neg (by decide)]; rfl
      | false =>
        rw [if_pos (by decide), hab.2, x_isMaj hm hb hsb (orLt _ (by omega) i hi p hpq), fxBP_s]
        cases mj r a (i ||| 2 ^ p) <;> rfl
    · rw [if_neg (fun z => c (hab.1.mp z)), decide_eq_false c]; rfl, trivial⟩) (2 ^ r 0 1) FU 0 0 (by omega) (by unfold FU; omega) trivial
  rw [itr_sum, Nat.zero_add] at this
  exact this
theorem m_pivotsOf {n : Nat} (h : RM σ 0 r) (hb : RB r) (hs : SM σ 33 0 a) (hsb : SB r a n) {p : Nat} (hpq : p < r 0 1) : fX12_pivotsOf (nI p) σ = some (nI (pvC r a p)) := by
  have h5 := hb.2.1
  have hp := pw_le hb.2.1
  unfold fX12_pivotsOf
  rw [fxL_r]
  have := loopP (F := fun n b i => fX12_pivotsOf_4 (nI p) σ (fun x => some x) n (nI b) (nI i)) (K := fun b => some (nI b)) (f := fun s b => b + if pvB r a p s then 1 else 0) (N := 2 ^ r 0 1) (Inv := fun _ _ => True) (fun n b _ => by rw [fX12_pivotsOf_4, fxG_t (by decide), cl1, rm_q h, shl1 _ (by omega), if_pos (le_yes (by omega))]) (fun n b i hi _ => ⟨by
    have hab := andB i (by omega) p (by omega)
    rw [fX12_pivotsOf_4, fxG_t (by decide), cl1, rm_q h, shl1 _ (by omega), if_neg (le_no hi (by omega)), nI_1, nI_1, shl1 p (by omega), bitN i (by omega) p (by omega), Int32.add_zero]
    unfold pvB
    by_cases c : bt i p = 0
    · rw [c, if_pos (by decide), m_isMore h hb hs hsb (by omega), fxBP_s]
      cases q : mj r a i with
      | true => rw [if_neg (by decide)]; rfl
      | false =>
        have ho := orLt _ (by omega) i hi p hpq
        rw [if_pos (by decide), hab.2, m_isMore h hb hs hsb (by omega), fxBP_s]
        cases mj r a (i ||| 2 ^ p) <;> rfl
    · have hb1 : bt i p = 1 := by have := bt_lt i p; omega
      rw [hb1, if_neg (by decide)]; rfl, trivial⟩) (2 ^ r 0 1) FU 0 0 (by omega) (by unfold FU; omega) trivial
  rw [itr_sum, Nat.zero_add] at this
  exact this
end AS
