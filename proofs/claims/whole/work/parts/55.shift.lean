/-! ===== shift ===== -/
def ff {β : Type} (P : Nat → Option β) : Nat → Nat → Option β
  | 0, _ => none
  | m + 1, i => match P i with
    | some b => some b
    | none => ff P m (i + 1)
theorem ff_s {β : Type} (P : Nat → Option β) (m i : Nat) : ff P (m + 1) i = (match P i with | some b => some b | none => ff P m (i + 1)) := by rw [ff]
theorem ff_add {β : Type} (P : Nat → Option β) : ∀ (m n i : Nat), ff P (m + n) i = (match ff P m i with | some b => some b | none => ff P n (i + m))
  | 0, n, i => by simp [ff]
  | m + 1, n, i => by
    rw [show m + 1 + n = (m + n) + 1 by omega, ff, ff]
    cases P i with
    | some b => rfl
    | none =>
      simp only
      rw [ff_add P m n (i + 1), show i + 1 + m = i + (m + 1) by omega]
theorem ff_congr {β : Type} {P Q : Nat → Option β} : ∀ (m i : Nat), (∀ k, i ≤ k → k < i + m → P k = Q k) → ff P m i = ff Q m i
  | 0, i, _ => rfl
  | m + 1, i, h => by rw [ff, ff, h i (by omega) (by omega), ff_congr m (i + 1) (fun k h1 h2 => h k (by omega) (by omega))]
theorem ff_none {β : Type} {P : Nat → Option β} : ∀ (m i : Nat), (∀ k, i ≤ k → k < i + m → P k = none) → ff P m i = none
  | 0, i, _ => rfl
  | m + 1, i, h => by rw [ff, h i (by omega) (by omega)]; exact ff_none m (i + 1) (fun k h1 h2 => h k (by omega) (by omega))
theorem ff_trunc {β : Type} {P : Nat → Option β} {q N : Nat} (hq : q ≤ N) (h : ∀ k, q ≤ k → P k = none) : ff P N 0 = ff P q 0 := by
  rw [show N = q + (N - q) by omega, ff_add, Nat.zero_add, ff_none (N - q) q (fun k h1 _ => h k h1)]
  cases ff P q 0 <;> rfl
theorem ff_shift {β : Type} (g : Nat → Nat → Option β) (i : Nat) : ∀ (m c : Nat), c + m ≤ 5 → ff (fun k => g (k / 5) (k % 5)) m (5 * i + c) = ff (g i) m c
  | 0, c, _ => rfl
  | m + 1, c, h => by
    rw [ff, ff, show (5 * i + c) / 5 = i by omega, show (5 * i + c) % 5 = c by omega, show 5 * i + c + 1 = 5 * i + (c + 1) by omega, ff_shift g i m (c + 1) (by omega)]
theorem ff_blocks {β : Type} (g : Nat → Nat → Option β) : ∀ (n i : Nat), ff (fun k => g (k / 5) (k % 5)) (5 * n) (5 * i) = ff (fun p => ff (g p) 5 0) n i
  | 0, i => rfl
  | n + 1, i => by
    have := ff_shift g i 5 0 (by omega)
    rw [Nat.add_zero] at this
    rw [show 5 * (n + 1) = 5 + 5 * n by omega, ff_add, show 5 * i + 5 = 5 * (i + 1) by omega, ff_blocks g n (i + 1), this]
    rfl
/-- sums with a seat changed -/
theorem sF_upd {f g : Nat → Nat} {k : Nat} : ∀ (m i : Nat), i ≤ k → k < i + m → (∀ x, x ≠ k → g x = f x) → sF g i m + f k = sF f i m + g k
  | 0, i, h1, h2, _ => absurd h2 (by omega)
  | m + 1, i, h1, h2, h => by
    simp only [sF]
    by_cases c : i = k
    · subst c
      have : sF g (i + 1) m = sF f (i + 1) m := sF_congr m (i + 1) (fun x h3 _ => h x (by omega))
      omega
    · have := sF_upd m (i + 1) (by omega) (by omega) h
      rw [h i c]
      omega
theorem ld_9 {a : AS} {p o s x : Nat} : ld a p o s (9 + x) = if x = o then a (9 + o) + s else if x = p then a (9 + p) - s else a (9 + x) := by
  unfold ld
  by_cases c : x = o
  · subst c; rw [upS_eq, if_pos rfl]
  · rw [upS_ne (by omega), if_neg c]
    by_cases c2 : x = p
    · subst c2; rw [upS_eq, if_pos rfl]
    · rw [upS_ne (by omega), if_neg c2]
theorem sum_ld {w : Nat → Nat} {a : AS} {p o s q : Nat} (hp : p < q) (ho : o < q) (hne : p ≠ o) (hs : s ≤ a (9 + p)) (hw : ∀ x, w x ≤ 1) : sF (fun x => w x * ld a p o s (9 + x)) 0 q + w p * s = sF (fun x => w x * a (9 + x)) 0 q + w o * s := by
  have h1 := sF_upd (f := fun x => w x * a (9 + x)) (g := fun x => if x = p then w p * (a (9 + p) - s) else w x * a (9 + x)) (k := p) q 0 (by omega) (by omega) (fun x hx => by simp only [if_neg hx])
  have h2 := sF_upd (f := fun x => if x = p then w p * (a (9 + p) - s) else w x * a (9 + x)) (g := fun x => w x * ld a p o s (9 + x)) (k := o) q 0 (by omega) (by omega) (fun x hx => by
    rw [ld_9, if_neg hx]
    by_cases c : x = p
    · subst c; rw [if_pos rfl, if_pos rfl]
    · rw [if_neg c, if_neg c])
  rw [if_pos rfl] at h1
  rw [if_neg (Ne.symm hne), ld_9, if_pos rfl] at h2
  have e1 : w p * (a (9 + p) - s) + w p * s = w p * a (9 + p) := by rw [← Nat.mul_add]; congr 1; omega
  have e2 : w o * (a (9 + o) + s) = w o * a (9 + o) + w o * s := Nat.mul_add _ _ _
  omega
theorem crd_le (v s : Nat) : crd v s ≤ 2 := by
  unfold crd
  split
  · omega
  · split <;> omega
theorem vts_w (r : AR) (a : AS) (j : Nat) : vts r a j = sF (fun x => bt (r 5 x) j * a (9 + x)) 0 (r 0 1) := sF_congr _ _ (fun x _ _ => by
  have := bt_lt (r 5 x) j
  by_cases c : bt (r 5 x) j = 1
  · rw [if_pos c, c, Nat.one_mul]
  · rw [if_neg c, show bt (r 5 x) j = 0 by omega, Nat.zero_mul])
theorem alls_w (r : AR) (a : AS) : alls r a = sF (fun x => 1 * a (9 + x)) 0 (r 0 1) := sF_congr _ _ (fun x _ _ => (Nat.one_mul _).symm)
section SH
variable {σ : FH} {T : Nat} {r : AR} {a : AS} {n : Nat}
theorem vts_ld {p o s j : Nat} (hp : p < r 0 1) (ho : o < r 0 1) (hc : canL a p o s = true) : vts r (ld a p o s) j + bt (r 5 p) j * s = vts r a j + bt (r 5 o) j * s := by
  have hc := of_decide_eq_true hc
  rw [vts_w, vts_w]
  exact sum_ld hp ho hc.1 hc.2.1 (fun x => by have := bt_lt (r 5 x) j; omega)
theorem alls_ld {p o s : Nat} (hp : p < r 0 1) (ho : o < r 0 1) (hc : canL a p o s = true) : alls r (ld a p o s) = alls r a := by
  have hc := of_decide_eq_true hc
  have := sum_ld (w := fun _ => 1) hp ho hc.1 hc.2.1 (fun _ => Nat.le_refl 1)
  rw [alls_w, alls_w]
  omega
theorem vts_ge {p j : Nat} (hp : p < r 0 1) : bt (r 5 p) j * a (9 + p) ≤ vts r a j := by
  rw [vts_w]
  have : ∀ m i, i ≤ p → p < i + m → bt (r 5 p) j * a (9 + p) ≤ sF (fun x => bt (r 5 x) j * a (9 + x)) i m := by
    intro m
    induction m with
    | zero => intro i h1 h2; omega
    | succ m ih =>
      intro i h1 h2
      simp only [sF]
      by_cases c : i = p
      · subst c; omega
      · have := ih (i + 1) (by omega) (by omega); omega
  exact this _ 0 (by omega) (by omega)
/-- lent so, it is just halved -/
def hvd (r : AR) (a : AS) (j s p o : Nat) : Bool := decide (p < r 0 1 ∧ o < r 0 1) && canL a p o s && decide (crd (vts r (ld a p o s) j) (alls r a) = 1)
theorem x_would (h : RX σ T r) (hb : RB r) (hs : SX σ 7 a) (hsb : SB r a n) {j s p o : Nat} (hj : j < 6) (hs20 : s ≤ 20) (hp : p < r 0 1) (ho : o < r 0 1) : fX7_wouldHalve 7 T (nI j) (nI p) (nI o) (nI s) σ = some (bI (hvd r a j s p o)) := by
  have h99 := hsb.2.2.2.2.2.1
  have hvl := vts_le hb h99 j
  have hal := alls_le hb hsb
  unfold fX7_wouldHalve
  rw [fxG_t hs.1, fxG_t h.1, x_canLend h hb hs h99 hp ho hs20, fxBP_s]
  unfold hvd
  rw [decide_eq_true ⟨hp, ho⟩]
  cases hc : canL a p o s with
  | false => rw [if_neg (show ¬ false = true by decide), if_pos rfl]; rfl
  | true =>
    have e1 := vts_ld (j := j) hp ho hc
    have hv := vts_ge (r := r) (a := a) (j := j) hp
    have hc' := of_decide_eq_true hc
    have b1 := bt_lt (r 5 p) j
    have b2 := bt_lt (r 5 o) j
    rw [if_pos rfl, if_neg (show ¬ (1 : Int32) = 0 by decide), x_votesFor h hb hs h99 hj, fxBP_s, x_isFor h hb hp hj, fxBP_s, fxL_r, x_isFor h hb ho hj, fxBP_s, fxL_r, x_allSeats hs hb hsb, fxBP_s]
    have e2 : (if nI (bt (r 5 p) j) = 0 then nI (vts r a j) else nI (vts r a j) - nI s) = nI (vts r a j - bt (r 5 p) j * s) := by
      rcases (show bt (r 5 p) j = 0 ∨ bt (r 5 p) j = 1 by omega) with q | q
      · rw [q, if_pos (by decide), Nat.zero_mul, Nat.sub_zero]
      · rw [q, Nat.one_mul] at hv
        rw [q, if_neg (by decide), Nat.one_mul, pk_sub (by omega)]
    rw [e2]
    have e3 : (if nI (bt (r 5 o) j) = 0 then nI (vts r a j - bt (r 5 p) j * s) else nI (vts r a j - bt (r 5 p) j * s) + nI s) = nI (vts r (ld a p o s) j) := by
      have hle : bt (r 5 p) j * s ≤ vts r a j := Nat.le_trans (Nat.mul_le_mul_left _ hc'.2.1) hv
      rcases (show bt (r 5 o) j = 0 ∨ bt (r 5 o) j = 1 by omega) with q | q
      · rw [q, Nat.zero_mul] at e1
        rw [q, if_pos (by decide)]
        congr 1; omega
      · rw [q, Nat.one_mul] at e1
        rw [q, if_neg (by decide), nI_add]
        congr 1; omega
    rw [e3, x_standing (by
      have : bt (r 5 o) j * s ≤ 1 * s := Nat.mul_le_mul_right _ (by omega)
      omega) (by omega), fxBP_s, fxL_r]
    have hcl : crd (vts r (ld a p o s) j) (alls r a) ≤ 2 := crd_le _ _
    by_cases c : crd (vts r (ld a p o s) j) (alls r a) = 1
    · rw [c, if_pos (by decide), fxG_t (by decide)]; rfl
    · rw [if_neg (show ¬ nI (crd (vts r (ld a p o s) j) (alls r a)) = 1 from fun q => c (nI_inj (b := 1) (by omega) (by decide) q)), fxG_t (by decide), decide_eq_false c]; rfl
theorem ld_ld {p o s : Nat} (hc : canL a p o s = true) : ld (ld a p o s) o p s = a := by
  have hc := of_decide_eq_true hc
  funext k
  unfold ld
  by_cases c1 : k = 9 + p
  · subst c1
    rw [upS_eq, upS_ne (by omega), upS_eq]; omega
  · rw [upS_ne c1]
    by_cases c2 : k = 9 + o
    · subst c2
      rw [upS_eq, upS_eq]; omega
    · rw [upS_ne c2, upS_ne c2, upS_ne c1]
theorem RM_33 {σ σ' : FH} {r : AR} (h : RM σ 0 r) (g : agr (fun b => b = 33) σ σ') : RM σ' 0 r := RM_agrM h (agrM_33 g)
theorem m_halvedBy (h : RM σ 0 r) (hb : RB r) (hs : SM σ 33 0 a) (hsb : SB r a n) {j s p o : Nat} (hj : j < 6) (hs20 : s ≤ 20) (hp : p < 5) (ho : o < 5) : ∃ σ', fX12_isHalvedBy (nI j) (nI p) (nI o) (nI s) σ = some (bI (hvd r a j s p o), σ') ∧ SM σ' 33 0 a ∧ agr (fun b => b = 33) σ σ' := by
  have h5 := hb.2.1
  have h99 := hsb.2.2.2.2.2.1
  unfold fX12_isHalvedBy hvd
  by_cases cp : p < r 0 1
  · rw [m_isParty_in h hb cp, fxBP_s, if_neg (by decide)]
    by_cases co : o < r 0 1
    · rw [m_isParty_in h hb co, fxBP_s, if_neg (by decide), m_canLend h hb hs h99 cp co hs20, fxBP_s, decide_eq_true ⟨cp, co⟩]
      cases hc : canL a p o s with
      | false => exact ⟨σ, by rw [if_neg (show ¬ false = true by decide), if_pos rfl]; rfl, hs, agr_rf _ _⟩
      | true =>
        rw [if_pos rfl, if_neg (show ¬ (1 : Int32) = 0 by decide)]
        obtain ⟨σ2, e2, s2, g2⟩ := m_lends hs hp ho hc
        have hc' := of_decide_eq_true hc
        have hc2 : canL (ld a p o s) o p s = true := by
          have h1 : ld a p o s (9 + o) = a (9 + o) + s := by rw [ld_9, if_pos rfl]
          have h2 : ld a p o s (9 + p) = a (9 + p) - s := by rw [ld_9, if_neg hc'.1, if_pos rfl]
          have := h99 p cp
          unfold canL
          rw [h1, h2]
          exact decide_eq_true ⟨Ne.symm hc'.1, by omega, by omega⟩
        obtain ⟨σ3, e3, s3, g3⟩ := m_lends s2 ho hp hc2
        have hsb2 := SB_ld hb hsb cp co hc
        rw [ld_ld hc] at s3
        refine ⟨σ3, ?_, s3, agr_tr g2 g3⟩
        rw [e2, fxBV_s, m_carriedOf (RM_33 h g2) hb s2 hsb2 hj, fxBP_s, fxL_r, e3, fxBV_s, alls_ld cp co hc]
        have hcl : crd (vts r (ld a p o s) j) (alls r a) ≤ 2 := crd_le _ _
        by_cases c : crd (vts r (ld a p o s) j) (alls r a) = 1
        · rw [c, if_pos (by decide), fxG_t (by decide)]; rfl
        · rw [if_neg (show ¬ nI (crd (vts r (ld a p o s) j) (alls r a)) = 1 from fun q => c (nI_inj (b := 1) (by omega) (by decide) q)), fxG_t (by decide), decide_eq_false c]; rfl
    · exact ⟨σ, by rw [m_isParty_out h (Or.inr (nI_le (by omega) (by omega))), fxBP_s, if_pos rfl, decide_eq_false (fun q => co q.2)]; rfl, hs, agr_rf _ _⟩
  · exact ⟨σ, by rw [m_isParty_out h (Or.inr (nI_le (by omega) (by omega))), fxBP_s, if_pos rfl, decide_eq_false (fun q => cp q.1)]; rfl, hs, agr_rf _ _⟩
/-- which is found -/
def sh1 (r : AR) (a : AS) (j s p o : Nat) : Option (Nat × Nat × Nat) := if hvd r a j s p o then some (s, p, o) else none
def pick (y : Int32) (z : Nat × Nat × Nat) : Int32 := if y = 0 then nI z.1 else if y = 1 then nI z.2.1 else nI z.2.2
theorem x_sh85 (h : RX σ (σ.2.2 2) r) (hb : RB r) (hs : SX σ 7 a) (hsb : SB r a n) {j s p : Nat} (hj : j < 6) (hs20 : s ≤ 20) (hp : p < r 0 1) (y : Int32) (K : Option Int32) : ∀ (m k i : Nat), i + m = r 0 1 → m < k → fX11_shift_85 (nI j) y σ (nI s) (nI p) K k (nI i) = (match ff (sh1 r a j s p) m i with | some z => some (pick y z) | none => K)
  | m, 0, i, _, h2 => absurd h2 (by omega)
  | 0, k + 1, i, h1, _ => by
    obtain rfl : i = r 0 1 := by omega
    have h5 := hb.2.1
    rw [fX11_shift_85, fxG_t h.1, h.2.2.1, if_pos (le_yes (by omega))]; rfl
  | m + 1, k + 1, i, h1, h2 => by
    have h5 := hb.2.1
    rw [fX11_shift_85, fxG_t h.1, h.2.2.1, if_neg (le_no (by omega) (by omega)), fxG_t h.1, x_would h hb hs hsb hj hs20 hp (by omega : i < r 0 1), fxBP_s, nI_1, x_sh85 h hb hs hsb hj hs20 hp y K m k (i + 1) (by omega) (by omega), fxL_r, ff]
    unfold sh1
    cases c : hvd r a j s p i <;> rfl
theorem x_sh70 (h : RX σ (σ.2.2 2) r) (hb : RB r) (hs : SX σ 7 a) (hsb : SB r a n) {j s : Nat} (hj : j < 6) (hs20 : s ≤ 20) (y : Int32) (K : Option Int32) : ∀ (m k i : Nat), i + m = r 0 1 → m < k → fX11_shift_70 (nI j) y σ (nI s) K k (nI i) = (match ff (fun p => ff (sh1 r a j s p) (r 0 1) 0) m i with | some z => some (pick y z) | none => K)
  | m, 0, i, _, h2 => absurd h2 (by omega)
  | 0, k + 1, i, h1, _ => by
    obtain rfl : i = r 0 1 := by omega
    have h5 := hb.2.1
    rw [fX11_shift_70, fxG_t h.1, h.2.2.1, if_pos (le_yes (by omega))]; rfl
  | m + 1, k + 1, i, h1, h2 => by
    have h5 := hb.2.1
    have hin := x_sh85 h hb hs hsb hj hs20 (by omega : i < r 0 1) y (fX11_shift_70 (nI j) y σ (nI s) K k (nI (i + 1))) (r 0 1) FU 0 (by omega) (by unfold FU; omega)
    rw [fX11_shift_70, fxG_t h.1, h.2.2.1, if_neg (le_no (by omega) (by omega)), fxL_r, nI_1, ff]
    refine hin.trans ?_
    rw [x_sh70 h hb hs hsb hj hs20 y K m k (i + 1) (by omega) (by omega)]
    cases ff (sh1 r a j s i) (r 0 1) 0 <;> rfl
theorem x_sh61 (h : RX σ (σ.2.2 2) r) (hb : RB r) (hs : SX σ 7 a) (hsb : SB r a n) {j : Nat} (hj : j < 6) (y : Int32) (K : Option Int32) : ∀ (m k i : Nat), i + m = 21 → m < k → fX11_shift_61 (nI j) y σ K k (nI i) = (match ff (fun s => ff (fun p => ff (sh1 r a j s p) (r 0 1) 0) (r 0 1) 0) m i with | some z => some (pick y z) | none => K)
  | m, 0, i, _, h2 => absurd h2 (by omega)
  | 0, k + 1, i, h1, _ => by
    obtain rfl : i = 21 := by omega
    rw [fX11_shift_61, if_pos (by decide)]; rfl
  | m + 1, k + 1, i, h1, h2 => by
    have h5 := hb.2.1
    have c20 : ¬ (20 : Int32) < nI i := by rw [show (20 : Int32) = nI 20 from rfl, nI_ltI (by omega) (by omega)]; omega
    have hin := x_sh70 h hb hs hsb hj (by omega : i ≤ 20) y (fX11_shift_61 (nI j) y σ K k (nI (i + 1))) (r 0 1) FU 0 (by omega) (by unfold FU; omega)
    rw [fX11_shift_61, if_neg c20, fxL_r, nI_1, ff]
    refine hin.trans ?_
    rw [x_sh61 h hb hs hsb hj y K m k (i + 1) (by omega) (by omega)]
    cases ff (fun p => ff (sh1 r a j i p) (r 0 1) 0) (r 0 1) 0 <;> rfl
theorem m_sh55 (h : RM σ 0 r) (hb : RB r) (hsb : SB r a n) {j s : Nat} (hj : j < 6) (hs20 : s ≤ 20) (y : Int32) (K : FH → Option (Int32 × FH)) : ∀ (m k i : Nat) (σ1 : FH), i + m = 25 → m < k → SM σ1 33 0 a → agr (fun b => b = 33) σ σ1 → ∃ σ', SM σ' 33 0 a ∧ agr (fun b => b = 33) σ σ' ∧ fX12_shift_55 (nI j) y (nI s) K k (nI i) σ1 = (match ff (fun k => sh1 r a j s (k / 5) (k % 5)) m i with | some z => some (pick y z, σ') | none => K σ')
  | m, 0, i, σ1, _, h2, _, _ => absurd h2 (by omega)
  | 0, k + 1, i, σ1, h1, _, s1, g1 => by
    obtain rfl : i = 25 := by omega
    exact ⟨σ1, s1, g1, by rw [fX12_shift_55, if_pos (by decide)]; rfl⟩
  | m + 1, k + 1, i, σ1, h1, h2, s1, g1 => by
    have c25 : ¬ (25 : Int32) ≤ nI i := le_no (b := 25) (by omega) (by decide)
    obtain ⟨σ2, e2, s2, g2⟩ := m_halvedBy (RM_33 h g1) hb s1 hsb hj hs20 (p := i / 5) (o := i % 5) (by omega) (by omega)
    have pre : fX12_shift_55 (nI j) y (nI s) K (k + 1) (nI i) σ1 = if bI (hvd r a j s (i / 5) (i % 5)) = 0 then fX12_shift_55 (nI j) y (nI s) K k (nI (i + 1)) σ2 else some (if y = 0 then nI s else if y = 1 then nI (i / 5) else nI (i % 5), σ2) := by
      rw [fX12_shift_55, if_neg c25, show nI i / 5 = nI (i / 5) from pk_div (d := 5) (by omega) (by decide) (by decide), fxL_r]
      rw [← show nI i / 5 = nI (i / 5) from pk_div (d := 5) (by omega) (by decide) (by decide), show nI i - nI i / 5 * 5 = nI (i % 5) from pk_rem (d := 5) (by omega) (by decide) (by decide), fxL_r, show nI i / 5 = nI (i / 5) from pk_div (d := 5) (by omega) (by decide) (by decide), e2, fxBI_s, nI_1, fxL_r]
    rw [pre, ff]
    unfold sh1
    cases c : hvd r a j s (i / 5) (i % 5) with
    | true => exact ⟨σ2, s2, agr_tr g1 g2, by rw [if_neg (by decide)]; rfl⟩
    | false =>
      obtain ⟨σ', s', g', e'⟩ := m_sh55 h hb hsb hj hs20 y K m k (i + 1) σ2 (by omega) (by omega) s2 (agr_tr g1 g2)
      refine ⟨σ', s', g', ?_⟩
      rw [if_pos (by decide), e']
      rfl
theorem m_sh46 (h : RM σ 0 r) (hb : RB r) (hsb : SB r a n) {j : Nat} (hj : j < 6) (y : Int32) (K : FH → Option (Int32 × FH)) : ∀ (m k i : Nat) (σ1 : FH), i + m = 21 → m < k → SM σ1 33 0 a → agr (fun b => b = 33) σ σ1 → ∃ σ', SM σ' 33 0 a ∧ agr (fun b => b = 33) σ σ' ∧ fX12_shift_46 (nI j) y K k (nI i) σ1 = (match ff (fun s => ff (fun k => sh1 r a j s (k / 5) (k % 5)) 25 0) m i with | some z => some (pick y z, σ') | none => K σ')
  | m, 0, i, σ1, _, h2, _, _ => absurd h2 (by omega)
  | 0, k + 1, i, σ1, h1, _, s1, g1 => by
    obtain rfl : i = 21 := by omega
    exact ⟨σ1, s1, g1, by rw [fX12_shift_46, if_pos (by decide)]; rfl⟩
  | m + 1, k + 1, i, σ1, h1, h2, s1, g1 => by
    have c21 : ¬ (21 : Int32) ≤ nI i := le_no (b := 21) (by omega) (by decide)
    obtain ⟨σ2, s2, g2, e2⟩ := m_sh55 h hb hsb hj (by omega : i ≤ 20) y (fun σ22 => fX12_shift_46 (nI j) y K k (nI (i + 1)) σ22) 25 FU 0 σ1 (by omega) (by decide) s1 g1
    obtain ⟨σ', s', g', e'⟩ := m_sh46 h hb hsb hj y K m k (i + 1) σ2 (by omega) (by omega) s2 g2
    have pre : fX12_shift_46 (nI j) y K (k + 1) (nI i) σ1 = (match ff (fun k => sh1 r a j i (k / 5) (k % 5)) 25 0 with | some z => some (pick y z, σ2) | none => fX12_shift_46 (nI j) y K k (nI (i + 1)) σ2) := by
      rw [fX12_shift_46, if_neg c21, fxL_r, nI_1]
      exact e2
    rw [pre, ff_s (fun s => ff (fun k => sh1 r a j s (k / 5) (k % 5)) 25 0) m i]
    cases c : ff (fun k => sh1 r a j i (k / 5) (k % 5)) 25 0 with
    | some z => exact ⟨σ2, s2, g2, rfl⟩
    | none =>
      refine ⟨σ', s', g', ?_⟩
      exact e'
end SH
theorem op_shift (x y : Int32) : OpP (fX11_shift x y) (fX12_shift x y) := by
  intro n σx σm hn h
  have h1 := Rel_th h
  unfold fX11_shift fX12_shift
  rw [fxL_r (fx_si σm 0 0 0)]
  generalize fx_si σm 0 0 0 = σ1 at h1 ⊢
  obtain ⟨r, ef, a, t, d, hA⟩ := id h1
  obtain ⟨hMV, hRB, hEB, hRX, hEX, hRM, hEM, hNX, hSX, hSM, hSB, -⟩ := id hA
  have hw := hRB.1
  have hq := hRB.2.1
  have h99 := hSB.2.2.2.2.2.1
  rw [fxG_t hRX.1]
  rcases pk_ix x (n := r 0 0) (by omega) with hx | hx | ⟨j, hj, rfl⟩
  · exact ⟨-2, σ1, by rw [x_hasWare_out hRX (Or.inl hx), fxBP_s, if_pos rfl], by rw [m_isWare_out hRM (Or.inl hx), fxBP_s, if_pos rfl], Rel_up h1 (by omega)⟩
  · exact ⟨-2, σ1, by rw [x_hasWare_out hRX (Or.inr hx), fxBP_s, if_pos rfl], by rw [m_isWare_out hRM (Or.inr hx), fxBP_s, if_pos rfl], Rel_up h1 (by omega)⟩
  · rw [x_hasWare_in hRX hRB hj, fxBP_s, if_neg (by decide : ¬ (1 : Int32) = 0), m_isWare_in hRM hRB hj, fxBP_s, if_neg (by decide : ¬ (1 : Int32) = 0)]
    rcases three y with hy | hy
    · refine ⟨-2, σ1, ?_, by rw [wi_f hy, fxBP_s, if_pos rfl], Rel_up h1 (by omega)⟩
      rcases hy with hy | hy
      · rw [if_pos hy]
      · by_cases c : y < 0
        · rw [if_pos c]
        · rw [if_neg c, if_neg (Int32.not_le.mpr hy)]
    · have hy0 : ¬ y < 0 := by rcases hy with rfl | rfl | rfl <;> decide
      have hy2 : y ≤ 2 := by rcases hy with rfl | rfl | rfl <;> decide
      have hvl := vts_le hRB h99 j
      have hal := alls_le hRB hSB
      rw [if_neg hy0, if_pos hy2, fxG_t hRX.1, x_votesFor hRX hRB hSX h99 (by omega), fxBP_s, x_allSeats hSX hRB hSB, fxBP_s, x_standing (by omega) (by omega), fxBP_s, wi_t hy0 (Int32.not_lt.mpr hy2), fxBP_s, if_neg (by decide : ¬ (1 : Int32) = 0), m_carriedOf hRM hRB hSM hSB (by omega), fxBP_s]
      have hcl : crd (vts r a j) (alls r a) ≤ 2 := crd_le _ _
      by_cases c : crd (vts r a j) (alls r a) = 1
      · rw [c, if_pos (show nI 1 = 1 from rfl), if_pos (show nI 1 = 1 from rfl), fxL_r, fxL_r]
        exact ⟨_, σ1, rfl, rfl, Rel_up h1 (by omega)⟩
      · have c1 : ¬ nI (crd (vts r a j) (alls r a)) = 1 := fun q => c (nI_inj (b := 1) (by omega) (by decide) q)
        rw [if_neg c1, if_neg c1, fxL_r, fxL_r]
        have ex := x_sh61 hRX hRB hSX hSB (j := j) (by omega) y (some (-2)) 20 FU 1 (by omega) (by decide)
        obtain ⟨σ', s', g', em⟩ := m_sh46 hRM hRB hSB (j := j) (by omega) y (fun σ15 => some ((-2), σ15)) 20 FU 1 σ1 (by omega) (by decide) hSM (agr_rf _ _)
        have key : ∀ s, ff (fun k => sh1 r a j s (k / 5) (k % 5)) 25 0 = ff (fun p => ff (sh1 r a j s p) (r 0 1) 0) (r 0 1) 0 := by
          intro s
          have hz : ∀ p o, r 0 1 ≤ p ∨ r 0 1 ≤ o → sh1 r a j s p o = none := by
            intro p o q
            unfold sh1 hvd
            rw [decide_eq_false (fun z => by omega)]
            rfl
          have e1 := ff_blocks (sh1 r a j s) 5 0
          refine e1.trans ?_
          rw [ff_trunc (P := fun p => ff (sh1 r a j s p) 5 0) (q := r 0 1) hq (fun p hp => ff_none 5 0 (fun k _ _ => hz p k (Or.inl hp)))]
          exact ff_congr _ _ (fun p _ _ => ff_trunc hq (fun o ho => hz p o (Or.inr ho)))
        have em2 : (fun s => ff (fun k => sh1 r a j s (k / 5) (k % 5)) 25 0) = fun s => ff (fun p => ff (sh1 r a j s p) (r 0 1) 0) (r 0 1) 0 := funext key
        rw [em2] at em
        have hrel : Rel (n + 1) σx σ' := ⟨r, ef, a, t, d, RelA_st hA (agr_rf _ _) (agS_33 g') hSX s' (SB_up hSB (by omega)) (by omega)⟩
        cases q : ff (fun s => ff (fun p => ff (sh1 r a j s p) (r 0 1) 0) (r 0 1) 0) 20 1 with
        | some z =>
          rw [q] at ex em
          exact ⟨pick y z, σ', ex, em, hrel⟩
        | none =>
          rw [q] at ex em
          exact ⟨-2, σ', ex, em, hrel⟩
