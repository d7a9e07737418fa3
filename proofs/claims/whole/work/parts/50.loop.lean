/-! ===== loops over a counter, in general; round, friends, bloc, orphans, rival ===== -/
def itr {β : Type} (f : Nat → β → β) : Nat → Nat → β → β
  | _, 0, b => b
  | i, m + 1, b => itr f (i + 1) m (f i b)
theorem loopP {α β : Type} (F : Nat → β → Nat → Option α) (K : β → Option α) (f : Nat → β → β) (N : Nat) (Inv : Nat → β → Prop) (hend : ∀ n b, Inv N b → F (n + 1) b N = K b) (hstep : ∀ n b i, i < N → Inv i b → F (n + 1) b i = F n (f i b) (i + 1) ∧ Inv (i + 1) (f i b)) : ∀ (m n i : Nat) (b : β), i + m = N → m < n → Inv i b → F n b i = K (itr f i m b)
  | m, 0, i, b, _, h2, _ => absurd h2 (by omega)
  | 0, n + 1, i, b, h1, _, hi => by
    obtain rfl : i = N := by omega
    exact hend n b hi
  | m + 1, n + 1, i, b, h1, h2, hi => by
    obtain ⟨e, hi'⟩ := hstep n b i (by omega) hi
    rw [e, loopP F K f N Inv hend hstep m n (i + 1) (f i b) (by omega) (by omega) hi']
    rfl
theorem itr_inv {β : Type} (f : Nat → β → β) (Inv : Nat → β → Prop) (N : Nat) (hs : ∀ b i, i < N → Inv i b → Inv (i + 1) (f i b)) : ∀ (m i : Nat) (b : β), i + m = N → Inv i b → Inv N (itr f i m b)
  | 0, i, b, h1, hi => by
    obtain rfl : i = N := by omega
    exact hi
  | m + 1, i, b, h1, hi => itr_inv f Inv N hs m (i + 1) (f i b) (by omega) (hs b i (by omega) hi)
theorem itr_congr {β : Type} {f g : Nat → β → β} : ∀ (m i : Nat) (b : β), (∀ k b, i ≤ k → k < i + m → f k b = g k b) → itr f i m b = itr g i m b
  | 0, i, b, _ => rfl
  | m + 1, i, b, h => by
    rw [itr, itr, h i b (by omega) (by omega), itr_congr m (i + 1) (g i b) (fun k b h1 h2 => h k b (by omega) (by omega))]
theorem itr_sum (g : Nat → Nat) : ∀ (m i b : Nat), itr (fun i b => b + g i) i m b = b + sF g i m
  | 0, i, b => rfl
  | m + 1, i, b => by rw [itr, itr_sum g m (i + 1), sF, Nat.add_assoc]
theorem le_no {a b : Nat} (h : a < b) (hb : b < 2 ^ 31) : ¬ nI b ≤ nI a := by rw [nI_leI hb (by omega)]; omega
theorem le_yes {a : Nat} (h : a < 2 ^ 31) : nI a ≤ nI a := nI_le (Nat.le_refl _) h
/-- pairs -/
theorem sN_add (f g : Nat → Nat) : ∀ n, sN (fun i => f i + g i) n = sN f n + sN g n
  | 0 => rfl
  | n + 1 => by simp only [sN]; rw [sN_add f g n]; omega
theorem sF_sN (f : Nat → Nat) : ∀ n, sF f 0 n = sN f n
  | 0 => rfl
  | n + 1 => by rw [sF_add f n 1 0, sF_sN f n, sN, sF, sF, Nat.add_zero, Nat.zero_add]
theorem pairs_eq {p : Nat → Nat → Nat} (hs : ∀ i j, p i j = p j i) : ∀ N, sN (fun i => sF (p i) (i + 1) (N - (i + 1))) N = sN (fun k => sF (p k) 0 k) N
  | 0 => rfl
  | N + 1 => by
    have h1 : sN (fun i => sF (p i) (i + 1) (N + 1 - (i + 1))) N = sN (fun i => sF (p i) (i + 1) (N - (i + 1)) + p i N) N := sN_congr N (fun i hi => by
      rw [show N + 1 - (i + 1) = (N - (i + 1)) + 1 by omega, sF_add, sF, sF, show i + 1 + (N - (i + 1)) = N by omega]; rfl)
    rw [sN, sN, h1, sN_add, pairs_eq hs N, sF_sN (p N) N, show N + 1 - (N + 1) = 0 by omega, sF, Nat.add_zero, sN_congr (f := fun i => p i N) (g := p N) N (fun i _ => hs i N)]
theorem cnt1 (b : Nat) (P : Bool) : (if (if P then (1 : Int32) else 0) = 0 then nI b else nI (b + 1)) = nI (b + if P then 1 else 0) := by cases P <;> rfl
theorem cnt2 (b : Nat) (P : Bool) : nI b + (if (if P then (1 : Int32) else 0) = 0 then 0 else 1) = nI (b + if P then 1 else 0) := by
  cases P
  · exact Int32.add_zero _
  · exact nI_1 b
def prs (p : Nat → Nat → Nat) (N : Nat) : Nat := sN (fun k => sF (p k) 0 k) N
section RD
variable {σ : FH} {r : AR} {a : AS}
theorem x_round (h : RX σ (σ.2.2 2) r) (hb : RB r) (hs : SX σ 7 a) (hd : ∀ i, i < r 0 0 → a (3 + i) ≤ rH r i) : fX11_round σ = some (nI (prs (fun i j => if canJ r a i j then 1 else 0) (r 0 0))) := by
  have hw := hb.1
  unfold fX11_round
  rw [fxL_r]
  have hin : ∀ (K : Int32 → Option Int32) (i b : Nat), i < r 0 0 → fX11_round_19 σ (nI i) K FU (nI b) (nI (i + 1)) = K (nI (b + sF (fun j => if canJ r a i j then 1 else 0) (i + 1) (r 0 0 - (i + 1)))) := by
    intro K i b hi
    have := loopP (F := fun n b j => fX11_round_19 σ (nI i) K n (nI b) (nI j)) (K := fun b => K (nI b)) (f := fun j b => b + if canJ r a i j then 1 else 0) (N := r 0 0) (Inv := fun _ _ => True) (fun n b _ => by rw [fX11_round_19, fxG_t h.1, h.2.1, if_pos (le_yes (by omega))]) (fun n b j hj _ => ⟨by
      rw [fX11_round_19, fxG_t h.1, h.2.1, if_neg (le_no hj (by omega)), fxG_t h.1, x_canJoin h hb hs hd hi hj, fxBP_s, fxL_r, nI_1, nI_1, cnt1], trivial⟩) (r 0 0 - (i + 1)) FU (i + 1) b (by omega) (by unfold FU; omega) trivial
    rw [itr_sum] at this
    exact this
  have := loopP (F := fun n b i => fX11_round_4 σ (fun x2 => some x2) n (nI b) (nI i)) (K := fun b => some (nI b)) (f := fun i b => b + sF (fun j => if canJ r a i j then 1 else 0) (i + 1) (r 0 0 - (i + 1))) (N := r 0 0) (Inv := fun _ _ => True) (fun n b _ => by rw [fX11_round_4, fxG_t h.1, h.2.1, if_pos (le_yes (by omega))]) (fun n b i hi _ => ⟨by
      rw [fX11_round_4, fxG_t h.1, h.2.1, if_neg (le_no hi (by omega)), fxL_r, fxL_r, nI_1, hin _ _ _ hi], trivial⟩) (r 0 0) FU 0 0 (by omega) (by unfold FU; omega) trivial
  rw [itr_sum, Nat.zero_add, sF_sN, pairs_eq (fun i j => by
    have : canJ r a i j = canJ r a j i := by
      unfold canJ
      rw [Bool.eq_iff_iff, decide_eq_true_iff, decide_eq_true_iff]
      constructor
      · rintro ⟨q1, q2, q3, q4⟩; exact ⟨Ne.symm q1, q2.symm, q4, q3⟩
      · rintro ⟨q1, q2, q3, q4⟩; exact ⟨Ne.symm q1, q2.symm, q4, q3⟩
    rw [this])] at this
  exact this
theorem m_round (h : RM σ 0 r) (hb : RB r) (hs : SM σ 33 0 a) (hd : ∀ i, i < r 0 0 → a (3 + i) ≤ rH r i) (K : Int32 → Option (Int32 × FH)) : fX12_round_9 σ K FU 0 0 = K (nI (prs (fun i j => if canJ r a i j then 1 else 0) (r 0 0))) := by
  have hw := hb.1
  have hin : ∀ (K : Int32 → Option (Int32 × FH)) (i b : Nat), i < r 0 0 → fX12_round_21 σ (nI i) K FU (nI b) 0 = K (nI (b + sF (fun j => if canJ r a i j then 1 else 0) 0 i)) := by
    intro K i b hi
    have := loopP (F := fun n b j => fX12_round_21 σ (nI i) K n (nI b) (nI j)) (K := fun b => K (nI b)) (f := fun j b => b + if canJ r a i j then 1 else 0) (N := i) (Inv := fun _ _ => True) (fun n b _ => by rw [fX12_round_21, if_pos (le_yes (by omega))]) (fun n b j hj _ => ⟨by
      rw [fX12_round_21, if_neg (le_no hj (by omega)), m_canJoin h hb hs hd hi (by omega), fxBP_s, fxL_r, fxL_r, nI_1, cnt2], trivial⟩) i FU 0 b (by omega) (by unfold FU; omega) trivial
    rw [itr_sum] at this
    exact this
  have := loopP (F := fun n b i => fX12_round_9 σ K n (nI b) (nI i)) (K := fun b => K (nI b)) (f := fun i b => b + sF (fun j => if canJ r a i j then 1 else 0) 0 i) (N := r 0 0) (Inv := fun _ _ => True) (fun n b _ => by rw [fX12_round_9, fxG_t (by decide), cl0, rm_w h, if_pos (le_yes (by omega))]) (fun n b i hi _ => ⟨by
      rw [fX12_round_9, fxG_t (by decide), cl0, rm_w h, if_neg (le_no hi (by omega)), fxL_r, hin _ _ _ hi, nI_1], trivial⟩) (r 0 0) FU 0 0 (by omega) (by unfold FU; omega) trivial
  rw [itr_sum, Nat.zero_add, sF_sN] at this
  exact this
def fdP (r : AR) (i j : Nat) : Nat := if r 5 i = r 5 j then 1 else 0
theorem x_friends (h : RX σ (σ.2.2 2) r) (hb : RB r) : fX11_friends σ = some (nI (prs (fdP r) (r 0 1))) := by
  have hw := hb.2.1
  unfold fX11_friends
  rw [fxL_r]
  have hin : ∀ (K : Int32 → Option Int32) (i b : Nat), i < r 0 1 → fX11_friends_19 σ (nI i) K FU (nI b) (nI (i + 1)) = K (nI (b + sF (fdP r i) (i + 1) (r 0 1 - (i + 1)))) := by
    intro K i b hi
    have hbi := (hb.2.2.2.2.2 i hi).2
    have := loopP (F := fun n b j => fX11_friends_19 σ (nI i) K n (nI b) (nI j)) (K := fun b => K (nI b)) (f := fun j b => b + fdP r i j) (N := r 0 1) (Inv := fun _ _ => True) (fun n b _ => by rw [fX11_friends_19, fxG_t h.1, h.2.2.1, if_pos (le_yes (by omega))]) (fun n b j hj _ => ⟨by
      have hbj := (hb.2.2.2.2.2 j hj).2
      rw [fX11_friends_19, fxG_t h.1, h.2.2.1, if_neg (le_no hj (by omega)), fxG_t h.1, fxG_t (fx_inN (by omega) (by decide)), fxG_t h.1, fxG_t (fx_inN (by omega) (by decide)), fx_clN (by omega), fx_clN (by omega), (h.2.2.2.2.2 i hi).2, (h.2.2.2.2.2 j hj).2, fxL_r, nI_1, nI_1]
      unfold fdP
      by_cases c : r 5 i = r 5 j
      · rw [if_pos (by rw [c]), if_pos c]
      · rw [if_neg (fun q => c (nI_inj (by omega) (by omega) q)), if_neg c]; rfl, trivial⟩) (r 0 1 - (i + 1)) FU (i + 1) b (by omega) (by unfold FU; omega) trivial
    rw [itr_sum] at this
    exact this
  have := loopP (F := fun n b i => fX11_friends_4 σ (fun x2 => some x2) n (nI b) (nI i)) (K := fun b => some (nI b)) (f := fun i b => b + sF (fdP r i) (i + 1) (r 0 1 - (i + 1))) (N := r 0 1) (Inv := fun _ _ => True) (fun n b _ => by rw [fX11_friends_4, fxG_t h.1, h.2.2.1, if_pos (le_yes (by omega))]) (fun n b i hi _ => ⟨by
      rw [fX11_friends_4, fxG_t h.1, h.2.2.1, if_neg (le_no hi (by omega)), fxL_r, fxL_r, nI_1, hin _ _ _ hi], trivial⟩) (r 0 1) FU 0 0 (by omega) (by unfold FU; omega) trivial
  rw [itr_sum, Nat.zero_add, sF_sN, pairs_eq (fun i j => by unfold fdP; simp only [eq_comm])] at this
  exact this
theorem m_friends (h : RM σ 0 r) (hb : RB r) (K : Int32 → Option (Int32 × FH)) : fX12_friends_9 σ K FU 0 0 = K (nI (prs (fdP r) (r 0 1))) := by
  have hw := hb.2.1
  have hin : ∀ (K : Int32 → Option (Int32 × FH)) (i b : Nat), i < r 0 1 → fX12_friends_21 σ (nI i) K FU (nI b) 0 = K (nI (b + sF (fdP r i) 0 i)) := by
    intro K i b hi
    have hbi := (hb.2.2.2.2.2 i hi).2
    have := loopP (F := fun n b j => fX12_friends_21 σ (nI i) K n (nI b) (nI j)) (K := fun b => K (nI b)) (f := fun j b => b + fdP r i j) (N := i) (Inv := fun _ _ => True) (fun n b _ => by rw [fX12_friends_21, if_pos (le_yes (by omega))]) (fun n b j hj _ => ⟨by
      have hbj := (hb.2.2.2.2.2 j (by omega)).2
      rw [fX12_friends_21, if_neg (le_no hj (by omega)), fxG_t (fx_inN (by omega) (by decide)), fxG_t (fx_inN (by omega) (by decide)), fx_clN (by omega), fx_clN (by omega), rm_c h hi, rm_c h (by omega : j < r 0 1), fxL_r, fxL_r, nI_1]
      unfold fdP
      by_cases c : r 5 i = r 5 j
      · rw [if_pos (by rw [c]), if_pos c, nI_1]
      · rw [if_neg (fun q => c (nI_inj (by omega) (by omega) q)), if_neg c, Int32.add_zero]; rfl, trivial⟩) i FU 0 b (by omega) (by unfold FU; omega) trivial
    rw [itr_sum] at this
    exact this
  have := loopP (F := fun n b i => fX12_friends_9 σ K n (nI b) (nI i)) (K := fun b => K (nI b)) (f := fun i b => b + sF (fdP r i) 0 i) (N := r 0 1) (Inv := fun _ _ => True) (fun n b _ => by rw [fX12_friends_9, fxG_t (by decide), cl1, rm_q h, if_pos (le_yes (by omega))]) (fun n b i hi _ => ⟨by
      rw [fX12_friends_9, fxG_t (by decide), cl1, rm_q h, if_neg (le_no hi (by omega)), fxL_r, hin _ _ _ hi, nI_1], trivial⟩) (r 0 1) FU 0 0 (by omega) (by unfold FU; omega) trivial
  rw [itr_sum, Nat.zero_add, sF_sN] at this
  exact this
end RD
theorem op_round : OpP fX11_round fX12_round := by
  intro n σx σm hn h
  have h1 := Rel_th h
  unfold fX12_round
  rw [fxL_r (fx_si σm 0 0 0)]
  generalize fx_si σm 0 0 0 = σ1 at h1 ⊢
  obtain ⟨r, ef, a, t, d, hA⟩ := id h1
  obtain ⟨hMV, hRB, hEB, hRX, hEX, hRM, hEM, hNX, hSX, hSM, hSB, -⟩ := id hA
  exact ⟨_, σ1, x_round hRX hRB hSX hSB.2.2.2.1, by rw [fxL_r]; exact m_round hRM hRB hSM hSB.2.2.2.1 _, Rel_up h1 (by omega)⟩
theorem op_friends : OpP fX11_friends fX12_friends := by
  intro n σx σm hn h
  have h1 := Rel_th h
  unfold fX12_friends
  rw [fxL_r (fx_si σm 0 0 0)]
  generalize fx_si σm 0 0 0 = σ1 at h1 ⊢
  obtain ⟨r, ef, a, t, d, hA⟩ := id h1
  obtain ⟨hMV, hRB, hEB, hRX, hEX, hRM, hEM, hNX, hSX, hSM, hSB, -⟩ := id hA
  exact ⟨_, σ1, x_friends hRX hRB, by rw [fxL_r]; exact m_friends hRM hRB _, Rel_up h1 (by omega)⟩
