/-! ===== the class: a week ===== -/
theorem minN {a b : Nat} (ha : a < 2 ^ 31) (hb : b < 2 ^ 31) : (if nI b < nI a then nI b else nI a) = nI (min a b) := by
  by_cases h : b < a
  · rw [if_pos (nI_lt h ha), Nat.min_eq_right (by omega)]
  · rw [if_neg (by rw [nI_ltI hb ha]; omega), Nat.min_eq_left (by omega)]
theorem maxN {a b : Nat} (ha : a < 2 ^ 31) (hb : b < 2 ^ 31) : (if nI a < nI b then nI b else nI a) = nI (max a b) := by
  by_cases h : a < b
  · rw [if_pos (nI_lt h hb), Nat.max_eq_right (by omega)]
  · rw [if_neg (by rw [nI_ltI ha hb]; omega), Nat.max_eq_left (by omega)]
theorem posN {a b : Nat} (ha : a < 2 ^ 30) (hb : b < 2 ^ 30) : (if 0 < nI a - nI b then nI a - nI b else 0) = nI (a - b) := by
  by_cases h : b ≤ a
  · rw [pk_sub h]
    by_cases h0 : a - b = 0
    · rw [h0, if_neg (by decide)]; rfl
    · rw [if_pos (by rw [n0, nI_ltI (by decide) (by omega)]; omega)]
  · have h1 := pk_sneg (a := a) hb (by omega)
    have h2 : ¬ 0 < nI a - nI b := by
      intro h3
      exact Int32.lt_irrefl (Int32.lt_trans h1 h3)
    rw [if_neg h2, show a - b = 0 by omega]; rfl
theorem remN {a : Nat} (ha : a < 2 ^ 31) : nI a - nI a / 2 * 2 = nI (a % 2) := pk_rem (d := 2) ha (by decide) (by decide)
theorem upS_ne {a : AS} {k v j : Nat} (h : j ≠ k) : upS a k v j = a j := if_neg h
theorem upS_eq {a : AS} {k v : Nat} : upS a k v k = v := if_pos rfl
theorem dis57 : ∀ t, t < 151 → ∀ T, T < 151 → (LX[t]? == some (7, 0) && LX[T]? == some (5, 0)) = true → t + 2 < T ∨ T + 10 < t := by decide +kernel
theorem dis_s {σ σ2 : FH} {t T : Nat} {a : AS} {r : AR} (hs : SX σ t a) (h : RX σ2 T r) : t + 2 < T ∨ T + 10 < t := dis57 t (fx_len hs.1) T (fx_len h.1) (by rw [hs.1, h.1]; rfl)
theorem RX_agr {σ σ' : FH} {T : Nat} {r : AR} {P : Nat → Prop} (h : RX σ T r) (g : agr P σ σ') (hP : ∀ i, i < 8 → ¬ P (T + i)) : RX σ' T r := by
  have e : ∀ i, i < 8 → σ'.1 (T + i) = σ.1 (T + i) := fun i hi => g.1 _ (hP i hi)
  have e0 := e 0 (by omega)
  rw [Nat.add_zero] at e0
  refine ⟨h.1, by rw [e0]; exact h.2.1, by rw [e0]; exact h.2.2.1, by rw [e0]; exact h.2.2.2.1, fun i hi => ?_, fun p hp => ?_⟩
  · rw [e 2 (by omega), e 3 (by omega), e 4 (by omega)]; exact h.2.2.2.2.1 i hi
  · rw [e 6 (by omega), e 7 (by omega)]; exact h.2.2.2.2.2 p hp
theorem SX_agr {σ σ' : FH} {t : Nat} {a : AS} {P : Nat → Prop} (h : SX σ t a) (g : agr P σ σ') (hP : ∀ i, i < 3 → ¬ P (t + i)) : SX σ' t a := by
  have e : ∀ i, i < 3 → σ'.1 (t + i) = σ.1 (t + i) := fun i hi => g.1 _ (hP i hi)
  have e0 := e 0 (by omega)
  rw [Nat.add_zero] at e0
  refine ⟨h.1, by rw [e0]; exact h.2.1, by rw [e0]; exact h.2.2.1, by rw [e0]; exact h.2.2.2.1, fun i hi => ?_, fun p hp => ?_⟩
  · rw [e 1 (by omega)]; exact h.2.2.2.2.1 i hi
  · rw [e 2 (by omega)]; exact h.2.2.2.2.2 p hp
theorem EX_agr {σ σ' : FH} {T : Nat} {ef : EF} {P : Nat → Prop} (h : EX σ T ef) (g : agr P σ σ') (h8 : ¬ P (T + 8)) (h9 : ¬ P (T + 9)) : EX σ' T ef :=
  fun so half votes date σ0 a1 a2 a3 a4 e8 e9 => h so half votes date σ0 a1 a2 a3 a4 (e8.trans (g.1 _ h8)) (e9.trans (g.1 _ h9))
section XB
variable {σ : FH} {T t : Nat} {r : AR} {a : AS} {ef : EF}
theorem x_weekWork (h : RX σ T r) (he : EX σ T ef) (heb : EB ef) {k so half votes date : Nat} (hk : k < 4) (hso : so ≤ half) (hh : half < 65536) (hv : votes < 65536) (hd : date < 65536) :
    ∃ σ', fX5_weekWork T (nI k) (nI so) (nI half) (nI votes) (nI date) σ = some (nI (much ef k so half votes date), σ') ∧ agr (fun b => b = T + 10) σ σ' := by
  obtain ⟨v, σ', h1, h2, h3⟩ := he so half votes date σ (by omega) hh hv hd rfl rfl
  have h9 := heb so half votes date
  unfold fX5_weekWork
  rw [fxG_t h.1, fxL_r, h1, fxBI_s, fxL_r]
  have hc : (if 0 < (if v < 9 then v else 9) then (if v < 9 then v else 9) else 0) = nI (ef so half votes date) := h3
  rw [hc, remN (by omega), pk_sub hso, nI_1, div2N (by omega), minN (by omega) (by omega), show (2 : Int32) * nI (ef so half votes date) = nI (2 * ef so half votes date) from pk_mul 2 _]
  have hm2 : date % 2 < 2 := Nat.mod_lt _ (by decide)
  by_cases k3 : k = 3
  · subst k3
    rw [if_pos (by decide)]
    by_cases d1 : date % 2 = 1
    · refine ⟨σ, ?_, agr_rf _ _⟩
      rw [d1, if_neg (by decide)]
      simp only [much, d1, and_self, if_true]
      rfl
    · refine ⟨σ', ?_, h2⟩
      rw [show date % 2 = 0 by omega, if_pos nI_0, if_neg (by decide), if_neg (by decide)]
      simp only [much, d1, and_false, if_false]
      rfl
  · refine ⟨σ', ?_, h2⟩
    have c3 : ¬ nI k = 3 := fun q => k3 (nI_inj (b := 3) (by omega) (by decide) q)
    rw [if_neg c3]
    by_cases k1 : k = 1
    · subst k1
      rw [if_pos (by decide)]
      simp only [much]
      simp
    · have c1 : ¬ nI k = 1 := fun q => k1 (nI_inj (b := 1) (by omega) (by decide) q)
      rw [if_neg c1]
      by_cases k2 : k = 2
      · subst k2
        rw [if_pos (by decide)]
        simp only [much]
        simp
      · have c2 : ¬ nI k = 2 := fun q => k2 (nI_inj (b := 2) (by omega) (by decide) q)
        rw [if_neg c2]
        simp only [much, k1, k2, k3, false_and, if_false]
theorem x_workOn (h : RX σ T r) (hb : RB r) (hs : SX σ t a) {j m : Nat} (hj : j < r 0 0) (hm : m ≤ 1000) (ha : a (3 + j) ≤ 1000) :
    ∃ σ', fX7_workOn t T (nI j) (nI m) σ = some (nI (wfi r a j m), σ') ∧ SX σ' t (wrk r a j m) ∧ agr (fun b => b = t ∨ b = t + 1) σ σ' := by
  have hw := hb.1
  have hB := hb.2.2.2.2.1 j hj
  have hhalf : rH r j ≤ 30 := by unfold rH; omega
  have hdis := dis_s hs h
  unfold fX7_workOn
  rw [fxG_t hs.1, fxG_t h.1, x_hasWare_in h hb hj, fxBP_s, if_neg (by decide), x_halfOf h hb hj, fxBP_s, fxG_t (fx_inN (by omega) (by decide)), fx_clN (by omega), hs.2.2.2.2.1 j (by omega), nI_add, fxL_r, fxG_t (fx_inN (by omega) (by decide)), minN (by omega) (by omega), fxL_r, fxL_r, posN (by omega) (by omega)]
  have e9 : (fx_si σ (t + 1) j (nI (min (a (3 + j) + m) (rH r j)))).1 T 9 = nI (r 0 2) := by rw [si1, if_neg (by omega)]; exact h.2.2.2.1
  have e3 : (fx_si σ (t + 1) j (nI (min (a (3 + j) + m) (rH r j)))).1 t 3 = nI (a 1) := by rw [si1, if_neg (by omega)]; exact hs.2.2.1
  rw [e9, e3, pk_mul, nI_add, fxL_r]
  refine ⟨_, rfl, ⟨hs.1, ?_, ?_, ?_, fun i hi => ?_, fun p hp => ?_⟩, agr_sit (Or.inl rfl) (agr_si (Or.inr rfl))⟩
  · rw [si1, if_neg (by omega), si1, if_neg (by omega), hs.2.1, wrk, upS_ne (by omega), upS_ne (by omega)]
  · rw [si1, if_pos ⟨rfl, rfl⟩, wrk, upS_eq]
  · rw [si1, if_neg (by omega), si1, if_neg (by omega), hs.2.2.2.1, wrk, upS_ne (by omega), upS_ne (by omega)]
  · rw [si1, if_neg (by omega), si1, wrk, upS_ne (by omega)]
    by_cases hij : i = j
    · subst hij
      rw [if_pos ⟨rfl, rfl⟩, upS_eq]
    · rw [if_neg (by omega), hs.2.2.2.2.1 i hi, upS_ne (by omega)]
  · rw [si1, if_neg (by omega), si1, if_neg (by omega), hs.2.2.2.2.2 p hp, wrk, upS_ne (by omega), upS_ne (by omega)]
/-- what one week leaves as it was -/
theorem wks_keep (r : AR) (ef : EF) (a : AS) : ∀ (n k : Nat), n ≤ 6 → (k = 0 ∨ k = 2 ∨ 3 + n ≤ k) → wks r ef a n k = a k
  | 0, k, _, _ => rfl
  | n + 1, k, hn, hk => by
    rw [wks, wrk, upS_ne (by omega), upS_ne (by omega)]
    exact wks_keep r ef a n k (by omega) (by omega)
theorem vts_eq {r : AR} {a b : AS} (h : ∀ p, p < r 0 1 → a (9 + p) = b (9 + p)) (j : Nat) : vts r a j = vts r b j :=
  sF_congr _ _ (fun k _ hk => by rw [h k (by omega)])
theorem vts_le {r : AR} {a : AS} (hb : RB r) (h : ∀ p, p < r 0 1 → a (9 + p) ≤ 99) (j : Nat) : vts r a j ≤ 495 := by
  have h1 := sF_le (f := fun p => if bt (r 5 p) j = 1 then a (9 + p) else 0) (b := 99) (r 0 1) 0 (fun k _ hk => by
    have := h k (by omega)
    show (if bt (r 5 k) j = 1 then a (9 + k) else 0) ≤ 99
    split <;> omega)
  have h2 := hb.2.1
  have h3 : r 0 1 * 99 ≤ 5 * 99 := Nat.mul_le_mul_right _ h2
  exact Nat.le_trans h1 h3
theorem much_le {ef : EF} (heb : EB ef) (k so half votes date : Nat) : much ef k so half votes date ≤ 18 := by
  have := heb so half votes date
  unfold much
  split
  · omega
  · split
    · omega
    · split
      · have := Nat.min_le_left (ef so half votes date) ((half - so + 1) / 2); omega
      · omega
theorem wks_done {r : AR} {ef : EF} {a : AS} (h : ∀ i, i < r 0 0 → a (3 + i) ≤ rH r i) : ∀ (n : Nat), n ≤ r 0 0 → r 0 0 ≤ 6 → ∀ i, i < r 0 0 → wks r ef a n (3 + i) ≤ rH r i
  | 0, _, _, i, hi => h i hi
  | n + 1, hn, h6, i, hi => by
    rw [wks, wrk, upS_ne (by omega)]
    by_cases e : i = n
    · subst e
      rw [upS_eq]
      exact Nat.min_le_right _ _
    · rw [upS_ne (by omega)]
      exact wks_done h n (by omega) h6 i hi
theorem x_week_loop (h : RX σ T r) (hb : RB r) (he : EX σ T ef) (heb : EB ef) (hs : SX σ t a) (hd : ∀ i, i < r 0 0 → a (3 + i) ≤ rH r i) (hsb : ∀ p, p < r 0 1 → a (9 + p) ≤ 99) (h0 : a 0 < 60000) (K : Int32 → FH → Option (Int32 × FH)) :
    ∀ (m n i acc : Nat) (σ1 : FH), i + m = r 0 0 → m < n → SX σ1 t (wks r ef a i) → agr (fun b => b = t ∨ b = t + 1 ∨ b = T + 10) σ σ1 →
      ∃ σ', fX7_passWeek_4 t T K n (nI (acc + wkf r ef a i)) (nI i) σ1 = K (nI (acc + wkf r ef a (r 0 0))) σ' ∧ SX σ' t (wks r ef a (r 0 0)) ∧ agr (fun b => b = t ∨ b = t + 1 ∨ b = T + 10) σ σ'
  | m, 0, i, acc, σ1, _, h2, _, _ => absurd h2 (by omega)
  | 0, n + 1, i, acc, σ1, h1, _, hs1, g1 => by
    have hw := hb.1
    have hdis := dis_s hs h
    have hR := RX_agr h g1 (fun k hk => by omega)
    obtain rfl : i = r 0 0 := by omega
    refine ⟨σ1, ?_, hs1, g1⟩
    rw [fX7_passWeek_4, hR.2.1, if_pos (nI_le (by omega) (by omega))]
  | m + 1, n + 1, i, acc, σ1, h1, h2, hs1, g1 => by
    have hw := hb.1
    have hdis := dis_s hs h
    have hR := RX_agr h g1 (fun k hk => by omega)
    have hE := EX_agr he g1 (by omega) (by omega)
    have hlt : i < r 0 0 := by omega
    have hB := hb.2.2.2.2.1 i hlt
    have hhalf : rH r i ≤ 30 := by unfold rH; omega
    have hs9 : ∀ p, p < r 0 1 → wks r ef a i (9 + p) ≤ 99 := fun p hp => by rw [wks_keep r ef a i (9 + p) (by omega) (by omega)]; exact hsb p hp
    have hdn := wks_done (ef := ef) hd i (by omega) hw i hlt
    have hv := vts_le hb hs9 i
    have hk0 := wks_keep r ef a i 0 (by omega) (by omega)
    obtain ⟨σ2, e2, g2⟩ := x_weekWork hR hE heb (k := r 1 i) (so := wks r ef a i (3 + i)) (half := rH r i) (votes := vts r (wks r ef a i) i) (date := wks r ef a i 0) (by omega) hdn (by omega) (by omega) (by omega)
    have hml := much_le heb (r 1 i) (wks r ef a i (3 + i)) (rH r i) (vts r (wks r ef a i) i) (wks r ef a i 0)
    have hR2 := RX_agr hR g2 (fun k hk => by omega)
    have hs2 := SX_agr hs1 g2 (fun k hk => by omega)
    obtain ⟨σ3, e3, hs3, g3⟩ := x_workOn hR2 hb hs2 (j := i) (m := much ef (r 1 i) (wks r ef a i (3 + i)) (rH r i) (vts r (wks r ef a i) i) (wks r ef a i 0)) hlt (by omega) (by omega)
    have g13 : agr (fun b => b = t ∨ b = t + 1 ∨ b = T + 10) σ σ3 := agr_tr g1 (agr_tr (agr_mono (fun q hq => Or.inr (Or.inr hq)) g2) (agr_mono (fun q hq => hq.elim Or.inl (fun z => Or.inr (Or.inl z))) g3))
    obtain ⟨σ', e', hs', g'⟩ := x_week_loop h hb he heb hs hd hsb h0 K m n (i + 1) acc σ3 (by omega) (by omega) hs3 g13
    refine ⟨σ', ?_, hs', g'⟩
    rw [fX7_passWeek_4, hR.2.1, if_neg (by rw [nI_leI (by omega) (by omega)]; omega), x_votesFor hR hb hs1 hs9 (by omega), fxBP_s, fxG_t (fx_inN (by omega) (by decide)), fxG_t (fx_inN (by omega) (by decide)), x_halfOf hR hb hlt, fxBP_s, fx_clN (by omega), (hR.2.2.2.2.1 i hlt).1, hs1.2.2.2.2.1 i (by omega), hs1.2.1, e2, fxBI_s, e3, fxBI_s, nI_add, fxL_r, nI_1, ← e']
    simp only [wkf, mch, Nat.add_assoc]
theorem x_passWeek (h : RX σ T r) (hb : RB r) (he : EX σ T ef) (heb : EB ef) (hs : SX σ t a) (hd : ∀ i, i < r 0 0 → a (3 + i) ≤ rH r i) (hsb : ∀ p, p < r 0 1 → a (9 + p) ≤ 99) (h0 : a 0 < 60000) :
    ∃ σ', fX7_passWeek t T σ = some (nI (wf r ef a), σ') ∧ SX σ' t (wk r ef a) ∧ agr (fun b => b = t ∨ b = t + 1 ∨ b = T + 10) σ σ' := by
  have hw := hb.1
  obtain ⟨σ1, e1, hs1, g1⟩ := x_week_loop h hb he heb hs hd hsb h0 (fun x2 σ3 => fxL (fx_si σ3 t 2 ((σ3.1 t 2) + 1)) <| fun σ4 => some (x2, σ4)) (r 0 0) FU 0 0 σ (by omega) (by unfold FU; omega) hs (agr_rf _ _)
  refine ⟨fx_si σ1 t 2 (nI (a 0 + 1)), ?_, ⟨hs1.1, ?_, ?_, ?_, fun i hi => ?_, fun p hp => ?_⟩, agr_sit (Or.inl rfl) g1⟩
  · unfold fX7_passWeek
    rw [fxG_t hs.1, fxG_t h.1, fxL_r]
    refine e1.trans ?_
    rw [fxL_r, hs1.2.1, wks_keep r ef a _ 0 hw (by omega), nI_1, Nat.zero_add]
    rfl
  · rw [si1, if_pos ⟨rfl, rfl⟩, wk, upS_eq]
  · rw [si1, if_neg (by omega), hs1.2.2.1, wk, upS_ne (by omega)]
  · rw [si1, if_neg (by omega), hs1.2.2.2.1, wk, upS_ne (by omega)]
  · rw [si1, if_neg (by omega), hs1.2.2.2.2.1 i hi, wk, upS_ne (by omega)]
  · rw [si1, if_neg (by omega), hs1.2.2.2.2.2 p hp, wk, upS_ne (by omega)]
end XB
