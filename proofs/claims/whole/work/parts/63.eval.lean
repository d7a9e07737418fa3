/-! ===== the law of how one works: steps behind their operands (class), steps as they are told (reference) ===== -/
/-- a row holds these from k on -/
def CD (f : Nat → Int32) : Nat → List Int32 → Prop
  | _, [] => True
  | k, c :: l => f k = c ∧ CD f (k + 1) l
theorem CD_app {f : Nat → Int32} : ∀ (l : List Int32) (k : Nat) (l' : List Int32), CD f k (l ++ l') ↔ CD f k l ∧ CD f (k + l.length) l'
  | [], k, l' => by simp [CD]
  | c :: l, k, l' => by
    rw [List.cons_append, CD, CD, CD_app l (k + 1) l', List.length_cons, show k + 1 + l.length = k + (l.length + 1) by omega, and_assoc]
theorem CD_fr {f g : Nat → Int32} : ∀ (l : List Int32) (k : Nat), CD f k l → (∀ i, k ≤ i → i < k + l.length → g i = f i) → CD g k l
  | [], _, _, _ => trivial
  | c :: l, k, h, e => by
    rw [List.length_cons] at e
    exact ⟨(e k (by omega) (by omega)).trans h.1, CD_fr l (k + 1) h.2 (fun i h1 h2 => e i (by omega) (by omega))⟩
abbrev EV : Type := Nat → Int32
def cmb (c a b : Int32) : Int32 := if c = -11 then a - b else if c = -10 then a + b else if c = -9 then (if a = b then 1 else 0) else if c = -8 then (if b ≤ a then 0 else 1) else if c = -7 then (if a = 0 then (if b = 0 then 0 else 1) else 1) else if c = -6 then (if a = 0 then 0 else (if b = 0 then 0 else 1)) else a * b
def ngt (a : Int32) : Int32 := if a = 0 then 1 else 0
def fcv (ev : EV) (c : Int32) : Int32 := if c = -3 then ev 3 else if c = -2 then ev 2 else if c = -1 then ev 1 else ev 4
def pstep (ev : EV) (st : List Int32) (c : Int32) : List Int32 :=
  if c < -5 then (match st with | b :: a :: q => cmb c a b :: q | _ => st)
  else if c = -5 then (match st with | a :: q => ngt a :: q | _ => st)
  else if st.length < 32 then (if c < 0 then fcv ev c else c) :: st else st
def pfl (ev : EV) : List Int32 → List Int32 → List Int32
  | [], st => st
  | c :: l, st => pfl ev l (pstep ev st c)
theorem pfl_app (ev : EV) : ∀ (l l' st : List Int32), pfl ev (l ++ l') st = pfl ev l' (pfl ev l st)
  | [], _, _ => rfl
  | c :: l, l', st => by rw [List.cons_append, pfl, pfl, pfl_app ev l l']
theorem x_truth (v : Int32) (σ : FH) : fX1_truth v σ = some (if v = 0 then 0 else 1) := rfl
theorem x_combine (c a b : Int32) (σ : FH) : fX1_combine c a b σ = some (cmb c a b) := by
  unfold fX1_combine cmb
  by_cases h1 : c = -11
  · rw [if_pos h1, if_pos h1]
  rw [if_neg h1, if_neg h1]
  by_cases h2 : c = -10
  · rw [if_pos h2, if_pos h2]
  rw [if_neg h2, if_neg h2]
  by_cases h3 : c = -9
  · rw [if_pos h3, if_pos h3, fxL_r, x_truth, fxBP_s]
    by_cases z : a = b
    · rw [if_pos z]; rfl
    · rw [if_neg z]; rfl
  rw [if_neg h3, if_neg h3]
  by_cases h4 : c = -8
  · rw [if_pos h4, if_pos h4, fxL_r, x_truth, fxBP_s]
    by_cases z : b ≤ a
    · rw [if_pos z]; rfl
    · rw [if_neg z]; rfl
  rw [if_neg h4, if_neg h4]
  by_cases h5 : c = -7
  · rw [if_pos h5, if_pos h5, fxL_r, x_truth, fxBP_s]
    by_cases z : a = 0
    · rw [if_pos z]
      by_cases y : b = 0
      · rw [if_pos y]; rfl
      · rw [if_neg y]; rfl
    · rw [if_neg z]; rfl
  rw [if_neg h5, if_neg h5]
  by_cases h6 : c = -6
  · rw [if_pos h6, if_pos h6, fxL_r, x_truth, fxBP_s]
    by_cases z : a = 0
    · rw [if_pos z]; rfl
    · rw [if_neg z]
      by_cases y : b = 0
      · rw [if_pos y]; rfl
      · rw [if_neg y]; rfl
  rw [if_neg h6, if_neg h6]
theorem x_fact (ev : EV) (c : Int32) (σ : FH) : fX1_fact c (ev 1) (ev 2) (ev 3) (ev 4) σ = some (fcv ev c) := by
  unfold fX1_fact fcv
  by_cases h1 : c = -3
  · rw [if_pos h1, if_pos h1]
  rw [if_neg h1, if_neg h1]
  by_cases h2 : c = -2
  · rw [if_pos h2, if_pos h2]
  rw [if_neg h2, if_neg h2]
  by_cases h3 : c = -1
  · rw [if_pos h3, if_pos h3]
  rw [if_neg h3, if_neg h3]
/-- the class's stack, its top first -/
def SK (f : Nat → Int32) : List Int32 → Prop
  | [] => True
  | v :: st => f st.length = v ∧ SK f st
theorem SK_fr {f g : Nat → Int32} : ∀ st : List Int32, SK f st → (∀ i, i < st.length → g i = f i) → SK g st
  | [], _, _ => trivial
  | v :: st, h, e => ⟨(e st.length (by rw [List.length_cons]; omega)).trans h.1, SK_fr st h.2 (fun i hi => e i (by rw [List.length_cons]; omega))⟩
theorem m5_no {c : Int32} (h : c < -5) : ¬ (-5 : Int32) ≤ c := fun q => Int32.lt_irrefl (Int32.lt_of_lt_of_le h q)
theorem x_val_loop {t : Nat} (ev : EV) {len : Nat} (hlen : len ≤ 1000) : ∀ (l : List Int32) (n k : Nat) (st : List Int32) (σ : FH), l.length < n → k + l.length = len → σ.1 t 1 = nI len → CD (σ.1 (t + 1)) k l → SK (σ.1 (t + 2)) st → st.length ≤ 32 → ∃ σ', (∀ K, fX1_value_15 t (ev 1) (ev 2) (ev 3) (ev 4) K n (nI st.length) (nI k) σ = K σ') ∧ SK (σ'.1 (t + 2)) (pfl ev l st) ∧ agr (fun b => b = t + 2) σ σ'
  | l, 0, k, st, σ, h, _, _, _, _, _ => absurd h (by omega)
  | [], n + 1, k, st, σ, _, h2, hl, _, hs, _ => by
    refine ⟨σ, fun K => ?_, hs, agr_rf _ _⟩
    have : k = len := by simpa using h2
    rw [fX1_value_15, hl, if_pos (nI_le (by omega) (by omega))]
  | c :: l, n + 1, k, st, σ, h, h2, hl, hc, hs, hb => by
    rw [List.length_cons] at h h2
    have hk : ¬ nI len ≤ nI k := le_no (by omega) (by omega)
    have step : ∀ (st' : List Int32) (σ2 : FH), pstep ev st c = st' → agr (fun b => b = t + 2) σ σ2 → SK (σ2.1 (t + 2)) st' → st'.length ≤ 32 → (∀ K, fX1_value_15 t (ev 1) (ev 2) (ev 3) (ev 4) K (n + 1) (nI st.length) (nI k) σ = fX1_value_15 t (ev 1) (ev 2) (ev 3) (ev 4) K n (nI st'.length) (nI (k + 1)) σ2) → ∃ σ', (∀ K, fX1_value_15 t (ev 1) (ev 2) (ev 3) (ev 4) K (n + 1) (nI st.length) (nI k) σ = K σ') ∧ SK (σ'.1 (t + 2)) (pfl ev (c :: l) st) ∧ agr (fun b => b = t + 2) σ σ' := by
      intro st' σ2 e1 g2 s2 b2 e2
      obtain ⟨σ', e3, s3, g3⟩ := x_val_loop ev hlen l n (k + 1) st' σ2 (by omega) (by omega) (by rw [g2.1 t (by omega)]; exact hl) (by rw [g2.1 (t + 1) (by omega)]; exact hc.2) s2 b2
      exact ⟨σ', fun K => (e2 K).trans (e3 K), by rw [pfl, e1]; exact s3, agr_tr g2 g3⟩
    have hd : ∀ K, fX1_value_15 t (ev 1) (ev 2) (ev 3) (ev 4) K (n + 1) (nI st.length) (nI k) σ = _ := fun K => by
      rw [fX1_value_15, hl, if_neg hk, fxG_t (fx_inN (by omega) (by decide)), fx_clN (by omega), hc.1, fxL_r, fxL_r, fxL_r, nI_1]
    by_cases c1 : c < -5
    · have c2 : ¬ (-5 : Int32) ≤ c := m5_no c1
      have c3 : ¬ c = -5 := fun q => Int32.lt_irrefl (q ▸ c1)
      have c4 : c ≤ -5 := Int32.le_of_lt c1
      match st, hs, hb, step, hd with
      | [], hs, hb, step, hd =>
        refine step [] σ (by unfold pstep; rw [if_pos c1]) (agr_rf _ _) trivial (by decide) (fun K => ?_)
        rw [hd K, if_neg c2, if_pos (by decide), if_neg c3, if_pos c4]
      | [v], hs, hb, step, hd =>
        refine step [v] σ (by unfold pstep; rw [if_pos c1]) (agr_rf _ _) hs (show 1 ≤ 32 from by decide) (fun K => ?_)
        rw [hd K, if_neg c2, if_pos (show nI [v].length < 2 from (by decide : nI 1 < 2)), if_neg c3, if_pos c4]
      | b :: a :: q, hs, hb, step, hd =>
        rw [List.length_cons, List.length_cons] at hb
        have e1 : nI (b :: a :: q).length + -1 = nI (q.length + 1) := pk_m1 _
        have e2 : nI (q.length + 1) - 1 = nI q.length := nI_pred _
        refine step (cmb c a b :: q) (fx_si σ (t + 2) q.length (cmb c a b)) (by unfold pstep; rw [if_pos c1]) (agr_si rfl) ⟨by rw [si1, if_pos ⟨rfl, rfl⟩], SK_fr q hs.2.2 (fun i hi => by rw [si1, if_neg (by omega)])⟩ (by rw [List.length_cons]; omega) (fun K => ?_)
        rw [hd K, if_neg c2, if_neg (show ¬ nI (b :: a :: q).length < 2 from fun z => by rw [List.length_cons, List.length_cons, show (2 : Int32) = nI 2 from rfl, nI_ltI (by omega) (by omega)] at z; omega), e1, e2, fxG_t (fx_inN (by omega) (by decide)), fxG_t (fx_inN (by omega) (by decide)), fx_clN (by omega), fx_clN (by omega), show σ.1 (t + 2) q.length = a from hs.2.1, show σ.1 (t + 2) (q.length + 1) = b from hs.1, x_combine, fxBP_s, fxG_t (fx_inN (by omega) (by decide)), fxL_r]
        rfl
    · by_cases c3 : c = -5
      · have c2 : (-5 : Int32) ≤ c := by rw [c3]; decide
        have c4 : c ≤ -5 := by rw [c3]; decide
        match st, hs, hb, step, hd with
        | [], hs, hb, step, hd =>
          refine step [] σ (by unfold pstep; rw [if_neg c1, if_pos c3]) (agr_rf _ _) trivial (by decide) (fun K => ?_)
          rw [hd K, if_pos c2, if_pos c3, if_pos (by decide), if_pos c4]
        | a :: q, hs, hb, step, hd =>
          rw [List.length_cons] at hb
          have e1 : nI (a :: q).length - 1 = nI q.length := nI_pred _
          refine step (ngt a :: q) (fx_si σ (t + 2) q.length (ngt a)) (by unfold pstep; rw [if_neg c1, if_pos c3]) (agr_si rfl) ⟨by rw [si1, if_pos ⟨rfl, rfl⟩], SK_fr q hs.2 (fun i hi => by rw [si1, if_neg (by omega)])⟩ (by rw [List.length_cons]; omega) (fun K => ?_)
          have et : fX1_truth (if a = 0 then 1 else 0) σ = some (ngt a) := by
            rw [x_truth]; unfold ngt
            by_cases z : a = 0
            · rw [if_pos z]; rfl
            · rw [if_neg z]; rfl
          rw [hd K, if_pos c2, if_pos c3, if_neg (show ¬ nI (a :: q).length < 1 from fun z => by rw [List.length_cons, show (1 : Int32) = nI 1 from rfl, nI_ltI (by omega) (by omega)] at z; omega), e1, fxG_t (fx_inN (by omega) (by decide)), fx_clN (by omega), show σ.1 (t + 2) q.length = a from hs.1, fxL_r, et, fxBP_s, fxG_t (fx_inN (by omega) (by decide)), fxL_r]
          rfl
      · have c2 : (-5 : Int32) ≤ c := Int32.not_lt.mp c1
        have c4 : ¬ c ≤ -5 := fun z => c3 (Int32.le_antisymm z c2)
        by_cases c5 : st.length < 32
        · refine step ((if c < 0 then fcv ev c else c) :: st) (fx_si σ (t + 2) st.length (if c < 0 then fcv ev c else c)) (by unfold pstep; rw [if_neg c1, if_neg c3, if_pos c5]) (agr_si rfl) ⟨by rw [si1, if_pos ⟨rfl, rfl⟩], SK_fr st hs (fun i hi => by rw [si1, if_neg (by omega)])⟩ (by rw [List.length_cons]; omega) (fun K => ?_)
          rw [hd K, if_pos c2, if_neg c3, if_neg c4, if_neg (show ¬ (32 : Int32) ≤ nI st.length from le_no (b := 32) c5 (by decide)), x_fact, fxL_r, fxBP_s, nI_1]
          by_cases c6 : c < 0
          · rw [if_pos c6, if_pos c6]; dsimp only; rw [fxG_t (fx_inN c5 (by decide)), fx_clN (by omega), fxL_r]; rfl
          · rw [if_neg c6, if_neg c6]; dsimp only; rw [fxG_t (fx_inN c5 (by decide)), fx_clN (by omega), fxL_r]; rfl
        · refine step st σ (by unfold pstep; rw [if_neg c1, if_neg c3, if_neg c5]) (agr_rf _ _) hs hb (fun K => ?_)
          rw [hd K, if_pos c2, if_neg c3, if_neg c4, if_pos (show (32 : Int32) ≤ nI st.length from nI_le (a := 32) (by omega) (by omega))]
theorem x_value {t : Nat} (ht : LX[t]? = some (1, 0)) (ev : EV) {C : List Int32} {σ : FH} {v : Int32} (hl : σ.1 t 1 = nI C.length) (h0 : 0 < C.length) (h1 : C.length ≤ 1000) (hc : CD (σ.1 (t + 1)) 0 C) (hv : pfl ev C [] = [v]) : ∃ σ', fX1_value t (ev 1) (ev 2) (ev 3) (ev 4) σ = some (v, σ') ∧ agr (fun b => b = t + 2) σ σ' := by
  obtain ⟨σ', e, s, g⟩ := x_val_loop (t := t) ev h1 C FU 0 [] σ (by unfold FU; omega) (by omega) hl hc trivial (by decide)
  refine ⟨σ', ?_, g⟩
  rw [hv] at s
  unfold fX1_value
  rw [fxG_t ht, hl, if_pos (by rw [n0, nI_ltI (by omega) (by omega)]; omega), fxL_r]
  refine (e _).trans ?_
  rw [fxG_t (by decide), show Int32.toNatClampNeg 0 = 0 from by decide, show σ'.1 (t + 2) 0 = v from s.1]
theorem x_value0 {t : Nat} (ht : LX[t]? = some (1, 0)) (ev : EV) {σ : FH} (hl : σ.1 t 1 = 0) : fX1_value t (ev 1) (ev 2) (ev 3) (ev 4) σ = some (1, σ) := by
  unfold fX1_value
  rw [fxG_t ht, hl, if_neg (by decide)]
