/-! ===== what a piece of a law is worth, to both ===== -/
abbrev EVV : Type := EV → Int32
def Sp (H : Nat) (C : List Int32) (v : EVV) : Prop := ∀ (ev : EV) (st : List Int32), st.length + H ≤ 32 → pfl ev C st = v ev :: st
def bse (φ : Nat → RW) (d : Nat) : Prop := d = 0 ∨ ¬ φ d 8 = 1
def S4 (d : Nat) (I : List Int32) (v : EVV) : Prop := ∀ (ev : EV) (φ : Nat → RW), ∃ φ1, (∀ i, i ≤ d → φ1 i = φ i) ∧ irun ev I (d, φ) = some (dlv (v ev) d φ1)
def S3 (d : Nat) (I : List Int32) (v : EVV) : Prop := ∀ (ev : EV) (φ : Nat → RW), bse φ d → φ d 7 = 0 → ∃ φ1, irun ev I (d, φ) = some (d, φ1) ∧ (∀ i, i < d → φ1 i = φ i) ∧ φ1 d 6 = v ev ∧ ∀ f, f ≠ 6 → f ≠ 7 → φ1 d f = φ d f
def S2 (d : Nat) (I : List Int32) (v : EVV) : Prop := ∀ (ev : EV) (φ : Nat → RW), bse φ d → φ d 7 = 0 → φ d 4 = 0 → φ d 5 = 20 → ∃ φ1, irun ev I (d, φ) = some (d, φ1) ∧ (∀ i, i < d → φ1 i = φ i) ∧ smV (φ1 d) = v ev ∧ ∀ f, f < 4 ∨ f = 8 → φ1 d f = φ d f
def S1 (d : Nat) (I : List Int32) (v : EVV) : Prop := ∀ (ev : EV) (φ : Nat → RW), bse φ d → φ d 7 = 0 → φ d 4 = 0 → φ d 5 = 20 → φ d 3 = 0 → ∃ φ1, irun ev I (d, φ) = some (d, φ1) ∧ (∀ i, i < d → φ1 i = φ i) ∧ teV (φ1 d) = v ev ∧ ∀ f, f < 2 ∨ f = 8 → φ1 d f = φ d f
def S0 (d : Nat) (I : List Int32) (v : EVV) : Prop := ∀ (ev : EV) (φ : Nat → RW), bse φ d → clr (φ d) → ∃ φ1, irun ev I (d, φ) = some (d, φ1) ∧ (∀ i, i < d → φ1 i = φ i) ∧ chV (φ1 d) = v ev ∧ φ1 d 8 = φ d 8
theorem irun1 (ev : EV) (c : Int32) (s s' : WS) (h : istep ev s c = some s') : irun ev [c] s = some s' := by rw [irun, h]; rfl
theorem irun_c (ev : EV) (c : Int32) (l : List Int32) {s s' : WS} (h : istep ev s c = some s') : irun ev (c :: l) s = irun ev l s' := by rw [irun, h]; rfl
theorem irun_a (ev : EV) {l : List Int32} (l' : List Int32) {s s' : WS} (h : irun ev l s = some s') : irun ev (l ++ l') s = irun ev l' s' := by rw [irun_app, h]; rfl
/-- parts -/
theorem s4_num {d k : Nat} (hk : k < 10000) : S4 d [nI (100 + k)] (fun _ => nI k) := by
  intro ev φ
  refine ⟨φ, fun _ _ => rfl, irun1 ev _ _ _ ?_⟩
  have e : ∀ m, m < 100 → ¬ nI (100 + k) = nI m := fun m hm z => by have := nI_inj (by omega) (by omega) z; omega
  unfold istep
  rw [if_neg (by rintro (z | z); exact e 28 (by decide) z; exact e 30 (by decide) z), if_neg (by rintro (z | z); exact e 20 (by decide) z; exact e 21 (by decide) z), if_neg (show ¬ nI (100 + k) = 22 from e 22 (by decide)), if_neg (by rintro (z | z); exact e 24 (by decide) z; exact e 25 (by decide) z), if_neg (by rintro (z | z); exact e 26 (by decide) z; exact e 27 (by decide) z), if_neg (show ¬ nI (100 + k) = 29 from e 29 (by decide)), if_neg (by rintro (z | z | z | z); exact e 1 (by decide) z; exact e 2 (by decide) z; exact e 3 (by decide) z; exact e 4 (by decide) z), if_neg (show ¬ nI (100 + k) < 100 from fun z => by rw [show (100 : Int32) = nI 100 from rfl, nI_ltI (by omega) (by omega)] at z; omega), show nI (100 + k) - 100 = nI k from by rw [show (100 : Int32) = nI 100 from rfl, pk_sub (by omega), Nat.add_sub_cancel_left]]
theorem s4_fact {d f : Nat} (h1 : 1 ≤ f) (h4 : f ≤ 4) : S4 d [nI f] (fun ev => ev f) := by
  intro ev φ
  refine ⟨φ, fun _ _ => rfl, irun1 ev _ _ _ ?_⟩
  rcases (show f = 1 ∨ f = 2 ∨ f = 3 ∨ f = 4 by omega) with rfl | rfl | rfl | rfl <;> rfl
theorem sp_num {k : Nat} (hk : k < 10000) : Sp 1 [nI k] (fun _ => nI k) := by
  intro ev st h
  show pstep ev st (nI k) = _
  have hp : 0 ≤ nI k := nI_pos' (by omega)
  unfold pstep
  rw [if_neg (fun z => Int32.lt_irrefl (Int32.lt_of_lt_of_le (Int32.lt_of_lt_of_le z (by decide)) hp)), if_neg (fun z => by rw [z] at hp; exact absurd hp (by decide)), if_pos (by omega), if_neg (nI_pos (by omega))]
theorem sp_fact {f : Nat} (h1 : 1 ≤ f) (h4 : f ≤ 4) : Sp 1 [- nI f] (fun ev => ev f) := by
  intro ev st h
  show pstep ev st (- nI f) = _
  unfold pstep
  rcases (show f = 1 ∨ f = 2 ∨ f = 3 ∨ f = 4 by omega) with rfl | rfl | rfl | rfl <;> rw [if_neg (by decide), if_neg (by decide), if_pos (by omega)] <;> rfl
theorem s4_not {d : Nat} {I : List Int32} {v : EVV} (hd : d < 6) (h : S4 (d + 1) I v) : S4 d (30 :: I) (fun ev => ngt (v ev)) := by
  intro ev φ
  have ei : istep ev (d, φ) 30 = some (d + 1, sR φ (d + 1) (opR (upd (φ (d + 1)) 8 1))) := by
    unfold istep
    rw [if_pos (Or.inr rfl), if_pos hd, if_pos rfl]
  obtain ⟨φ1, h1, h2⟩ := h ev (sR φ (d + 1) (opR (upd (φ (d + 1)) 8 1)))
  refine ⟨φ1, fun i hi => by rw [h1 i (by omega), sR_ne _ _ (by omega)], ?_⟩
  rw [irun_c ev _ _ ei, h2, dlv, if_pos]
  rw [h1 (d + 1) (Nat.le_refl _), sR_at]
  rfl
theorem sp_not {H : Nat} {C : List Int32} {v : EVV} (h : Sp H C v) : Sp H (C ++ [-5]) (fun ev => ngt (v ev)) := by
  intro ev st hl
  rw [pfl_app, h ev st hl]
  show pstep ev (v ev :: st) (-5) = _
  unfold pstep
  rw [if_neg (by decide), if_pos rfl]
theorem s4_par {d : Nat} {I : List Int32} {v : EVV} (hd : d < 6) (h : S0 (d + 1) I v) : S4 d (28 :: (I ++ [29])) v := by
  intro ev φ
  have ei : istep ev (d, φ) 28 = some (d + 1, sR φ (d + 1) (opR (upd (φ (d + 1)) 8 0))) := by
    unfold istep
    rw [if_pos (Or.inl rfl), if_pos hd, if_neg (by decide)]
  obtain ⟨φ1, h1, h2, h3, h4⟩ := h ev (sR φ (d + 1) (opR (upd (φ (d + 1)) 8 0))) (Or.inr (by rw [sR_at]; exact (by decide : ¬ (0 : Int32) = 1))) (by rw [sR_at]; exact opR_clr _)
  refine ⟨sR φ1 (d + 1) (teR (φ1 (d + 1))), fun i hi => by rw [sR_ne _ _ (by omega), h2 i (by omega), sR_ne _ _ (by omega)], ?_⟩
  rw [irun_c ev _ _ ei, irun_a ev _ h1]
  refine irun1 ev _ _ _ ?_
  unfold istep
  rw [if_neg (by decide), if_neg (by decide), if_neg (by decide), if_neg (by decide), if_neg (by decide), if_pos rfl, if_pos (Nat.succ_pos d)]
  show some (dlv (chV (φ1 (d + 1))) (d + 1 - 1) _) = _
  rw [h3, Nat.add_sub_cancel]
/-- a value at a row that no not holds -/
theorem dlv_bse {φ : Nat → RW} : ∀ (d : Nat) (v : Int32), bse φ d → dlv v d φ = (d, sR φ d (tmR (φ d) v))
  | 0, _, _ => rfl
  | d + 1, v, h => by rw [dlv, if_neg (h.resolve_left (by omega))]
theorem bse_eq {φ φ1 : Nat → RW} {d : Nat} (h : bse φ d) (e : φ1 d 8 = φ d 8) : bse φ1 d := by
  unfold bse
  rw [e]; exact h
theorem s3_one {d : Nat} {I : List Int32} {v : EVV} (h : S4 d I v) : S3 d I v := by
  intro ev φ hb h7
  obtain ⟨φ1, h1, h2⟩ := h ev φ
  have e := h1 d (Nat.le_refl d)
  rw [dlv_bse d _ (bse_eq hb (by rw [e]))] at h2
  refine ⟨_, h2, fun i hi => by rw [sR_ne _ _ (by omega), h1 i (by omega)], ?_, fun f f6 f7 => ?_⟩
  · rw [sR_at, e]
    show upd (φ d) 6 _ 6 = _
    rw [pk_us, if_pos h7]
  · rw [sR_at, e]
    show upd (φ d) 6 _ f = _
    rw [pk_un f6]
theorem s3_mul {d : Nat} {I I' : List Int32} {v v' : EVV} (h : S3 d I v) (h' : S4 d I' v') : S3 d (I ++ 22 :: I') (fun ev => v ev * v' ev) := by
  intro ev φ hb h7
  obtain ⟨φ1, h1, h2, h3, h4⟩ := h ev φ hb h7
  have ei : istep ev (d, φ1) 22 = some (d, sR φ1 d (upd (φ1 d) 7 22)) := by
    unfold istep
    rw [if_neg (by decide), if_neg (by decide), if_pos rfl]
  obtain ⟨φ2, g1, g2⟩ := h' ev (sR φ1 d (upd (φ1 d) 7 22))
  have e := g1 d (Nat.le_refl d)
  rw [sR_at] at e
  have b2 : bse φ2 d := bse_eq hb (by rw [e, pk_un (by decide), h4 8 (by decide) (by decide)])
  rw [dlv_bse d _ b2] at g2
  refine ⟨_, by rw [irun_a ev _ h1, irun_c ev _ _ ei]; exact g2, fun i hi => by rw [sR_ne _ _ (by omega), g1 i (by omega), sR_ne _ _ (by omega), h2 i hi], ?_, fun f f6 f7 => ?_⟩
  · rw [sR_at, e]
    show upd (upd (φ1 d) 7 22) 6 _ 6 = _
    rw [pk_us, pk_us, if_neg (by decide), pk_un (by decide), h3]
  · rw [sR_at, e]
    show upd (upd (φ1 d) 7 22) 6 _ f = _
    rw [pk_un f6, pk_un f7, h4 f f6 f7]
theorem i0_add (x : Int32) : (0 : Int32) + x = x := Int32.zero_add x
theorem s2_one {d : Nat} {I : List Int32} {v : EVV} (h : S3 d I v) : S2 d I v := by
  intro ev φ hb h7 h4 h5
  obtain ⟨φ1, h1, h2, h3, q⟩ := h ev φ hb h7
  refine ⟨φ1, h1, h2, ?_, fun f hf => q f (by omega) (by omega)⟩
  unfold smV
  rw [q 5 (by decide) (by decide), q 4 (by decide) (by decide), h5, h4, h3, if_neg (by decide), i0_add]
theorem s2_add {d : Nat} {I I' : List Int32} {v v' : EVV} {c : Int32} (hc : c = 20 ∨ c = 21) (h : S2 d I v) (h' : S3 d I' v') : S2 d (I ++ c :: I') (fun ev => if c = 21 then v ev - v' ev else v ev + v' ev) := by
  intro ev φ hb h7 h4 h5
  obtain ⟨φ1, h1, h2, h3, q⟩ := h ev φ hb h7 h4 h5
  have ei : istep ev (d, φ1) c = some (d, sR φ1 d (upd (smR (φ1 d)) 5 c)) := by
    unfold istep
    rw [if_neg (by rcases hc with z | z <;> rw [z] <;> decide), if_pos hc]
  have b1 : bse (sR φ1 d (upd (smR (φ1 d)) 5 c)) d := bse_eq hb (by rw [sR_at]; exact q 8 (Or.inr rfl))
  obtain ⟨φ2, g1, g2, g3, g4⟩ := h' ev _ b1 (by rw [sR_at]; rfl)
  refine ⟨φ2, by rw [irun_a ev _ h1, irun_c ev _ _ ei]; exact g1, fun i hi => by rw [g2 i hi, sR_ne _ _ (by omega), h2 i hi], ?_, fun f hf => ?_⟩
  · unfold smV
    rw [g4 5 (by decide) (by decide), g4 4 (by decide) (by decide), g3, sR_at]
    show (if c = 21 then smV (φ1 d) - v' ev else smV (φ1 d) + v' ev) = _
    rw [h3]
  · rw [g4 f (by omega) (by omega), sR_at]
    unfold smR
    rw [pk_un (by omega), pk_un (by omega), pk_un (by omega)]
    exact q f hf
theorem s1_one {d : Nat} {I : List Int32} {v : EVV} (h : S2 d I v) : S1 d I v := by
  intro ev φ hb h7 h4 h5 h3'
  obtain ⟨φ1, h1, h2, h3, q⟩ := h ev φ hb h7 h4 h5
  refine ⟨φ1, h1, h2, ?_, fun f hf => q f (by omega)⟩
  unfold teV
  rw [q 3 (by omega), h3', if_neg (by decide), if_neg (by decide)]
  exact h3
theorem s1_cmp {d : Nat} {I I' : List Int32} {v v' : EVV} {c : Int32} (hc : c = 24 ∨ c = 25) (h : S2 d I v) (h' : S2 d I' v') : S1 d (I ++ c :: I') (fun ev => if c = 25 then (if v ev = v' ev then 1 else 0) else (if v' ev ≤ v ev then 0 else 1)) := by
  intro ev φ hb h7 h4 h5 h3'
  obtain ⟨φ1, h1, h2, h3, q⟩ := h ev φ hb h7 h4 h5
  have ei : istep ev (d, φ1) c = some (d, sR φ1 d (cmR (φ1 d) c)) := by
    unfold istep
    rw [if_neg (by rcases hc with z | z <;> rw [z] <;> decide), if_neg (by rcases hc with z | z <;> rw [z] <;> decide), if_neg (by rcases hc with z | z <;> rw [z] <;> decide), if_pos hc]
  have b1 : bse (sR φ1 d (cmR (φ1 d) c)) d := bse_eq hb (by rw [sR_at]; exact q 8 (Or.inr rfl))
  obtain ⟨φ2, g1, g2, g3, g4⟩ := h' ev _ b1 (by rw [sR_at]; rfl) (by rw [sR_at]; rfl) (by rw [sR_at]; rfl)
  refine ⟨φ2, by rw [irun_a ev _ h1, irun_c ev _ _ ei]; exact g1, fun i hi => by rw [g2 i hi, sR_ne _ _ (by omega), h2 i hi], ?_, fun f hf => ?_⟩
  · unfold teV
    rw [g3, g4 3 (by omega), g4 2 (by omega), sR_at]
    show (if c = 25 then (if smV (φ1 d) = v' ev then (1 : Int32) else 0) else (if c = 24 then (if v' ev ≤ smV (φ1 d) then 0 else 1) else v' ev)) = _
    rw [h3]
    rcases hc with z | z
    · have w : ¬ (24 : Int32) = 25 := by decide
      rw [z]; dsimp only; rw [if_neg w, if_pos rfl, if_neg w]
    · rw [z]; dsimp only; rw [if_pos rfl, if_pos rfl]
  · rw [g4 f (by omega), sR_at]
    unfold cmR smR
    rw [pk_un (by omega), pk_un (by omega), pk_un (by omega), pk_un (by omega), pk_un (by omega), pk_un (by omega)]
    exact q f (by omega)
theorem s0_one {d : Nat} {I : List Int32} {v : EVV} (h : S1 d I v) : S0 d I v := by
  intro ev φ hb hc
  obtain ⟨φ1, h1, h2, h3, q⟩ := h ev φ hb hc.2.2.2.2 hc.2.2.1 hc.2.2.2.1 hc.2.1
  refine ⟨φ1, h1, h2, ?_, q 8 (Or.inr rfl)⟩
  unfold chV
  rw [q 1 (by omega), hc.1, if_neg (by decide), if_neg (by decide)]
  exact h3
theorem s0_and {d : Nat} {I I' : List Int32} {v v' : EVV} {c : Int32} (hc : c = 26 ∨ c = 27) (h : S0 d I v) (h' : S1 d I' v') : S0 d (I ++ c :: I') (fun ev => if c = 27 then (if v ev = 0 then (if v' ev = 0 then 0 else 1) else 1) else (if v ev = 0 then 0 else (if v' ev = 0 then 0 else 1))) := by
  intro ev φ hb hcl
  obtain ⟨φ1, h1, h2, h3, q⟩ := h ev φ hb hcl
  have ei : istep ev (d, φ1) c = some (d, sR φ1 d (upd (teR (φ1 d)) 1 c)) := by
    unfold istep
    rw [if_neg (by rcases hc with z | z <;> rw [z] <;> decide), if_neg (by rcases hc with z | z <;> rw [z] <;> decide), if_neg (by rcases hc with z | z <;> rw [z] <;> decide), if_neg (by rcases hc with z | z <;> rw [z] <;> decide), if_pos hc]
  have b1 : bse (sR φ1 d (upd (teR (φ1 d)) 1 c)) d := bse_eq hb (by rw [sR_at]; exact q)
  obtain ⟨φ2, g1, g2, g3, g4⟩ := h' ev _ b1 (by rw [sR_at]; rfl) (by rw [sR_at]; rfl) (by rw [sR_at]; rfl) (by rw [sR_at]; rfl)
  refine ⟨φ2, by rw [irun_a ev _ h1, irun_c ev _ _ ei]; exact g1, fun i hi => by rw [g2 i hi, sR_ne _ _ (by omega), h2 i hi], ?_, ?_⟩
  · unfold chV
    rw [g3, g4 1 (by omega), g4 0 (by omega), sR_at]
    show (if c = 27 then (if chV (φ1 d) = 0 then (if v' ev = 0 then (0 : Int32) else 1) else 1) else (if c = 26 then (if chV (φ1 d) = 0 then 0 else (if v' ev = 0 then 0 else 1)) else v' ev)) = _
    rw [h3]
    rcases hc with z | z
    · have w : ¬ (26 : Int32) = 27 := by decide
      rw [z]; dsimp only; rw [if_neg w, if_pos rfl, if_neg w]
    · rw [z]; dsimp only; rw [if_pos rfl, if_pos rfl]
  · rw [g4 8 (Or.inr rfl), sR_at]
    exact q
theorem sp_bin {H H' : Nat} {C C' : List Int32} {v v' : EVV} {c : Int32} (hc : c < -5) (hH : H' + 1 ≤ H) (h : Sp H C v) (h' : Sp H' C' v') : Sp H (C ++ (C' ++ [c])) (fun ev => cmb c (v ev) (v' ev)) := by
  intro ev st hl
  rw [pfl_app, pfl_app, h ev st hl, h' ev (v ev :: st) (by rw [List.length_cons]; omega)]
  show pstep ev (v' ev :: v ev :: st) c = _
  unfold pstep
  rw [if_pos hc]
theorem sp_mono {H H' : Nat} {C : List Int32} {v : EVV} (hH : H ≤ H') (h : Sp H C v) : Sp H' C v := fun ev st hl => h ev st (by omega)
/-- the levels, by one name: what stands at level L is worth v -/
def SL (L d : Nat) (I : List Int32) (v : EVV) : Prop := if L = 0 then S0 d I v else if L = 1 then S1 d I v else if L = 2 then S2 d I v else if L = 3 then S3 d I v else S4 d I v
theorem sl_one {L d : Nat} {I : List Int32} {v : EVV} (hL : L ≤ 3) (h : SL (L + 1) d I v) : SL L d I v := by
  rcases (show L = 0 ∨ L = 1 ∨ L = 2 ∨ L = 3 by omega) with rfl | rfl | rfl | rfl
  · exact s0_one h
  · exact s1_one h
  · exact s2_one h
  · exact s3_one h
