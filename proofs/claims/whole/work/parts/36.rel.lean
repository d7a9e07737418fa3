/-! ===== how the class's world and the reference's hold one thing ===== -/
/-- words as letters 1 .. 26, 8 at most, and their numbers -/
def wOK (l : List Nat) : Prop := l.length ≤ 8 ∧ l ≠ [] ∧ ∀ x ∈ l, 1 ≤ x ∧ x ≤ 26
def enc (b : Nat) (l : List Nat) : Nat := l.foldl (fun s x => s * b + x) 0
/-- the lines of a term: t 0 0 how many; of line k: t 1 k deed, t 2 k, t 3 k whom or what, t 4 k how much -/
abbrev AT : Type := Nat → Nat → Nat
def TB (r : AR) (t : AT) : Prop := t 0 0 ≤ 40 ∧ ∀ k, k < t 0 0 → t 1 k ≤ 4 ∧ (t 1 k ≤ 1 → t 2 k < r 0 0 ∧ 1 ≤ t 4 k ∧ t 4 k ≤ 20) ∧ (t 1 k = 2 → t 2 k < r 0 0 ∧ t 3 k < r 0 0 ∧ t 2 k ≠ t 3 k) ∧ (t 1 k = 3 → t 2 k < r 0 1 ∧ t 3 k < r 0 1 ∧ t 2 k ≠ t 3 k ∧ 1 ≤ t 4 k ∧ t 4 k ≤ 20)
def TX (σ : FH) (c : Nat) (t : AT) : Prop := LX[c]? = some (8, 0) ∧ σ.1 c 0 = nI (t 0 0) ∧ ∀ k, k < t 0 0 → σ.1 (c + 1) k = nI (t 1 k) ∧ (t 1 k ≠ 4 → σ.1 (c + 2) k = nI (t 2 k)) ∧ (t 1 k = 2 ∨ t 1 k = 3 → σ.1 (c + 3) k = nI (t 3 k)) ∧ (t 1 k ≠ 2 ∧ t 1 k ≠ 4 → σ.1 (c + 4) k = nI (t 4 k))
def TM (σ : FH) (o : Nat) (t : AT) : Prop := σ.1 25 o = nI (t 0 0) ∧ ∀ k, k < t 0 0 → σ.1 26 (40 * o + k) = nI (t 1 k) ∧ (t 1 k ≠ 4 → σ.1 27 (40 * o + k) = nI (t 2 k)) ∧ (t 1 k = 2 ∨ t 1 k = 3 → σ.1 28 (40 * o + k) = nI (t 3 k)) ∧ (t 1 k ≠ 2 ∧ t 1 k ≠ 4 → σ.1 29 (40 * o + k) = nI (t 4 k))
/-- what is said: d 0 0 how many; d 1 k weeks, d 2 k half or not -/
def DB (d : AT) : Prop := d 0 0 ≤ 8 ∧ ∀ k, k < d 0 0 → d 1 k ≤ 30 ∧ d 2 k ≤ 1
def DX (σ : FH) (c : Nat) (d : AT) : Prop := LX[c]? = some (6, 0) ∧ σ.1 c 0 = nI (d 0 0) ∧ ∀ k, k < d 0 0 → σ.1 (c + 1) k = nI (d 1 k) ∧ σ.1 (c + 2) k = nI (d 2 k)
def DM (σ : FH) (o : Nat) (d : AT) : Prop := σ.1 30 o = nI (d 0 0) ∧ ∀ k, k < d 0 0 → σ.1 31 (8 * o + k) = nI (d 1 k) ∧ σ.1 32 (8 * o + k) = nI (d 2 k)
/-- the tape -/
def tOK (x : Nat) : Prop := x = 10 ∨ (32 ≤ x ∧ x ≤ 126)
def PX (σx σm : FH) : Prop := ∃ (L : Nat) (tp : Nat → Nat), L ≤ 1000 ∧ σx.1 3 1 = nI L ∧ σm.1 0 1 = nI L ∧ ∀ j, j < L → tOK (tp j) ∧ σx.1 4 j = nI (tp j) ∧ σm.1 1 j = nI (tp j)
/-- the names -/
def NX (σx σm : FH) (T : Nat) (r : AR) : Prop := ∃ wn pn : Nat → List Nat, (∀ i, i < r 0 0 → wOK (wn i) ∧ σx.2.1 (T + 1) i = Int64.ofNat (enc 32 (wn i)) ∧ σm.2.1 3 i = Int64.ofNat (enc 27 (wn i))) ∧ ∀ p, p < r 0 1 → wOK (pn p) ∧ σx.2.1 (T + 5) p = Int64.ofNat (enc 32 (pn p)) ∧ σm.2.1 4 p = Int64.ofNat (enc 27 (pn p))
/-- the movable references -/
def MV (σ : FH) : Prop := ((σ.2.2 2 = 17 ∧ σ.2.2 3 = 28) ∨ (σ.2.2 2 = 28 ∧ σ.2.2 3 = 17)) ∧ ((σ.2.2 4 = 39 ∧ σ.2.2 5 = 44) ∨ (σ.2.2 4 = 44 ∧ σ.2.2 5 = 39))
/-- what can be undone -/
def UX (σx σm : FH) (r : AR) (n : Nat) : Prop := ∃ (c nx : Nat) (us : Nat → AS), c ≤ 16 ∧ nx < 16 ∧ σx.1 0 11 = nI c ∧ σx.1 0 12 = nI nx ∧ σm.1 0 51 = nI c ∧ ∀ k, k < c → SX σx (51 + 3 * ((nx + 16 - c + k) % 16)) (us k) ∧ SM σm 37 (14 * k) (us k) ∧ SB r (us k) n
/-- the marks -/
def KX (σx σm : FH) (r : AR) (n : Nat) : Prop := ∀ j, j < 4 → ∃ f, f ≤ 1 ∧ σx.1 (99 + 13 * j) 0 = nI f ∧ σm.1 38 j = nI f ∧ (f = 1 → ∃ (a : AS) (t d : AT), SX σx (99 + 13 * j + 1) a ∧ SM σm 36 (14 * j) a ∧ SB r a n ∧ TX σx (99 + 13 * j + 4) t ∧ TM σm (1 + j) t ∧ TB r t ∧ DX σx (99 + 13 * j + 9) d ∧ DM σm (1 + j) d ∧ DB d)
/-- the whole: after n calls -/
def Rel (n : Nat) (σx σm : FH) : Prop := ∃ (r : AR) (ef : EF) (a : AS) (t d : AT), MV σx ∧ RB r ∧ EB ef ∧ RX σx (σx.2.2 2) r ∧ EX σx (σx.2.2 2) ef ∧ RM σm 0 r ∧ EM σm ef ∧ NX σx σm (σx.2.2 2) r ∧ SX σx 7 a ∧ SM σm 33 0 a ∧ SB r a n ∧ TX σx (σx.2.2 4) t ∧ TM σm 0 t ∧ TB r t ∧ DX σx 13 d ∧ DM σm 0 d ∧ DB d ∧ PX σx σm ∧ UX σx σm r n ∧ KX σx σm r n
/-- cells that only serve a call -/
def scX (b : Nat) : Prop := b = 5 ∨ b = 6 ∨ b = 10 ∨ b = 11 ∨ b = 12 ∨ b = 16 ∨ b = 27 ∨ b = 38
def scQ (b : Nat) : Prop := scrM b ∨ b = 34 ∨ b = 35 ∨ b = 39
def agQ (σ σ' : FH) : Prop := (∀ b, b ≠ 0 → ¬ scQ b → σ'.1 b = σ.1 b) ∧ (∀ k, k ≠ 0 → k ≠ 52 → σ'.1 0 k = σ.1 0 k) ∧ (∀ b j, ¬ (b = 0 ∧ j = 54) → σ'.2.1 b j = σ.2.1 b j) ∧ σ'.2.2 = σ.2.2
theorem agQ_rf (σ : FH) : agQ σ σ := ⟨fun _ _ _ => rfl, fun _ _ _ => rfl, fun _ _ _ => rfl, rfl⟩
theorem agQ_tr {a b c : FH} (h : agQ a b) (h' : agQ b c) : agQ a c := ⟨fun q h1 h2 => (h'.1 q h1 h2).trans (h.1 q h1 h2), fun k h1 h2 => (h'.2.1 k h1 h2).trans (h.2.1 k h1 h2), fun b j h1 => (h'.2.2.1 b j h1).trans (h.2.2.1 b j h1), h'.2.2.2.trans h.2.2.2⟩
theorem agQ_th {σ : FH} {v : Int32} : agQ σ (fx_si σ 0 0 v) := ⟨fun b h1 _ => fx_si_o h1, fun k h1 _ => by rw [si1, if_neg (by omega)], fun _ _ _ => rfl, rfl⟩
theorem SX_sc {σ σ' : FH} {t : Nat} {a : AS} (h : SX σ t a) (g : agr scX σ σ') (ht : t = 7 ∨ 51 ≤ t) : SX σ' t a := SX_agr h g (fun i hi => by unfold scX; omega)
theorem TX_sc {σ σ' : FH} {c : Nat} {t : AT} (h : TX σ c t) (g : agr scX σ σ') (hc : 39 ≤ c) : TX σ' c t := by
  have e : ∀ i, i < 5 → σ'.1 (c + i) = σ.1 (c + i) := fun i hi => g.1 _ (by unfold scX; omega)
  have e0 := e 0 (by omega)
  rw [Nat.add_zero] at e0
  unfold TX
  rw [e0, e 1 (by omega), e 2 (by omega), e 3 (by omega), e 4 (by omega)]
  exact h
theorem DX_sc {σ σ' : FH} {c : Nat} {d : AT} (h : DX σ c d) (g : agr scX σ σ') (hc : c = 13 ∨ 51 ≤ c) : DX σ' c d := by
  have e : ∀ i, i < 3 → σ'.1 (c + i) = σ.1 (c + i) := fun i hi => g.1 _ (by unfold scX; omega)
  have e0 := e 0 (by omega)
  rw [Nat.add_zero] at e0
  unfold DX
  rw [e0, e 1 (by omega), e 2 (by omega)]
  exact h
theorem Rel_sc {n : Nat} {σx σm σx' σm' : FH} (h : Rel n σx σm) (g : agr scX σx σx') (q : agQ σm σm') : Rel n σx' σm' := by
  obtain ⟨r, ef, a, t, d, h1, h2, h3, h4, h5, h6, h7, h8, h9, h10, h11, h12, h13, h14, h15, h16, h17, h18, h19, h20⟩ := h
  have hv : σx'.2 = σx.2 := g.2
  have hT : σx.2.2 2 = 17 ∨ σx.2.2 2 = 28 := by rcases h1.1 with x | x <;> omega
  have hTT : σx.2.2 4 = 39 ∨ σx.2.2 4 = 44 := by rcases h1.2 with x | x <;> omega
  have e : ∀ b, b = 2 ∨ (5 ≤ b ∧ b ≤ 12) ∨ (25 ≤ b ∧ b ≤ 33) ∨ b = 36 ∨ b = 37 ∨ b = 38 ∨ b = 1 → σm'.1 b = σm.1 b := fun b hb => q.1 b (by omega) (by unfold scQ scrM; omega)
  have hTM : ∀ o t, TM σm o t → TM σm' o t := fun o t hh => by
    unfold TM
    rw [e 25 (by omega), e 26 (by omega), e 27 (by omega), e 28 (by omega), e 29 (by omega)]
    exact hh
  have hDM : ∀ o t, DM σm o t → DM σm' o t := fun o t hh => by
    unfold DM
    rw [e 30 (by omega), e 31 (by omega), e 32 (by omega)]
    exact hh
  have hSM : ∀ c o a, c = 33 ∨ c = 36 ∨ c = 37 → SM σm c o a → SM σm' c o a := fun c o a hc hh k hk => by
    rw [e c (by omega)]
    exact hh k hk
  unfold Rel MV
  rw [hv]
  refine ⟨r, ef, a, t, d, h1, h2, h3, RX_agr h4 g (fun i hi => by unfold scX; omega), EX_agr h5 g (by unfold scX; omega) (by unfold scX; omega), ?_, ?_, ?_, SX_sc h9 g (Or.inl rfl), hSM 33 0 a (by omega) h10, h11, TX_sc h12 g (by omega), hTM 0 t h13, h14, DX_sc h15 g (Or.inl rfl), hDM 0 d h16, h17, ?_, ?_, ?_⟩
  · rw [RM, e 2 (by omega), e 5 (by omega), e 6 (by omega), e 7 (by omega), e 8 (by omega), e 9 (by omega)]
    exact h6
  · intro so half votes date σ0 a1 a2 a3 a4 e1 e2 e3
    rw [e 10 (by omega)] at e1
    rw [e 11 (by omega)] at e2
    exact h7 so half votes date σ0 a1 a2 a3 a4 e1 e2 (fun k hk => by rw [e3 k hk, e 12 (by omega)])
  · obtain ⟨wn, pn, n1, n2⟩ := h8
    refine ⟨wn, pn, fun i hi => ?_, fun p hp => ?_⟩
    · rw [hv, q.2.2.1 3 i (by omega)]; exact n1 i hi
    · rw [hv, q.2.2.1 4 p (by omega)]; exact n2 p hp
  · obtain ⟨L, tp, p1, p2, p3, p4⟩ := h18
    refine ⟨L, tp, p1, by rw [g.1 3 (by unfold scX; omega)]; exact p2, by rw [q.2.1 1 (by omega) (by omega)]; exact p3, fun j hj => ?_⟩
    rw [g.1 4 (by unfold scX; omega), e 1 (by omega)]
    exact p4 j hj
  · obtain ⟨c, nx, us, u1, u2, u3, u4, u5, u6⟩ := h19
    refine ⟨c, nx, us, u1, u2, by rw [g.1 0 (by unfold scX; omega)]; exact u3, by rw [g.1 0 (by unfold scX; omega)]; exact u4, by rw [q.2.1 51 (by omega) (by omega)]; exact u5, fun k hk => ?_⟩
    exact ⟨SX_sc (u6 k hk).1 g (by omega), hSM 37 _ _ (by omega) (u6 k hk).2.1, (u6 k hk).2.2⟩
  · intro j hj
    obtain ⟨f, f1, f2, f3, f4⟩ := h20 j hj
    refine ⟨f, f1, by rw [g.1 _ (by unfold scX; omega)]; exact f2, by rw [e 38 (by omega)]; exact f3, fun hf => ?_⟩
    obtain ⟨a', t', d', m1, m2, m3, m4, m5, m6, m7, m8, m9⟩ := f4 hf
    exact ⟨a', t', d', SX_sc m1 g (by omega), hSM 36 _ _ (by omega) m2, m3, TX_sc m4 g (by omega), hTM _ _ m5, m6, DX_sc m7 g (by omega), hDM _ _ m8, m9⟩
theorem SB_up {r : AR} {a : AS} {n m : Nat} (h : SB r a n) (hm : n ≤ m) : SB r a m := by
  obtain ⟨h1, h2, h3, h4⟩ := h
  have : 4000 * n ≤ 4000 * m := Nat.mul_le_mul_left _ hm
  exact ⟨by omega, by omega, by omega, h4⟩
theorem Rel_up {n m : Nat} {σx σm : FH} (h : Rel n σx σm) (hm : n ≤ m) : Rel m σx σm := by
  obtain ⟨r, ef, a, t, d, h1, h2, h3, h4, h5, h6, h7, h8, h9, h10, h11, h12, h13, h14, h15, h16, h17, h18, h19, h20⟩ := h
  refine ⟨r, ef, a, t, d, h1, h2, h3, h4, h5, h6, h7, h8, h9, h10, SB_up h11 hm, h12, h13, h14, h15, h16, h17, h18, ?_, ?_⟩
  · obtain ⟨c, nx, us, u1, u2, u3, u4, u5, u6⟩ := h19
    exact ⟨c, nx, us, u1, u2, u3, u4, u5, fun k hk => ⟨(u6 k hk).1, (u6 k hk).2.1, SB_up (u6 k hk).2.2 hm⟩⟩
  · intro j hj
    obtain ⟨f, f1, f2, f3, f4⟩ := h20 j hj
    refine ⟨f, f1, f2, f3, fun hf => ?_⟩
    obtain ⟨a', t', d', m1, m2, m3, m4, m5, m6, m7, m8, m9⟩ := f4 hf
    exact ⟨a', t', d', m1, m2, SB_up m3 hm, m4, m5, m6, m7, m8, m9⟩
