/-! ===== words: which of the language's a token is, which name ===== -/
def wds : List (List Nat) := [[23, 1, 18, 5], [23, 8, 15, 12, 5], [4, 15, 14, 5], [16, 1, 18, 20, 25], [19, 5, 1, 20, 19], [6, 15, 18], [6, 9, 14, 5], [23, 15, 18, 11, 19], [23, 15, 18, 11], [19, 20, 15, 16], [10, 15, 9, 14], [12, 5, 14, 4], [23, 5, 5, 11], [16, 12, 1, 9, 14], [2, 18, 9, 4, 7, 5], [12, 5, 20, 20, 5, 18], [3, 12, 15, 3, 11], [14, 15, 20], [1, 14, 4], [15, 18], [19, 15], [8, 1, 12, 6], [22, 15, 20, 5, 19], [4, 1, 20, 5]]
def wdn (k : Nat) : List Nat := wds.getD k []
def k27 : List Int64 := [453929, 12391871, 90050, 8536426, 10197082, 4797, 125042, 12531826, 464141, 388978, 208022, 240223, 456500, 8740238, 38444009, 175252482, 1841546, 10631, 1111, 423, 528, 158523, 12001681, 80006]
theorem wdn_32 : ∀ a, a < 24 → fx_keys.getD a 0 = lN (enc 32 (wdn a)) := by decide +kernel
theorem wdn_27 : ∀ a, a < 24 → k27.getD a 0 = lN (enc 27 (wdn a)) := by decide +kernel
theorem wdn_ne : ∀ a, a < 24 → ∀ b, b < 24 → wdn a = wdn b → a = b := by decide +kernel
theorem wdn_ok2 : ∀ a, a < 24 → decide ((wdn a).length ≤ 8) = true ∧ (wdn a).isEmpty = false ∧ (wdn a).all (fun x => decide (1 ≤ x ∧ x ≤ 26)) = true := by decide +kernel
theorem wdn_ok {a : Nat} (h : a < 24) : wOK (wdn a) := by
  obtain ⟨h1, h2, h3⟩ := wdn_ok2 a h
  refine ⟨of_decide_eq_true h1, fun e => ?_, fun x hx => of_decide_eq_true (List.all_eq_true.mp h3 x hx)⟩
  rw [e] at h2
  exact absurd h2 (by decide)
/-- digits from the right -/
def encR (b : Nat) : List Nat → Nat
  | [] => 0
  | x :: l => encR b l * b + x
theorem enc_rev (b : Nat) : ∀ l : List Nat, enc b l.reverse = encR b l
  | [] => rfl
  | x :: l => by rw [List.reverse_cons, enc_app, enc_rev b l, encR]
theorem encR_inj32 : ∀ l l' : List Nat, (∀ x ∈ l, 1 ≤ x ∧ x ≤ 26) → (∀ x ∈ l', 1 ≤ x ∧ x ≤ 26) → encR 32 l = encR 32 l' → l = l'
  | [], [], _, _, _ => rfl
  | [], y :: l', _, h2, h => by
    have := h2 y List.mem_cons_self
    rw [encR, encR] at h
    omega
  | x :: l, [], h1, _, h => by
    have := h1 x List.mem_cons_self
    rw [encR, encR] at h
    omega
  | x :: l, y :: l', h1, h2, h => by
    have a1 := h1 x List.mem_cons_self
    have a2 := h2 y List.mem_cons_self
    rw [encR, encR] at h
    have e1 : x = y := by omega
    have e2 : encR 32 l = encR 32 l' := by omega
    rw [e1, encR_inj32 l l' (fun z hz => h1 z (List.mem_cons_of_mem _ hz)) (fun z hz => h2 z (List.mem_cons_of_mem _ hz)) e2]
theorem encR_lt32 : ∀ l : List Nat, (∀ x ∈ l, 1 ≤ x ∧ x ≤ 26) → encR 32 l < 32 ^ l.length
  | [], _ => by decide
  | x :: l, h => by
    have a1 := h x List.mem_cons_self
    have a2 := encR_lt32 l (fun z hz => h z (List.mem_cons_of_mem _ hz))
    rw [encR, List.length_cons, Nat.pow_succ]
    omega
theorem enc_lt32 {l : List Nat} (h : wOK l) : enc 32 l < 32 ^ 8 := by
  have h1 := encR_lt32 l.reverse (fun x hx => h.2.2 x (List.mem_reverse.mp hx))
  rw [← enc_rev, List.reverse_reverse, List.length_reverse] at h1
  exact Nat.lt_of_lt_of_le h1 (Nat.pow_le_pow_right (by decide) h.1)
theorem enc_inj32 {l l' : List Nat} (h : wOK l) (h' : wOK l') : lN (enc 32 l) = lN (enc 32 l') ↔ l = l' := by
  refine ⟨fun e => ?_, fun e => by rw [e]⟩
  have a1 := enc_lt32 h
  have a2 := enc_lt32 h'
  have a3 : 32 ^ 8 < 2 ^ 63 := by decide
  have e1 : (lN (enc 32 l)).toInt = (lN (enc 32 l')).toInt := by rw [e]
  unfold lN at e1
  rw [lg_ofNat_toInt (by omega), lg_ofNat_toInt (by omega)] at e1
  have e2 : enc 32 l = enc 32 l' := by omega
  have e3 : encR 32 l.reverse = encR 32 l'.reverse := by rw [← enc_rev, ← enc_rev, List.reverse_reverse, List.reverse_reverse]; exact e2
  have e4 := encR_inj32 _ _ (fun x hx => h.2.2 x (List.mem_reverse.mp hx)) (fun x hx => h'.2.2 x (List.mem_reverse.mp hx)) e3
  have e5 := congrArg List.reverse e4
  rw [List.reverse_reverse, List.reverse_reverse] at e5
  exact e5
theorem encR_inj27 : ∀ l l' : List Nat, (∀ x ∈ l, 1 ≤ x ∧ x ≤ 26) → (∀ x ∈ l', 1 ≤ x ∧ x ≤ 26) → encR 27 l = encR 27 l' → l = l'
  | [], [], _, _, _ => rfl
  | [], y :: l', _, h2, h => by
    have := h2 y List.mem_cons_self
    rw [encR, encR] at h
    omega
  | x :: l, [], h1, _, h => by
    have := h1 x List.mem_cons_self
    rw [encR, encR] at h
    omega
  | x :: l, y :: l', h1, h2, h => by
    have a1 := h1 x List.mem_cons_self
    have a2 := h2 y List.mem_cons_self
    rw [encR, encR] at h
    have e1 : x = y := by omega
    have e2 : encR 27 l = encR 27 l' := by omega
    rw [e1, encR_inj27 l l' (fun z hz => h1 z (List.mem_cons_of_mem _ hz)) (fun z hz => h2 z (List.mem_cons_of_mem _ hz)) e2]
theorem encR_lt27 : ∀ l : List Nat, (∀ x ∈ l, 1 ≤ x ∧ x ≤ 26) → encR 27 l < 27 ^ l.length
  | [], _ => by decide
  | x :: l, h => by
    have a1 := h x List.mem_cons_self
    have a2 := encR_lt27 l (fun z hz => h z (List.mem_cons_of_mem _ hz))
    rw [encR, List.length_cons, Nat.pow_succ]
    omega
theorem enc_lt27 {l : List Nat} (h : wOK l) : enc 27 l < 27 ^ 8 := by
  have h1 := encR_lt27 l.reverse (fun x hx => h.2.2 x (List.mem_reverse.mp hx))
  rw [← enc_rev, List.reverse_reverse, List.length_reverse] at h1
  exact Nat.lt_of_lt_of_le h1 (Nat.pow_le_pow_right (by decide) h.1)
theorem enc_inj27 {l l' : List Nat} (h : wOK l) (h' : wOK l') : lN (enc 27 l) = lN (enc 27 l') ↔ l = l' := by
  refine ⟨fun e => ?_, fun e => by rw [e]⟩
  have a1 := enc_lt27 h
  have a2 := enc_lt27 h'
  have a3 : 27 ^ 8 < 2 ^ 63 := by decide
  have e1 : (lN (enc 27 l)).toInt = (lN (enc 27 l')).toInt := by rw [e]
  unfold lN at e1
  rw [lg_ofNat_toInt (by omega), lg_ofNat_toInt (by omega)] at e1
  have e2 : enc 27 l = enc 27 l' := by omega
  have e3 : encR 27 l.reverse = encR 27 l'.reverse := by rw [← enc_rev, ← enc_rev, List.reverse_reverse, List.reverse_reverse]; exact e2
  have e4 := encR_inj27 _ _ (fun x hx => h.2.2 x (List.mem_reverse.mp hx)) (fun x hx => h'.2.2 x (List.mem_reverse.mp hx)) e3
  have e5 := congrArg List.reverse e4
  rw [List.reverse_reverse, List.reverse_reverse] at e5
  exact e5
/-- the first that is it; behind the last if none is -/
def fnm (f : Nat → List Nat) (w : List Nat) : Nat → Nat → Nat
  | 0, i => i
  | m + 1, i => if f i = w then i else fnm f w m (i + 1)
theorem fnm_le (f : Nat → List Nat) (w : List Nat) : ∀ (m i : Nat), i ≤ fnm f w m i ∧ fnm f w m i ≤ i + m
  | 0, i => ⟨Nat.le_refl i, Nat.le_refl i⟩
  | m + 1, i => by
    rw [fnm]
    by_cases c : f i = w
    · rw [if_pos c]; omega
    · rw [if_neg c]
      have := fnm_le f w m (i + 1)
      omega
theorem fnm_is (f : Nat → List Nat) (w : List Nat) : ∀ (m i : Nat), fnm f w m i < i + m → f (fnm f w m i) = w
  | 0, i, h => absurd h (by rw [fnm]; omega)
  | m + 1, i, h => by
    rw [fnm] at h ⊢
    by_cases c : f i = w
    · rw [if_pos c]; exact c
    · rw [if_neg c] at h ⊢
      exact fnm_is f w m (i + 1) (by omega)
theorem fnm_mn (f : Nat → List Nat) (w : List Nat) : ∀ (m i k : Nat), i ≤ k → k < fnm f w m i → f k ≠ w
  | 0, i, k, h1, h2 => absurd h2 (by rw [fnm]; omega)
  | m + 1, i, k, h1, h2 => by
    rw [fnm] at h2
    by_cases c : f i = w
    · rw [if_pos c] at h2; omega
    · rw [if_neg c] at h2
      by_cases e : k = i
      · rw [e]; exact c
      · exact fnm_mn f w m (i + 1) k (by omega) h2
/-- a word's number: 24 is another -/
def wxw (w : List Nat) : Nat := fnm wdn w 24 0
theorem wxw_lt (w : List Nat) : wxw w < 25 := by have := (fnm_le wdn w 24 0).2; unfold wxw; omega
theorem wxw_is {w : List Nat} {a : Nat} (h : a < 24) : wxw w = a ↔ w = wdn a := by
  constructor
  · intro e
    have := fnm_is wdn w 24 0 (by unfold wxw at e; omega)
    rw [← this]
    unfold wxw at e
    rw [e]
  · intro e
    have h1 := (fnm_le wdn w 24 0).2
    have h2 := fnm_mn wdn w 24 0 a (by omega)
    unfold wxw
    by_cases c : a < fnm wdn w 24 0
    · exact absurd e.symm (h2 c)
    · have h3 := fnm_is wdn w 24 0 (by omega)
      exact wdn_ne _ (by omega) a h (h3.trans e)
def wx (τ : TK) : Nat := if τ.1 = 3 then wxw τ.2.2.2.1 else 25
def sx (t : TP) (τ : TK) : Nat := if τ.1 = 4 then t.2 τ.2.1 else 0
/-- a name stands here -/
def nmd (τ : TK) : Bool := decide (20 ≤ wx τ ∧ wx τ ≤ 24)
theorem nmd_3 {τ : TK} (h : nmd τ = true) : τ.1 = 3 := by
  have h2 := of_decide_eq_true h
  by_cases c : τ.1 = 3
  · exact c
  · unfold wx at h2; rw [if_neg c] at h2; omega
section TKS
variable {σ : FH} {t : TP} {τ : TK}
theorem XT_k (h : XT σ t τ) (ho : TKok t τ) (n : Nat) (hn : n < 5) {x : Int32} (hx : x = nI n) : σ.1 3 4 = x ↔ τ.1 = n := by
  have := ho.1
  rw [h.2.2.2.1, hx, nI_eq (by omega) (by omega)]
theorem mk5_is {k n : Nat} (hk : k ≤ 4) (hn : n ≤ 4) : mk5 k = mk5 n ↔ k = n := by
  have : ∀ k, k < 5 → ∀ n, n < 5 → (mk5 k = mk5 n ↔ k = n) := by decide
  exact this k (by omega) n (by omega)
theorem mk5_lt (k : Nat) : mk5 k < 5 := by
  by_cases h1 : k = 1
  · rw [mk5, if_pos h1]; decide
  by_cases h2 : k = 3
  · rw [mk5, if_neg h1, if_pos h2]; decide
  by_cases h3 : k = 2
  · rw [mk5, if_neg h1, if_neg h2, if_pos h3]; decide
  by_cases h4 : k = 4
  · rw [mk5, if_neg h1, if_neg h2, if_neg h3, if_pos h4]; decide
  rw [mk5, if_neg h1, if_neg h2, if_neg h3, if_neg h4]; decide
theorem MK_k (h : MK σ t τ) (ho : TKok t τ) (n : Nat) (hn : n ≤ 4) {x : Int32} (hx : x = nI (mk5 n)) : σ.1 0 6 = x ↔ τ.1 = n := by
  have := ho.1
  have := mk5_lt τ.1
  have := mk5_lt n
  rw [h.2.2.2.1, hx, nI_eq (by omega) (by omega), mk5_is (by omega) hn]
theorem x_isWord (h : XT σ t τ) (ho : TKok t τ) {a : Nat} (ha : a < 24) : fX9_isWord a σ = some (bv (decide (wx τ = a))) := by
  unfold fX9_isWord wx
  rw [fxG_t ha]
  by_cases c : τ.1 = 3
  · rw [if_pos ((XT_k h ho 3 (by decide) (x := 3) rfl).mpr c), if_pos c, h.2.2.2.2.1 c, wdn_32 a ha]
    have e : lg_cmp (lN (enc 32 τ.2.2.2.1)) (lN (enc 32 (wdn a))) = 0 ↔ wxw τ.2.2.2.1 = a := by rw [lg_cmp_eq, enc_inj32 (ho.2.2.2.2.1 c) (wdn_ok ha), wxw_is ha]
    by_cases d : wxw τ.2.2.2.1 = a
    · rw [if_pos (e.mpr d), decide_eq_true d]; rfl
    · rw [if_neg (fun z => d (e.mp z)), decide_eq_false d]; rfl
  · rw [if_neg (fun z => c ((XT_k h ho 3 (by decide) (x := 3) rfl).mp z)), if_neg c, decide_eq_false (by omega)]; rfl
theorem m_cmp (h : MK σ t τ) (ho : TKok t τ) (c : τ.1 = 3) {a : Nat} (ha : a < 24) {x : Int64} (hx : x = k27.getD a 0) : lg_cmp (σ.2.1 0 7) x = 0 ↔ wxw τ.2.2.2.1 = a := by
  rw [hx, h.2.2.2.2.1 c, wdn_27 a ha, lg_cmp_eq, enc_inj27 (ho.2.2.2.2.1 c) (wdn_ok ha), wxw_is ha]
theorem m_isWord (h : MK σ t τ) (ho : TKok t τ) {a : Nat} (ha : a < 24) {x : Int64} (hx : x = k27.getD a 0) : fX12_isWord x σ = some (bv (decide (wx τ = a))) := by
  unfold fX12_isWord wx
  by_cases c : τ.1 = 3
  · rw [if_pos ((MK_k h ho 3 (by decide) (x := 1) rfl).mpr c), if_pos c]
    have e := m_cmp h ho c ha hx
    by_cases d : wxw τ.2.2.2.1 = a
    · rw [if_pos (e.mpr d), decide_eq_true d, fxL_r]; rfl
    · rw [if_neg (fun z => d (e.mp z)), decide_eq_false d, fxL_r]; rfl
  · rw [if_neg (fun z => c ((MK_k h ho 3 (by decide) (x := 1) rfl).mp z)), if_neg c, decide_eq_false (by omega), fxL_r]; rfl
theorem x_isSign (h : XT σ t τ) (ho : TKok t τ) (c : Nat) (hc0 : 0 < c) (hc : c < 127) {x : Int32} (hx : x = nI c) : fX9_isSign x σ = some (bv (decide (sx t τ = c))) := by
  unfold fX9_isSign sx
  by_cases k : τ.1 = 4
  · have hb := (ho.2.2.2.1 (by omega)).1
    have hd := tOK_lt (h.1.2.2 _ hb).1
    rw [if_pos ((XT_k h ho 4 (by decide) (x := 4) rfl).mpr k), if_pos k, h.2.2.2.2.2.2 k, hx]
    by_cases d : t.2 τ.2.1 = c
    · rw [if_pos (by rw [d]), decide_eq_true d, fxL_r]; rfl
    · rw [if_neg (fun z => d (nI_inj (by omega) (by omega) z)), decide_eq_false d, fxL_r]; rfl
  · rw [if_neg (fun z => k ((XT_k h ho 4 (by decide) (x := 4) rfl).mp z)), if_neg k, decide_eq_false (by omega), fxL_r]; rfl
theorem m_isSign (h : MK σ t τ) (ho : TKok t τ) (c : Nat) (hc0 : 0 < c) (hc : c < 127) {x : Int32} (hx : x = nI c) : fX12_isSign x σ = some (bv (decide (sx t τ = c))) := by
  have hL := h.1.1
  unfold fX12_isSign sx
  by_cases k : τ.1 = 4
  · have hb := (ho.2.2.2.1 (by omega)).1
    have hd := tOK_lt (h.1.2.2 _ hb).1
    rw [if_pos ((MK_k h ho 4 (by decide) (x := 3) rfl).mpr k), if_pos k, h.2.1, fxG_t (fx_inN (by omega) (by decide)), fx_clN (by omega), (h.1.2.2 _ hb).2, hx]
    by_cases d : t.2 τ.2.1 = c
    · rw [if_pos (by rw [d]), decide_eq_true d]; rfl
    · rw [if_neg (fun z => d (nI_inj (by omega) (by omega) z)), decide_eq_false d]; rfl
  · rw [if_neg (fun z => k ((MK_k h ho 4 (by decide) (x := 3) rfl).mp z)), if_neg k, decide_eq_false (by omega)]; rfl
theorem x_isNumber (h : XT σ t τ) (ho : TKok t τ) : fX9_isNumber σ = some (bv (decide (τ.1 = 2))) := by
  unfold fX9_isNumber
  by_cases k : τ.1 = 2
  · rw [if_pos ((XT_k h ho 2 (by decide) (x := 2) rfl).mpr k), decide_eq_true k, fxL_r]; rfl
  · rw [if_neg (fun z => k ((XT_k h ho 2 (by decide) (x := 2) rfl).mp z)), decide_eq_false k, fxL_r]; rfl
theorem x_atEnd (h : XT σ t τ) (ho : TKok t τ) : fX9_atEnd σ = some (bv (decide (τ.1 = 1))) := by
  unfold fX9_atEnd
  by_cases k : τ.1 = 1
  · rw [if_pos ((XT_k h ho 1 (by decide) (x := 1) rfl).mpr k), decide_eq_true k, fxL_r]; rfl
  · rw [if_neg (fun z => k ((XT_k h ho 1 (by decide) (x := 1) rfl).mp z)), decide_eq_false k, fxL_r]; rfl
theorem x_res_loop {w : List Nat} (hw : wOK w) : ∀ (m n i : Nat), i + m = 24 → m < n → fX10_isReserved_2 (lN (enc 32 w)) (some 0) n (nI i) = some (if i ≤ wxw w ∧ wxw w < 24 then fx_resv (wxw w) else 0)
  | m, 0, i, _, h2 => absurd h2 (by omega)
  | 0, n + 1, i, h1, _ => by
    obtain rfl : i = 24 := by omega
    rw [fX10_isReserved_2, if_pos (by decide), if_neg (by omega)]
  | m + 1, n + 1, i, h1, h2 => by
    have hi : i < 24 := by omega
    have e : lg_cmp (lN (enc 32 (wdn i))) (lN (enc 32 w)) = 0 ↔ wxw w = i := by
      rw [lg_cmp_eq, enc_inj32 (wdn_ok hi) hw, wxw_is hi]
      exact ⟨fun z => z.symm, fun z => z.symm⟩
    rw [fX10_isReserved_2, if_neg (show ¬ (24 : Int32) ≤ nI i from le_no (b := 24) hi (by decide)), fxG_t (fx_inN hi (by decide)), fx_clN (by omega), wdn_32 i hi]
    by_cases d : wxw w = i
    · have hb : fx_bo (fx_resv i) = true := by
        have : ∀ i, i < 24 → fx_bo (fx_resv i) = true := by decide +kernel
        exact this i hi
      rw [if_pos (e.mpr d), fxG_t (fx_inN hi (by decide)), fxG_t hb, if_pos (by omega), d]
    · rw [if_neg (fun z => d (e.mp z)), nI_1, x_res_loop hw m n (i + 1) (by omega) (by omega)]
      by_cases q : i ≤ wxw w ∧ wxw w < 24
      · rw [if_pos (by omega), if_pos q]
      · rw [if_neg (by omega), if_neg q]
theorem resv_s : ∀ i, i < 25 → (if 0 ≤ i ∧ i < 24 then fx_resv i else 0) = bv (decide (i < 20)) := by decide +kernel
theorem x_isName (h : XT σ t τ) (ho : TKok t τ) : fX9_isName σ = some (bv (nmd τ)) := by
  unfold fX9_isName nmd wx
  by_cases c : τ.1 = 3
  · have hl := wxw_lt τ.2.2.2.1
    rw [if_pos ((XT_k h ho 3 (by decide) (x := 3) rfl).mpr c), if_pos c, h.2.2.2.2.1 c]
    unfold fX10_isReserved
    have el : fX10_isReserved_2 (lN (enc 32 τ.2.2.2.1)) (some 0) FU 0 = _ := x_res_loop (ho.2.2.2.2.1 c) 24 FU 0 (by omega) (by decide)
    rw [fxL_r, el, resv_s _ hl, fxBP_s]
    by_cases d : wxw τ.2.2.2.1 < 20
    · rw [decide_eq_true d, if_neg (by decide), decide_eq_false (by omega)]; rfl
    · rw [decide_eq_false d, if_pos (by decide), decide_eq_true (by omega)]; rfl
  · rw [if_neg (fun z => c ((XT_k h ho 3 (by decide) (x := 3) rfl).mp z)), if_neg c, decide_eq_false (by omega)]; rfl
theorem kept_s : ∀ i, i < 25 → ((if i = 0 then 1 else (if i = 1 then 1 else (if i = 2 then 1 else (if i = 3 then 1 else (if i = 4 then 1 else (if i = 5 then 1 else (if i = 6 then 1 else (if i = 7 then 1 else (if i = 8 then 1 else (if i = 9 then 1 else (if i = 10 then 1 else (if i = 11 then 1 else (if i = 12 then 1 else (if i = 13 then 1 else (if i = 14 then 1 else (if i = 15 then 1 else (if i = 16 then 1 else (if i = 17 then 1 else (if i = 18 then 1 else (if i = 19 then 1 else 0)))))))))))))))))))) : Int32) = bv (! decide (20 ≤ i ∧ i ≤ 24)) := by decide +kernel
theorem m_isKept (h : MK σ t τ) (ho : TKok t τ) : fX12_isKept σ = some (bv (! nmd τ)) := by
  unfold fX12_isKept nmd wx
  by_cases c : τ.1 = 3
  · have hl := wxw_lt τ.2.2.2.1
    rw [if_pos ((MK_k h ho 3 (by decide) (x := 1) rfl).mpr c), if_pos c]
    have h0 := m_cmp h ho c (a := 0) (x := 453929) (by decide) rfl
    have h1 := m_cmp h ho c (a := 1) (x := 12391871) (by decide) rfl
    have h2 := m_cmp h ho c (a := 2) (x := 90050) (by decide) rfl
    have h3 := m_cmp h ho c (a := 3) (x := 8536426) (by decide) rfl
    have h4 := m_cmp h ho c (a := 4) (x := 10197082) (by decide) rfl
    have h5 := m_cmp h ho c (a := 5) (x := 4797) (by decide) rfl
    have h6 := m_cmp h ho c (a := 6) (x := 125042) (by decide) rfl
    have h7 := m_cmp h ho c (a := 7) (x := 12531826) (by decide) rfl
    have h8 := m_cmp h ho c (a := 8) (x := 464141) (by decide) rfl
    have h9 := m_cmp h ho c (a := 9) (x := 388978) (by decide) rfl
    have h10 := m_cmp h ho c (a := 10) (x := 208022) (by decide) rfl
    have h11 := m_cmp h ho c (a := 11) (x := 240223) (by decide) rfl
    have h12 := m_cmp h ho c (a := 12) (x := 456500) (by decide) rfl
    have h13 := m_cmp h ho c (a := 13) (x := 8740238) (by decide) rfl
    have h14 := m_cmp h ho c (a := 14) (x := 38444009) (by decide) rfl
    have h15 := m_cmp h ho c (a := 15) (x := 175252482) (by decide) rfl
    have h16 := m_cmp h ho c (a := 16) (x := 1841546) (by decide) rfl
    have h17 := m_cmp h ho c (a := 17) (x := 10631) (by decide) rfl
    have h18 := m_cmp h ho c (a := 18) (x := 1111) (by decide) rfl
    have h19 := m_cmp h ho c (a := 19) (x := 423) (by decide) rfl
    simp only [h0, h1, h2, h3, h4, h5, h6, h7, h8, h9, h10, h11, h12, h13, h14, h15, h16, h17, h18, h19]
    generalize wxw τ.2.2.2.1 = i at hl
    rw [kept_s i hl, fxL_r, fxG_t (bo_bv _)]
  · rw [if_neg (fun z => c ((MK_k h ho 3 (by decide) (x := 1) rfl).mp z)), if_neg c, decide_eq_false (by omega)]; rfl
/-- facts: 1 so, 2 half, 3 votes, 4 date -/
def fct (τ : TK) : Nat := if wx τ = 20 then 1 else if wx τ = 21 then 2 else if wx τ = 22 then 3 else if wx τ = 23 then 4 else 0
theorem x_factHere (h : XT σ t τ) (ho : TKok t τ) : fX2_factHere σ = some (- nI (fct τ)) := by
  unfold fX2_factHere fct
  rw [x_isWord h ho (a := 20) (by decide), fxBP_s, x_isWord h ho (a := 21) (by decide), fxBP_s, x_isWord h ho (a := 22) (by decide), fxBP_s, x_isWord h ho (a := 23) (by decide), fxBP_s]
  by_cases c0 : wx τ = 20
  · rw [c0]; rfl
  by_cases c1 : wx τ = 21
  · rw [c1]; rfl
  by_cases c2 : wx τ = 22
  · rw [c2]; rfl
  by_cases c3 : wx τ = 23
  · rw [c3]; rfl
  rw [decide_eq_false c0, decide_eq_false c1, decide_eq_false c2, decide_eq_false c3, if_neg c0, if_neg c1, if_neg c2, if_neg c3]; rfl
theorem m_fact (h : MK σ t τ) (ho : TKok t τ) : fX12_fact σ = some (nI (fct τ)) := by
  unfold fX12_fact fct wx
  by_cases c : τ.1 = 3
  · rw [if_pos ((MK_k h ho 3 (by decide) (x := 1) rfl).mpr c), if_pos c]
    have h0 := m_cmp h ho c (a := 20) (x := 528) (by decide) rfl
    have h1 := m_cmp h ho c (a := 21) (x := 158523) (by decide) rfl
    have h2 := m_cmp h ho c (a := 22) (x := 12001681) (by decide) rfl
    have h3 := m_cmp h ho c (a := 23) (x := 80006) (by decide) rfl
    simp only [h0, h1, h2, h3, fxL_r]
    generalize wxw τ.2.2.2.1 = i
    by_cases c0 : i = 20
    · rw [if_pos c0, if_pos c0]; rfl
    rw [if_neg c0, if_neg c0]
    by_cases c1 : i = 21
    · rw [if_pos c1, if_pos c1]; rfl
    rw [if_neg c1, if_neg c1]
    by_cases c2 : i = 22
    · rw [if_pos c2, if_pos c2]; rfl
    rw [if_neg c2, if_neg c2]
    by_cases c3 : i = 23
    · rw [if_pos c3, if_pos c3]; rfl
    rw [if_neg c3, if_neg c3]; rfl
  · rw [if_neg (fun z => c ((MK_k h ho 3 (by decide) (x := 1) rfl).mp z)), if_neg c]; rfl
end TKS
/-- a name's number, -1 if it is none's -/
def nr (f : Nat → List Nat) (w : List Nat) (n : Nat) : Int32 := if fnm f w n 0 < n then nI (fnm f w n 0) else -1
theorem x_wareNamed_loop {σ : FH} {T n : Nat} {f : Nat → List Nat} {w : List Nat} (hn : σ.1 T 0 = nI n) (h6 : n ≤ 6) (hf : ∀ i, i < n → wOK (f i) ∧ σ.2.1 (T + 1) i = lN (enc 32 (f i))) (hw : wOK w) : ∀ (m k i : Nat), i + m = n → m < k → fX5_wareNamed_2 T (lN (enc 32 w)) σ (some (-1)) k (nI i) = some (if fnm f w m i < n then nI (fnm f w m i) else -1)
  | m, 0, i, _, h2 => absurd h2 (by omega)
  | 0, k + 1, i, h1, _ => by
    rw [fX5_wareNamed_2, hn, if_pos (nI_le (by omega) (by omega)), if_neg (by rw [fnm]; omega)]
  | m + 1, k + 1, i, h1, h2 => by
    have hi : i < n := by omega
    have e : lg_cmp (lN (enc 32 (f i))) (lN (enc 32 w)) = 0 ↔ f i = w := by rw [lg_cmp_eq, enc_inj32 (hf i hi).1 hw]
    rw [fX5_wareNamed_2, hn, if_neg (le_no hi (by omega)), fxG_t (fx_inN (by omega) (by decide)), fx_clN (by omega), (hf i hi).2, fnm]
    by_cases d : f i = w
    · rw [if_pos (e.mpr d), if_pos d, if_pos hi]
    · rw [if_neg (fun z => d (e.mp z)), if_neg d, nI_1, x_wareNamed_loop hn h6 hf hw m k (i + 1) (by omega) (by omega)]
theorem x_wareNamed {σ : FH} {T n : Nat} {f : Nat → List Nat} {w : List Nat} (hT : LX[T]? = some (5, 0)) (hn : σ.1 T 0 = nI n) (h6 : n ≤ 6) (hf : ∀ i, i < n → wOK (f i) ∧ σ.2.1 (T + 1) i = lN (enc 32 (f i))) (hw : wOK w) : fX5_wareNamed T (lN (enc 32 w)) σ = some (nr f w n) := by
  unfold fX5_wareNamed nr
  rw [fxG_t hT, fxL_r]
  exact x_wareNamed_loop hn h6 hf hw n FU 0 (by omega) (by unfold FU; omega)
theorem x_partyNamed_loop {σ : FH} {T n : Nat} {f : Nat → List Nat} {w : List Nat} (hn : σ.1 T 5 = nI n) (h6 : n ≤ 5) (hf : ∀ i, i < n → wOK (f i) ∧ σ.2.1 (T + 5) i = lN (enc 32 (f i))) (hw : wOK w) : ∀ (m k i : Nat), i + m = n → m < k → fX5_partyNamed_2 T (lN (enc 32 w)) σ (some (-1)) k (nI i) = some (if fnm f w m i < n then nI (fnm f w m i) else -1)
  | m, 0, i, _, h2 => absurd h2 (by omega)
  | 0, k + 1, i, h1, _ => by
    rw [fX5_partyNamed_2, hn, if_pos (nI_le (by omega) (by omega)), if_neg (by rw [fnm]; omega)]
  | m + 1, k + 1, i, h1, h2 => by
    have hi : i < n := by omega
    have e : lg_cmp (lN (enc 32 (f i))) (lN (enc 32 w)) = 0 ↔ f i = w := by rw [lg_cmp_eq, enc_inj32 (hf i hi).1 hw]
    rw [fX5_partyNamed_2, hn, if_neg (le_no hi (by omega)), fxG_t (fx_inN (by omega) (by decide)), fx_clN (by omega), (hf i hi).2, fnm]
    by_cases d : f i = w
    · rw [if_pos (e.mpr d), if_pos d, if_pos hi]
    · rw [if_neg (fun z => d (e.mp z)), if_neg d, nI_1, x_partyNamed_loop hn h6 hf hw m k (i + 1) (by omega) (by omega)]
theorem x_partyNamed {σ : FH} {T n : Nat} {f : Nat → List Nat} {w : List Nat} (hT : LX[T]? = some (5, 0)) (hn : σ.1 T 5 = nI n) (h6 : n ≤ 5) (hf : ∀ i, i < n → wOK (f i) ∧ σ.2.1 (T + 5) i = lN (enc 32 (f i))) (hw : wOK w) : fX5_partyNamed T (lN (enc 32 w)) σ = some (nr f w n) := by
  unfold fX5_partyNamed nr
  rw [fxG_t hT, fxL_r]
  exact x_partyNamed_loop hn h6 hf hw n FU 0 (by omega) (by unfold FU; omega)
theorem m_wareNamed_loop {σ : FH} {o n : Nat} {f : Nat → List Nat} {w : List Nat} (ho : o ≤ 1) (hn : σ.1 2 (3 * o + 0) = nI n) (h6 : n ≤ 6) (hf : ∀ i, i < n → wOK (f i) ∧ σ.2.1 3 (6 * o + i) = lN (enc 27 (f i))) (hw : wOK w) (hσ : σ.2.1 0 7 = lN (enc 27 w)) : ∀ (m k i : Nat), i + m = n → m < k → fX12_wareNamed_5 (nI o) σ (some (-1)) k (nI (6 * o + i)) = some (if fnm f w m i < n then nI (fnm f w m i) else -1)
  | m, 0, i, _, h2 => absurd h2 (by omega)
  | 0, k + 1, i, h1, _ => by
    rw [fX12_wareNamed_5, show (3 : Int32) * nI o + 0 = nI (3 * o + 0) from by rw [show (3 : Int32) = nI 3 from rfl, pk_mul, show (0 : Int32) = nI 0 from rfl, nI_add], fxG_t (fx_inN (by omega) (by decide)), fx_clN (by omega), hn, show (6 : Int32) * nI o = nI (6 * o) from pk_mul 6 o, nI_add, if_pos (nI_le (by omega) (by omega)), if_neg (by rw [fnm]; omega)]
  | m + 1, k + 1, i, h1, h2 => by
    have hi : i < n := by omega
    have e : lg_cmp (lN (enc 27 (f i))) (lN (enc 27 w)) = 0 ↔ f i = w := by rw [lg_cmp_eq, enc_inj27 (hf i hi).1 hw]
    rw [fX12_wareNamed_5, show (3 : Int32) * nI o + 0 = nI (3 * o + 0) from by rw [show (3 : Int32) = nI 3 from rfl, pk_mul, show (0 : Int32) = nI 0 from rfl, nI_add], fxG_t (fx_inN (by omega) (by decide)), fx_clN (by omega), hn, show (6 : Int32) * nI o = nI (6 * o) from pk_mul 6 o, nI_add, if_neg (le_no (by omega) (by omega)), fxG_t (fx_inN (by omega) (by decide)), fx_clN (by omega), (hf i hi).2, hσ, fnm]
    by_cases d : f i = w
    · rw [if_pos (e.mpr d), if_pos d, if_pos hi, pk_sub (by omega), Nat.add_sub_cancel_left]
    · rw [if_neg (fun z => d (e.mp z)), if_neg d, nI_1, Nat.add_assoc, m_wareNamed_loop ho hn h6 hf hw hσ m k (i + 1) (by omega) (by omega)]
theorem m_wareNamed {σ : FH} {o n : Nat} {f : Nat → List Nat} {w : List Nat} (ho : o ≤ 1) (hn : σ.1 2 (3 * o + 0) = nI n) (h6 : n ≤ 6) (hf : ∀ i, i < n → wOK (f i) ∧ σ.2.1 3 (6 * o + i) = lN (enc 27 (f i))) (hw : wOK w) (hσ : σ.2.1 0 7 = lN (enc 27 w)) {x : Int32} (hx : x = nI o) : fX12_wareNamed x σ = some (nr f w n) := by
  subst hx
  unfold fX12_wareNamed nr
  rw [show (6 : Int32) * nI o = nI (6 * o) from pk_mul 6 o, fxL_r, fxL_r]
  exact m_wareNamed_loop ho hn h6 hf hw hσ n FU 0 (by omega) (by unfold FU; omega)
theorem m_partyNamed_loop {σ : FH} {o n : Nat} {f : Nat → List Nat} {w : List Nat} (ho : o ≤ 1) (hn : σ.1 2 (3 * o + 1) = nI n) (h6 : n ≤ 5) (hf : ∀ i, i < n → wOK (f i) ∧ σ.2.1 4 (5 * o + i) = lN (enc 27 (f i))) (hw : wOK w) (hσ : σ.2.1 0 7 = lN (enc 27 w)) : ∀ (m k i : Nat), i + m = n → m < k → fX12_partyNamed_4 (nI o) σ (some (-1)) k (nI (5 * o + i)) = some (if fnm f w m i < n then nI (fnm f w m i) else -1)
  | m, 0, i, _, h2 => absurd h2 (by omega)
  | 0, k + 1, i, h1, _ => by
    rw [fX12_partyNamed_4, show (3 : Int32) * nI o + 1 = nI (3 * o + 1) from by rw [show (3 : Int32) = nI 3 from rfl, pk_mul, show (1 : Int32) = nI 1 from rfl, nI_add], fxG_t (fx_inN (by omega) (by decide)), fx_clN (by omega), hn, show (5 : Int32) * nI o = nI (5 * o) from pk_mul 5 o, nI_add, if_pos (nI_le (by omega) (by omega)), if_neg (by rw [fnm]; omega)]
  | m + 1, k + 1, i, h1, h2 => by
    have hi : i < n := by omega
    have e : lg_cmp (lN (enc 27 (f i))) (lN (enc 27 w)) = 0 ↔ f i = w := by rw [lg_cmp_eq, enc_inj27 (hf i hi).1 hw]
    rw [fX12_partyNamed_4, show (3 : Int32) * nI o + 1 = nI (3 * o + 1) from by rw [show (3 : Int32) = nI 3 from rfl, pk_mul, show (1 : Int32) = nI 1 from rfl, nI_add], fxG_t (fx_inN (by omega) (by decide)), fx_clN (by omega), hn, show (5 : Int32) * nI o = nI (5 * o) from pk_mul 5 o, nI_add, if_neg (le_no (by omega) (by omega)), fxG_t (fx_inN (by omega) (by decide)), fx_clN (by omega), (hf i hi).2, hσ, fnm]
    by_cases d : f i = w
    · rw [if_pos (e.mpr d), if_pos d, if_pos hi, pk_sub (by omega), Nat.add_sub_cancel_left]
    · rw [if_neg (fun z => d (e.mp z)), if_neg d, nI_1, Nat.add_assoc, m_partyNamed_loop ho hn h6 hf hw hσ m k (i + 1) (by omega) (by omega)]
theorem m_partyNamed {σ : FH} {o n : Nat} {f : Nat → List Nat} {w : List Nat} (ho : o ≤ 1) (hn : σ.1 2 (3 * o + 1) = nI n) (h6 : n ≤ 5) (hf : ∀ i, i < n → wOK (f i) ∧ σ.2.1 4 (5 * o + i) = lN (enc 27 (f i))) (hw : wOK w) (hσ : σ.2.1 0 7 = lN (enc 27 w)) {x : Int32} (hx : x = nI o) : fX12_partyNamed x σ = some (nr f w n) := by
  subst hx
  unfold fX12_partyNamed nr
  rw [show (5 : Int32) * nI o = nI (5 * o) from pk_mul 5 o, fxL_r, fxL_r]
  exact m_partyNamed_loop ho hn h6 hf hw hσ n FU 0 (by omega) (by unfold FU; omega)
