/-! ===== the reference's next token ===== -/
def sg (t : TP) (p : Nat) : Nat := if p < t.1 then t.2 p else 0
theorem sg_lt {σ : FH} {t : TP} (h : MPs σ t) (p : Nat) : sg t p < 127 := by
  unfold sg
  by_cases c : p < t.1
  · rw [if_pos c]; exact tOK_lt (h.2.2 p c).1
  · rw [if_neg c]; decide
theorem m_signAt {σ : FH} {t : TP} (h : MPs σ t) {p : Nat} (hp : p ≤ t.1) : fX12_signAt (nI p) σ = some (nI (sg t p)) := by
  have hL := h.1
  unfold fX12_signAt sg
  rw [h.2.1]
  by_cases c : p < t.1
  · rw [if_neg (le_no c (by omega)), fxG_t (fx_inN (by omega) (by decide)), fx_clN (by omega), (h.2.2 p c).2, if_pos c]
  · rw [if_pos (nI_le (by omega) (by omega)), if_neg c]; rfl
theorem cl_letM : ∀ c, c < 127 → (isL c = true → ¬ nI c < 97 ∧ ¬ 122 < nI c) ∧ (isL c = false → nI c < 97 ∨ 122 < nI c) := by decide +kernel
theorem cl_digM : ∀ c, c < 127 → (isD c = true → ¬ nI c < 48 ∧ ¬ 57 < nI c) ∧ (isD c = false → nI c < 48 ∨ 57 < nI c) := by decide +kernel
theorem cl_blkM : ∀ c, c < 127 → (isB c = true → nI c = 32 ∨ (¬ nI c = 32 ∧ nI c = 10)) ∧ (isB c = false → ¬ nI c = 32 ∧ ¬ nI c = 10) := by decide +kernel
theorem m_skip {t : TP} : ∀ (m n p : Nat) (σ1 : FH), MPs σ1 t → σ1.1 0 4 = nI p → p ≤ t.1 → t.1 ≤ p + m → m < n → ∃ σ', (∀ K, fX12_nextToken_0 K n σ1 = K σ') ∧ σ'.1 0 4 = nI (rn isB t m p) ∧ fN σ1 σ'
  | m, 0, p, σ1, _, _, _, _, h3 => absurd h3 (by omega)
  | 0, n + 1, p, σ1, hx, hp, h1, h2, _ => by
    have := hx.1
    refine ⟨σ1, ?_, hp, fN_rf _⟩
    intro K
    rw [fX12_nextToken_0, hx.2.1, hp, if_pos (nI_le (by omega) (by omega))]
  | m + 1, n + 1, p, σ1, hx, hp, h1, h2, h3 => by
    have hL := hx.1
    by_cases c : p < t.1
    · have hc := tOK_lt (hx.2.2 p c).1
      cases hb : isB (t.2 p) with
      | true =>
        have g : fN σ1 (fx_si σ1 0 4 (nI (p + 1))) := fN_si (by decide) (by decide)
        obtain ⟨σ', e1, e2, e3⟩ := m_skip m n (p + 1) _ (MPs_fN hx g) (by rw [si1, if_pos ⟨rfl, rfl⟩]) (by omega) (by omega) (by omega)
        refine ⟨σ', ?_, ?_, fN_tr g e3⟩
        · intro K
          rw [fX12_nextToken_0, hx.2.1, hp, if_neg (le_no c (by omega)), fxG_t (fx_inN (by omega) (by decide)), fx_clN (by omega), (hx.2.2 p c).2, nI_1, fxL_r, fxL_r]
          rcases (cl_blkM _ hc).1 hb with z | z
          · rw [if_pos z]; exact e1 K
          · rw [if_neg z.1, fxG_t (fx_inN (by omega) (by decide)), if_pos z.2]; exact e1 K
        · rw [rn, if_pos ⟨c, hb⟩]; exact e2
      | false =>
        have z := (cl_blkM _ hc).2 hb
        refine ⟨σ1, ?_, ?_, fN_rf _⟩
        · intro K
          rw [fX12_nextToken_0, hx.2.1, hp, if_neg (le_no c (by omega)), fxG_t (fx_inN (by omega) (by decide)), fx_clN (by omega), (hx.2.2 p c).2, fxL_r, if_neg z.1, fxG_t (fx_inN (by omega) (by decide)), if_neg z.2]
        · rw [rn, if_neg (by rw [hb]; exact fun q => absurd q.2 (by decide))]; exact hp
    · refine ⟨σ1, ?_, ?_, fN_rf _⟩
      · intro K
        rw [fX12_nextToken_0, hx.2.1, hp, if_pos (nI_le (by omega) (by omega))]
      · rw [rn, if_neg (fun q => c q.1)]; exact hp
theorem m_word_out {t : TP} {p : Nat} {σ1 : FH} (hx : MPs σ1 t) (hp : σ1.1 0 4 = nI p) (h1 : p ≤ t.1) (h : isL (sg t p) = false) (n : Nat) (K : FH → Option FH) : fX12_nextToken_109 K (n + 1) σ1 = K σ1 := by
  have hL := hx.1
  rw [fX12_nextToken_109, hp, m_signAt hx h1, fxBP_s]
  rcases (cl_letM _ (sg_lt hx p)).2 h with z | z
  · rw [if_pos z]
  · by_cases y : nI (sg t p) < 97
    · rw [if_pos y]
    · rw [if_neg y, fxBP_s, if_pos z]
theorem m_num_out {t : TP} {p : Nat} {σ1 : FH} (hx : MPs σ1 t) (hp : σ1.1 0 4 = nI p) (h1 : p ≤ t.1) (h : isD (sg t p) = false) (n : Nat) (K : FH → Option FH) : fX12_nextToken_224 K (n + 1) σ1 = K σ1 := by
  have hL := hx.1
  rw [fX12_nextToken_224, hp, m_signAt hx h1, fxBP_s]
  rcases (cl_digM _ (sg_lt hx p)).2 h with z | z
  · rw [if_pos z]
  · by_cases y : nI (sg t p) < 48
    · rw [if_pos y]
    · rw [if_neg y, fxBP_s, if_pos z]
theorem m_word {t : TP} (b : Nat) : ∀ (m n i : Nat) (σ1 : FH), MPs σ1 t → σ1.1 0 4 = nI (b + i) → σ1.1 0 5 = nI b → σ1.2.1 0 7 = lN (enc 27 (lets t b (min i 8))) → b + i ≤ t.1 → t.1 ≤ b + i + m → m < n → ∃ σ', (∀ K, fX12_nextToken_109 K n σ1 = K σ') ∧ σ'.1 0 4 = nI (rn isL t m (b + i)) ∧ σ'.1 0 5 = nI b ∧ σ'.2.1 0 7 = lN (enc 27 (lets t b (min (rn isL t m (b + i) - b) 8))) ∧ fN σ1 σ'
  | m, 0, i, σ1, _, _, _, _, _, _, h3 => absurd h3 (by omega)
  | 0, n + 1, i, σ1, hx, hp, hb5, hk, h1, h2, _ => by
    have := hx.1
    refine ⟨σ1, m_word_out hx hp h1 (by unfold sg; rw [if_neg (by omega)]; decide) n, hp, hb5, by rw [rn, Nat.add_sub_cancel_left]; exact hk, fN_rf _⟩
  | m + 1, n + 1, i, σ1, hx, hp, hb5, hk, h1, h2, h3 => by
    have hL := hx.1
    by_cases c : b + i < t.1
    · have hc := tOK_lt (hx.2.2 _ c).1
      have hsg : sg t (b + i) = t.2 (b + i) := if_pos c
      cases hb : isL (t.2 (b + i)) with
      | true =>
        have hrn : rn isL t (m + 1) (b + i) = rn isL t m (b + (i + 1)) := by rw [rn, if_pos ⟨c, hb⟩, Nat.add_assoc]
        have z := (cl_letM _ hc).1 hb
        rw [hrn]
        by_cases c8 : i < 8
        · have g0 : fN σ1 (fx_sl σ1 0 7 (lN (enc 27 (lets t b (i + 1))))) := fN_sl
          have g : fN σ1 (fx_si (fx_sl σ1 0 7 (lN (enc 27 (lets t b (i + 1))))) 0 4 (nI (b + (i + 1)))) := fN_tr g0 (fN_si (by decide) (by decide))
          obtain ⟨σ', e1, e2, e3, e4, e5⟩ := m_word b m n (i + 1) _ (MPs_fN hx g) (by rw [si1, if_pos ⟨rfl, rfl⟩]) (by rw [si1, if_neg (by decide), sl1]; exact hb5) (by rw [si2, sl21, if_pos ⟨rfl, rfl⟩, Nat.min_eq_left (by omega)]) (by omega) (by omega) (by omega)
          refine ⟨σ', ?_, e2, e3, e4, fN_tr g e5⟩
          intro K
          have hl := (let_c _ hc hb).2
          have h96 : 96 ≤ t.2 (b + i) := by have := of_decide_eq_true hb; omega
          rw [Nat.min_eq_left (by omega)] at hk
          rw [fX12_nextToken_109, hp, m_signAt hx h1, fxBP_s, hsg, if_neg z.1, fxBP_s, if_neg z.2, fxL_r]
          dsimp only
          rw [hb5, pk_sub (by omega), Nat.add_sub_cancel_left, if_neg (show ¬ (8 : Int32) ≤ nI i from le_no (b := 8) c8 (by decide)), fxBP_s, hk, hl, show (27 : Int64) = lN 27 from rfl, lN_mul, lN_add, show (96 : Int64) = lN 96 from rfl, lN_sub (by omega), fxL_r, sl1, hp, nI_1, fxL_r]
          rw [lets, enc_app, ← Nat.add_assoc] at e1
          rw [show enc 27 (lets t b i) * 27 + t.2 (b + i) - 96 = enc 27 (lets t b i) * 27 + (t.2 (b + i) - 96) by omega]
          exact e1 K
        · have g : fN σ1 (fx_si σ1 0 4 (nI (b + (i + 1)))) := fN_si (by decide) (by decide)
          obtain ⟨σ', e1, e2, e3, e4, e5⟩ := m_word b m n (i + 1) _ (MPs_fN hx g) (by rw [si1, if_pos ⟨rfl, rfl⟩]) (by rw [si1, if_neg (by decide)]; exact hb5) (by rw [si2, hk, Nat.min_eq_right (by omega), Nat.min_eq_right (by omega)]) (by omega) (by omega) (by omega)
          refine ⟨σ', ?_, e2, e3, e4, fN_tr g e5⟩
          intro K
          rw [fX12_nextToken_109, hp, m_signAt hx h1, fxBP_s, hsg, if_neg z.1, fxBP_s, if_neg z.2, fxL_r]
          dsimp only
          rw [hb5, pk_sub (by omega), Nat.add_sub_cancel_left, if_pos (show (8 : Int32) ≤ nI i from nI_le (a := 8) (by omega) (by omega)), hp, nI_1, fxL_r]
          exact e1 K
      | false =>
        refine ⟨σ1, m_word_out hx hp h1 (by rw [hsg]; exact hb) n, ?_, hb5, ?_, fN_rf _⟩
        · rw [rn, if_neg (by rw [hb]; exact fun q => absurd q.2 (by decide))]; exact hp
        · rw [rn, if_neg (by rw [hb]; exact fun q => absurd q.2 (by decide)), Nat.add_sub_cancel_left]; exact hk
    · refine ⟨σ1, m_word_out hx hp h1 (by unfold sg; rw [if_neg c]; decide) n, ?_, hb5, ?_, fN_rf _⟩
      · rw [rn, if_neg (fun q => c q.1)]; exact hp
      · rw [rn, if_neg (fun q => c q.1), Nat.add_sub_cancel_left]; exact hk
theorem m_num {t : TP} (b : Nat) : ∀ (m n i : Nat) (σ1 : FH), MPs σ1 t → σ1.1 0 4 = nI (b + i) → σ1.1 0 5 = nI b → σ1.1 0 8 = nI (nums t b (min i 4)) → b + i ≤ t.1 → t.1 ≤ b + i + m → m < n → ∃ σ', (∀ K, fX12_nextToken_224 K n σ1 = K σ') ∧ σ'.1 0 4 = nI (rn isD t m (b + i)) ∧ σ'.1 0 5 = nI b ∧ σ'.1 0 8 = nI (nums t b (min (rn isD t m (b + i) - b) 4)) ∧ fN σ1 σ'
  | m, 0, i, σ1, _, _, _, _, _, _, h3 => absurd h3 (by omega)
  | 0, n + 1, i, σ1, hx, hp, hb5, hk, h1, h2, _ => by
    have := hx.1
    refine ⟨σ1, m_num_out hx hp h1 (by unfold sg; rw [if_neg (by omega)]; decide) n, hp, hb5, by rw [rn, Nat.add_sub_cancel_left]; exact hk, fN_rf _⟩
  | m + 1, n + 1, i, σ1, hx, hp, hb5, hk, h1, h2, h3 => by
    have hL := hx.1
    by_cases c : b + i < t.1
    · have hc := tOK_lt (hx.2.2 _ c).1
      have hsg : sg t (b + i) = t.2 (b + i) := if_pos c
      cases hb : isD (t.2 (b + i)) with
      | true =>
        have hrn : rn isD t (m + 1) (b + i) = rn isD t m (b + (i + 1)) := by rw [rn, if_pos ⟨c, hb⟩, Nat.add_assoc]
        have z := (cl_digM _ hc).1 hb
        rw [hrn]
        by_cases c8 : i < 4
        · have g0 : fN σ1 (fx_si σ1 0 8 (nI (nums t b (i + 1)))) := fN_si (by decide) (by decide)
          have g : fN σ1 (fx_si (fx_si σ1 0 8 (nI (nums t b (i + 1)))) 0 4 (nI (b + (i + 1)))) := fN_tr g0 (fN_si (by decide) (by decide))
          obtain ⟨σ', e1, e2, e3, e4, e5⟩ := m_num b m n (i + 1) _ (MPs_fN hx g) (by rw [si1, if_pos ⟨rfl, rfl⟩]) (by rw [si1, if_neg (by decide), si1, if_neg (by decide)]; exact hb5) (by rw [si1, if_neg (by decide), si1, if_pos ⟨rfl, rfl⟩, Nat.min_eq_left (by omega)]) (by omega) (by omega) (by omega)
          refine ⟨σ', ?_, e2, e3, e4, fN_tr g e5⟩
          intro K
          have h96 : 48 ≤ t.2 (b + i) := by have := of_decide_eq_true hb; omega
          rw [Nat.min_eq_left (by omega)] at hk
          rw [fX12_nextToken_224, hp, m_signAt hx h1, fxBP_s, hsg, if_neg z.1, fxBP_s, if_neg z.2, fxL_r]
          dsimp only
          rw [hb5, pk_sub (by omega), Nat.add_sub_cancel_left, if_neg (show ¬ (4 : Int32) ≤ nI i from le_no (b := 4) c8 (by decide)), fxBP_s, hk, show (10 : Int32) = nI 10 from rfl, pk_mul, nI_add, show (48 : Int32) = nI 48 from rfl, pk_sub (by omega), fxL_r, si1, if_neg (by decide), hp, nI_1, fxL_r]
          rw [nums, ← Nat.add_assoc] at e1
          rw [show nums t b i * 10 + t.2 (b + i) - 48 = nums t b i * 10 + (t.2 (b + i) - 48) by omega]
          exact e1 K
        · have g : fN σ1 (fx_si σ1 0 4 (nI (b + (i + 1)))) := fN_si (by decide) (by decide)
          obtain ⟨σ', e1, e2, e3, e4, e5⟩ := m_num b m n (i + 1) _ (MPs_fN hx g) (by rw [si1, if_pos ⟨rfl, rfl⟩]) (by rw [si1, if_neg (by decide)]; exact hb5) (by rw [si1, if_neg (by decide), hk, Nat.min_eq_right (by omega), Nat.min_eq_right (by omega)]) (by omega) (by omega) (by omega)
          refine ⟨σ', ?_, e2, e3, e4, fN_tr g e5⟩
          intro K
          rw [fX12_nextToken_224, hp, m_signAt hx h1, fxBP_s, hsg, if_neg z.1, fxBP_s, if_neg z.2, fxL_r]
          dsimp only
          rw [hb5, pk_sub (by omega), Nat.add_sub_cancel_left, if_pos (show (4 : Int32) ≤ nI i from nI_le (a := 4) (by omega) (by omega)), hp, nI_1, fxL_r]
          exact e1 K
      | false =>
        refine ⟨σ1, m_num_out hx hp h1 (by rw [hsg]; exact hb) n, ?_, hb5, ?_, fN_rf _⟩
        · rw [rn, if_neg (by rw [hb]; exact fun q => absurd q.2 (by decide))]; exact hp
        · rw [rn, if_neg (by rw [hb]; exact fun q => absurd q.2 (by decide)), Nat.add_sub_cancel_left]; exact hk
    · refine ⟨σ1, m_num_out hx hp h1 (by unfold sg; rw [if_neg c]; decide) n, ?_, hb5, ?_, fN_rf _⟩
      · rw [rn, if_neg (fun q => c q.1)]; exact hp
      · rw [rn, if_neg (fun q => c q.1), Nat.add_sub_cancel_left]; exact hk
theorem cl_signM : ∀ c, c < 127 → (if nI c < 40 then (if nI c = 45 then (3 : Int32) else (if nI c < 59 then 4 else (if 61 < nI c then 4 else 3))) else (if nI c ≤ 43 then 3 else (if nI c = 45 then 3 else (if nI c < 59 then 4 else (if 61 < nI c then 4 else 3))))) = nI (mk5 (if isG c = true then 4 else 0)) := by decide +kernel
/-- the reference's next token -/
theorem m_next {σ : FH} {t : TP} {q : Nat} (h : MPs σ t) (hn : σ.1 0 4 = nI q) (hq : q ≤ t.1) : ∃ σ', fX12_nextToken σ = some σ' ∧ MK σ' t (tkAt t q) ∧ fN σ σ' := by
  have hL := h.1
  unfold fX12_nextToken
  rw [fxL_r]
  obtain ⟨σ2, e2, p2, g2⟩ := m_skip (t := t) 1000 FU q _ h hn hq (by omega) (by decide)
  rw [e2]
  have b1 := rn_ge isB t 1000 q
  have b2 := rn_le isB t 1000 q hq
  unfold tkAt
  generalize rn isB t 1000 q = b at b1 b2 p2 ⊢
  rw [p2, fxL_r, fxL_r, fxL_r]
  have g3 : fN σ (fx_si (fx_sl (fx_si σ2 0 5 (nI b)) 0 7 0) 0 8 0) := fN_tr g2 (fN_tr (fN_si (by decide) (by decide)) (fN_tr fN_sl (fN_si (by decide) (by decide))))
  have p3 : (fx_si (fx_sl (fx_si σ2 0 5 (nI b)) 0 7 0) 0 8 0).1 0 4 = nI b := by rw [si1, if_neg (by decide), sl1, si1, if_neg (by decide)]; exact p2
  have n3 : (fx_si (fx_sl (fx_si σ2 0 5 (nI b)) 0 7 0) 0 8 0).1 0 5 = nI b := by rw [si1, if_neg (by decide), sl1, si1, if_pos ⟨rfl, rfl⟩]
  have w3 : (fx_si (fx_sl (fx_si σ2 0 5 (nI b)) 0 7 0) 0 8 0).2.1 0 7 = lN 0 := by rw [si2, sl21, if_pos ⟨rfl, rfl⟩]; rfl
  have u3 : (fx_si (fx_sl (fx_si σ2 0 5 (nI b)) 0 7 0) 0 8 0).1 0 8 = nI 0 := by rw [si1, if_pos ⟨rfl, rfl⟩]; rfl
  generalize fx_si (fx_sl (fx_si σ2 0 5 (nI b)) 0 7 0) 0 8 0 = σ3 at g3 p3 n3 w3 u3 ⊢
  have x3 := MPs_fN h g3
  rw [p3, x3.2.1]
  by_cases c : t.1 ≤ b
  · obtain rfl : b = t.1 := by omega
    rw [if_pos rfl, if_pos (Nat.le_refl _), fxL_r]
    have g5 : fN σ (fx_si σ3 0 6 0) := fN_tr g3 (fN_si (by decide) (by decide))
    refine ⟨_, rfl, ⟨MPs_fN h g5, ?_, ?_, ?_, nk 1 3 rfl, nk 1 2 rfl⟩, g5⟩
    · rw [si1, if_neg (by decide)]; exact n3
    · rw [si1, if_neg (by decide)]; exact p3
    · rw [si1, if_pos ⟨rfl, rfl⟩]; rfl
  have hb : b < t.1 := by omega
  have hc := tOK_lt (x3.2.2 b hb).1
  rw [if_neg (fun z => by have := nI_inj (by omega) (by omega) z; omega), if_neg c, fxG_t (fx_inN (by omega) (by decide)), fx_clN (by omega), (x3.2.2 b hb).2, fxL_r, fxL_r, fxL_r]
  cases c1 : isL (t.2 b) with
  | true =>
    have z := (cl_letM _ hc).1 c1
    rw [if_neg z.1, if_neg z.2, if_pos rfl, fxL_r]
    obtain ⟨σ5, e5, n5, q6, k5, g5⟩ := m_word (t := t) b 1000 FU 0 _ x3 p3 n3 w3 (by omega) (by omega) (by decide)
    rw [e5]
    have d1 := rn_ge isL t 1000 b
    have d2 := rn_le isL t 1000 b b2
    rw [Nat.add_zero] at n5 k5
    generalize rn isL t 1000 b = e at n5 k5 d1 d2 ⊢
    have ek : (if (nI e - nI b) ≤ 8 then (1 : Int32) else 4) = nI (mk5 (if e - b ≤ 8 then 3 else 0)) := by
      rw [pk_sub d1]
      by_cases z : e - b ≤ 8
      · rw [if_pos z, if_pos (show nI (e - b) ≤ (8 : Int32) from nI_le (b := 8) z (by decide))]; rfl
      · rw [if_neg z, if_neg (by rw [show (8 : Int32) = nI 8 from rfl, nI_leI (by omega) (by omega)]; omega)]; rfl
    rw [n5, q6, ek, fxL_r, fxL_r]
    have g6 : fN σ (fx_si σ5 0 6 (nI (mk5 (if e - b ≤ 8 then 3 else 0)))) := fN_tr g3 (fN_tr g5 (fN_si (by decide) (by decide)))
    refine ⟨_, rfl, ⟨MPs_fN h g6, ?_, ?_, ?_, fun y => ?_, fun y => absurd y ?_⟩, g6⟩
    · rw [si1, if_neg (by decide)]; exact q6
    · rw [si1, if_neg (by decide)]; exact n5
    · rw [si1, if_pos ⟨rfl, rfl⟩]
    · have y' : (if e - b ≤ 8 then 3 else 0) = 3 := y
      by_cases z : e - b ≤ 8
      · rw [Nat.min_eq_left z] at k5; exact k5
      · rw [if_neg z] at y'; exact absurd y' (by decide)
    · show (if e - b ≤ 8 then 3 else 0) ≠ 2
      by_cases z : e - b ≤ 8
      · rw [if_pos z]; decide
      · rw [if_neg z]; decide
  | false =>
  have zL := (cl_letM _ hc).2 c1
  rw [show ∀ (A B : Option FH), (if nI (t.2 b) < 97 then A else (if 122 < nI (t.2 b) then A else B)) = A from fun A B => by
    rcases zL with z | z
    · rw [if_pos z]
    · by_cases y : nI (t.2 b) < 97
      · rw [if_pos y]
      · rw [if_neg y, if_pos z]]
  rw [if_neg (show ¬ (false = true) from by decide)]
  cases c2 : isD (t.2 b) with
  | true =>
    have z := (cl_digM _ hc).1 c2
    rw [if_neg z.1, if_neg z.2, if_pos rfl, fxL_r]
    obtain ⟨σ5, e5, n5, q6, k5, g5⟩ := m_num (t := t) b 1000 FU 0 _ x3 p3 n3 u3 (by omega) (by omega) (by decide)
    rw [e5]
    have d1 := rn_ge isD t 1000 b
    have d2 := rn_le isD t 1000 b b2
    rw [Nat.add_zero] at n5 k5
    generalize rn isD t 1000 b = e at n5 k5 d1 d2 ⊢
    have ek : (if (nI e - nI b) ≤ 4 then (2 : Int32) else 4) = nI (mk5 (if e - b ≤ 4 then 2 else 0)) := by
      rw [pk_sub d1]
      by_cases z : e - b ≤ 4
      · rw [if_pos z, if_pos (show nI (e - b) ≤ (4 : Int32) from nI_le (b := 4) z (by decide))]; rfl
      · rw [if_neg z, if_neg (by rw [show (4 : Int32) = nI 4 from rfl, nI_leI (by omega) (by omega)]; omega)]; rfl
    rw [n5, q6, ek, fxL_r, fxL_r]
    have g6 : fN σ (fx_si σ5 0 6 (nI (mk5 (if e - b ≤ 4 then 2 else 0)))) := fN_tr g3 (fN_tr g5 (fN_si (by decide) (by decide)))
    refine ⟨_, rfl, ⟨MPs_fN h g6, ?_, ?_, ?_, fun y => absurd y ?_, fun y => ?_⟩, g6⟩
    · rw [si1, if_neg (by decide)]; exact q6
    · rw [si1, if_neg (by decide)]; exact n5
    · rw [si1, if_pos ⟨rfl, rfl⟩]
    · show (if e - b ≤ 4 then 2 else 0) ≠ 3
      by_cases z : e - b ≤ 4
      · rw [if_pos z]; decide
      · rw [if_neg z]; decide
    · have y' : (if e - b ≤ 4 then 2 else 0) = 2 := y
      by_cases z : e - b ≤ 4
      · rw [Nat.min_eq_left z] at k5; rw [si1, if_neg (by decide)]; exact k5
      · rw [if_neg z] at y'; exact absurd y' (by decide)
  | false =>
  have zD := (cl_digM _ hc).2 c2
  rw [show ∀ (A B : Option FH), (if nI (t.2 b) < 48 then A else (if 57 < nI (t.2 b) then A else B)) = A from fun A B => by
    rcases zD with z | z
    · rw [if_pos z]
    · by_cases y : nI (t.2 b) < 48
      · rw [if_pos y]
      · rw [if_neg y, if_pos z]]
  rw [if_neg (show ¬ (false = true) from by decide), nI_1, fxL_r, cl_signM _ hc, fxL_r, fxL_r]
  have g6 : fN σ (fx_si (fx_si σ3 0 4 (nI (b + 1))) 0 6 (nI (mk5 (if isG (t.2 b) = true then 4 else 0)))) := fN_tr g3 (fN_tr (fN_si (by decide) (by decide)) (fN_si (by decide) (by decide)))
  refine ⟨_, rfl, ⟨MPs_fN h g6, ?_, ?_, ?_, fun y => absurd y ?_, fun y => absurd y ?_⟩, g6⟩
  · rw [si1, if_neg (by decide), si1, if_neg (by decide)]; exact n3
  · rw [si1, if_neg (by decide), si1, if_pos ⟨rfl, rfl⟩]
  · rw [si1, if_pos ⟨rfl, rfl⟩]
  · show (if isG (t.2 b) = true then 4 else 0) ≠ 3
    by_cases z : isG (t.2 b) = true
    · rw [if_pos z]; decide
    · rw [if_neg z]; decide
  · show (if isG (t.2 b) = true then 4 else 0) ≠ 2
    by_cases z : isG (t.2 b) = true
    · rw [if_pos z]; decide
    · rw [if_neg z]; decide
