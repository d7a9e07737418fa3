/-! ===== undo, count, say ===== -/
theorem op_undo : OpI fX11_undo fX12_undo := by
  intro n σx σm hn h
  have h1 := Rel_th h
  unfold fX11_undo fX12_undo
  rw [fxL_r (fx_si σm 0 0 0)]
  generalize fx_si σm 0 0 0 = σ1 at h1 ⊢
  obtain ⟨r, ef, a, t, d, hA⟩ := id h1
  obtain ⟨hMV, hRB, hEB, hRX, hEX, hRM, hEM, hNX, hSX, hSM, hSB, -, -, -, -, -, -, -, ⟨c, nx, us, u1, u2, u3, u4, u5, u6⟩, -⟩ := id hA
  by_cases c0 : c = 0
  · subst c0
    exact ⟨0, σx, σ1, by rw [u3, if_neg (by decide)], by rw [u5, if_pos (by decide)], Rel_up h1 (by omega)⟩
  · have hpos : 0 < nI c := by rw [n0, nI_ltI (by omega) (by omega)]; omega
    have hne : ¬ nI c = 0 := nI_ne0 (by omega) (by omega)
    have u := u6 (c - 1) (by omega)
    have hidx : (nx + 16 - c + (c - 1)) % 16 = (nx + 15) % 16 := by omega
    rw [hidx] at u
    -- the class
    have hfl : ∀ σ : FH, fJ9_floorMod_7cf53 (nI nx - 1) 16 σ = some (nI ((nx + 15) % 16)) := by
      intro σ
      by_cases z : nx = 0
      · subst z; exact flM σ
      · rw [nI_m1 (by omega), flN _ (by omega)]
        congr 2
        omega
    have hsx : SX (fx_si (fx_si σx 0 11 (nI (c - 1))) 0 12 (nI ((nx + 15) % 16))) (51 + 3 * ((nx + 15) % 16)) (us (c - 1)) := SX_agr (P := fun b => b = 0) u.1 (agr_sit rfl (agr_si rfl)) (fun i hi => by omega)
    obtain ⟨σx2, e2, hs2, g2⟩ := x_copyOf (t := 7) hsx rfl (by omega)
    -- the reference
    have hsm : SM (fx_si σ1 0 51 (nI (c - 1))) 37 (14 * (c - 1)) (us (c - 1)) := fun k hk => by rw [fx_si_o (by decide)]; exact u.2.1 k hk
    obtain ⟨σ2, e3, g3, o3, d3⟩ := m_copies (c2 := 33) (n1 := 224) (n2 := 14) (o2 := 0) hsm (by decide) (by omega) (by decide) (by decide) (by decide) rfl rfl
    have e12 : (fx_si (fx_si σx 0 11 (nI (c - 1))) 0 12 (nI ((nx + 15) % 16))).1 0 12 = nI ((nx + 15) % 16) := by rw [si1, if_pos ⟨rfl, rfl⟩]
    refine ⟨1, σx2, σ2, ?_, ?_, ⟨r, ef, us (c - 1), t, d, ?_⟩⟩
    · rw [u3, if_pos hpos, nI_m1 (by omega), fxL_r, si1, if_neg (by omega), u4, hfl, fxBP_s, fxL_r, e12, fxG_t (fx_inN (Nat.mod_lt _ (by decide)) (by decide)), fx_clN (by omega), e2, fxBV_s]
    · rw [u5, if_neg hne, nI_m1 (by omega), fxL_r, si1, if_pos ⟨rfl, rfl⟩, show (14 : Int32) * nI (c - 1) = nI (14 * (c - 1)) from pk_mul 14 _, show (0 : Int32) = nI 0 from rfl, e3, fxBV_s]
    · have gx : agr (fun b => b = 0 ∨ (7 ≤ b ∧ b ≤ 9)) σx σx2 := agr_tr (agr_sit (Or.inl rfl) (agr_si (Or.inl rfl))) (agr_mono (fun q hq => by omega) g2)
      refine RelA_gen hA (fun b b1 b2 b3 b4 => gx.1 b (by omega)) gx.2 (fun b b1 b2 b3 b4 => by rw [g3.1 b b2, fx_si_o b1]) (by rw [g3.1 0 (by decide), si1, if_neg (by omega)]) (fun b j _ => by rw [g3.2]; rfl) hs2 d3 (SB_up u.2.2 (by omega)) ?_ (Nat.le_succ n)
      refine ⟨c - 1, (nx + 15) % 16, us, by omega, Nat.mod_lt _ (by decide), ?_, ?_, ?_, fun k hk => ⟨?_, fun j hj => ?_, SB_up (u6 k (by omega)).2.2 (by omega)⟩⟩
      · rw [g2.1 0 (by omega), si1, if_neg (by omega), si1, if_pos ⟨rfl, rfl⟩]
      · rw [g2.1 0 (by omega), e12]
      · rw [g3.1 0 (by decide), si1, if_pos ⟨rfl, rfl⟩]
      · rw [show ((nx + 15) % 16 + 16 - (c - 1) + k) % 16 = (nx + 16 - c + k) % 16 by omega]
        exact SX_agr (u6 k (by omega)).1 gx (fun i hi => by omega)
      · rw [g3.1 37 (by decide), fx_si_o (by decide)]
        exact (u6 k (by omega)).2.1 j hj
/-- the wares that are half done, as bits; how much is done of all -/
def hvb (r : AR) (a : AS) : Nat → Nat
  | 0 => 0
  | n + 1 => hvb r a n + (if a (3 + n) = rH r n then 1 else 0) * 2 ^ n
theorem hvb_lt (r : AR) (a : AS) : ∀ n, hvb r a n < 2 ^ n
  | 0 => by rw [hvb]; decide
  | n + 1 => by
    have h := hvb_lt r a n
    have : (if a (3 + n) = rH r n then 1 else 0) * 2 ^ n ≤ 1 * 2 ^ n := Nat.mul_le_mul_right _ (by split <;> omega)
    rw [hvb, Nat.pow_succ]
    omega
def ald (a : AS) : Nat := sF (fun i => a (3 + i)) 0 6
section CN
variable {σ : FH} {T t : Nat} {r : AR} {a : AS} {n : Nat}
theorem x_half_loop (h : RX σ T r) (hb : RB r) (hs : SX σ t a) (hd : ∀ i, i < r 0 0 → a (3 + i) ≤ rH r i) (K : Int32 → Option Int32) : ∀ (m n i : Nat), i + m = r 0 0 → m < n → fX7_halfDone_4 t T σ K n (nI (hvb r a i)) (nI i) = K (nI (hvb r a (r 0 0)))
  | m, 0, i, _, h2 => absurd h2 (by omega)
  | 0, n + 1, i, h1, _ => by
    have hw := hb.1
    obtain rfl : i = r 0 0 := by omega
    rw [fX7_halfDone_4, h.2.1, if_pos (nI_le (by omega) (by omega))]
  | m + 1, n + 1, i, h1, h2 => by
    have hw := hb.1
    have hl := hvb_lt r a i
    have hor : (if (if a (3 + i) = rH r i then (1 : Int32) else 0) = 0 then nI (hvb r a i) else (nI (hvb r a i) ||| ((1 : Int32) <<< (nI i &&& 31)))) = nI (hvb r a (i + 1)) := by
      rw [hvb]
      by_cases c : a (3 + i) = rH r i
      · rw [if_pos c, if_neg (by decide), if_pos c]
        exact orN i (by omega) _ hl 1 (by decide)
      · rw [if_neg c, if_pos rfl, if_neg c, Nat.zero_mul, Nat.add_zero]
    rw [fX7_halfDone_4, h.2.1, if_neg (by rw [nI_leI (by omega) (by omega)]; omega), x_isHalf h hb hs hd (by omega), fxBP_s, fxL_r, hor, nI_1]
    exact x_half_loop h hb hs hd K m n (i + 1) (by omega) (by omega)
theorem x_halfDone (h : RX σ T r) (hb : RB r) (hs : SX σ t a) (hd : ∀ i, i < r 0 0 → a (3 + i) ≤ rH r i) : fX7_halfDone t T σ = some (nI (hvb r a (r 0 0))) := by
  have hw := hb.1
  unfold fX7_halfDone
  rw [fxG_t hs.1, fxG_t h.1, fxL_r]
  exact x_half_loop h hb hs hd _ (r 0 0) FU 0 (by omega) (by unfold FU; omega)
theorem m_half_loop (h : RM σ 0 r) (hb : RB r) (hs : SM σ 33 0 a) (hd : ∀ i, i < r 0 0 → a (3 + i) ≤ rH r i) (K : Int32 → Option Int32) : ∀ (m n i : Nat), i + m = r 0 0 → m < n → fX12_halves_4 σ K n (nI (hvb r a i)) (nI i) = K (nI (hvb r a (r 0 0)))
  | m, 0, i, _, h2 => absurd h2 (by omega)
  | 0, n + 1, i, h1, _ => by
    have hw := hb.1
    obtain rfl : i = r 0 0 := by omega
    rw [fX12_halves_4, gi _ _ (by decide), cl0, rm_w h, if_pos (nI_le (by omega) (by omega))]
  | m + 1, n + 1, i, h1, h2 => by
    have hw := hb.1
    have hl := hvb_lt r a i
    have hor : (nI (hvb r a i) ||| (if (if a (3 + i) = rH r i then (1 : Int32) else 0) = 0 then (0 : Int32) else ((1 : Int32) <<< (nI i &&& 31)))) = nI (hvb r a (i + 1)) := by
      rw [hvb]
      by_cases c : a (3 + i) = rH r i
      · rw [if_pos c, if_neg (by decide), if_pos c]
        exact orN i (by omega) _ hl 1 (by decide)
      · rw [if_neg c, if_pos rfl, if_neg c, Nat.zero_mul, Nat.add_zero, or0]
    rw [fX12_halves_4, gi _ _ (by decide), cl0, rm_w h, if_neg (by rw [nI_leI (by omega) (by omega)]; omega), m_isHalf h hb hs hd (by omega), fxBP_s, fxL_r, fxL_r, hor, nI_1]
    exact m_half_loop h hb hs hd K m n (i + 1) (by omega) (by omega)
theorem m_halves (h : RM σ 0 r) (hb : RB r) (hs : SM σ 33 0 a) (hd : ∀ i, i < r 0 0 → a (3 + i) ≤ rH r i) : fX12_halves σ = some (nI (hvb r a (r 0 0))) := by
  have hw := hb.1
  unfold fX12_halves
  rw [fxL_r]
  exact m_half_loop h hb hs hd _ (r 0 0) FU 0 (by omega) (by unfold FU; omega)
theorem x_aldl (hs : SX σ t a) (K : Int32 → Option Int32) : ∀ (m n i acc : Nat), i + m = 6 → m < n → fX7_allDone_4 t σ K n (nI acc) (nI i) = K (nI (acc + sF (fun p => a (3 + p)) i m))
  | m, 0, i, acc, _, h2 => absurd h2 (by omega)
  | 0, n + 1, i, acc, h1, _ => by
    obtain rfl : i = 6 := by omega
    rw [fX7_allDone_4, if_pos (by decide)]
    rfl
  | m + 1, n + 1, i, acc, h1, h2 => by
    rw [fX7_allDone_4, if_neg (by rw [show (6 : Int32) = nI 6 from rfl, nI_leI (by omega) (by omega)]; omega), fxG_t (fx_inN (by omega) (by decide)), fx_clN (by omega), hs.2.2.2.2.1 i (by omega), fxL_r, nI_add, nI_1, x_aldl hs K m n (i + 1) (acc + a (3 + i)) (by omega) (by omega)]
    simp only [sF, Nat.add_assoc]
theorem x_allDone (hs : SX σ t a) : fX7_allDone t σ = some (nI (ald a)) := by
  unfold fX7_allDone
  rw [fxG_t hs.1, fxL_r]
  refine (x_aldl hs _ 6 FU 0 0 (by omega) (by decide)).trans ?_
  rw [Nat.zero_add]
  rfl
theorem m_aldl (hs : SM σ 33 0 a) (K : Int32 → Option Int32) : ∀ (m n i acc : Nat), i + m = 6 → m < n → fX12_allDone_4 σ K n (nI acc) (nI i) = K (nI (acc + sF (fun p => a (3 + p)) i m))
  | m, 0, i, acc, _, h2 => absurd h2 (by omega)
  | 0, n + 1, i, acc, h1, _ => by
    obtain rfl : i = 6 := by omega
    rw [fX12_allDone_4, if_pos (by decide)]
    rfl
  | m + 1, n + 1, i, acc, h1, h2 => by
    rw [fX12_allDone_4, if_neg (by rw [show (6 : Int32) = nI 6 from rfl, nI_leI (by omega) (by omega)]; omega), thN, fxG_t (fx_inN (by omega) (by decide)), fx_clN (by omega), sm_k hs (by omega), fxL_r, nI_add, nI_1, m_aldl hs K m n (i + 1) (acc + a (3 + i)) (by omega) (by omega)]
    simp only [sF, Nat.add_assoc]
theorem m_allDone (hs : SM σ 33 0 a) : fX12_allDone σ = some (nI (ald a)) := by
  unfold fX12_allDone
  rw [fxL_r]
  refine (m_aldl hs _ 6 FU 0 0 (by omega) (by decide)).trans ?_
  rw [Nat.zero_add]
  rfl
end CN
theorem op_count (y : Int32) : OpP (fX11_count y) (fX12_count y) := by
  intro n σx σm hn h
  have h1 := Rel_th h
  unfold fX11_count fX12_count
  rw [fxL_r]
  generalize fx_si σm 0 0 0 = σ1 at h1 ⊢
  obtain ⟨r, ef, a, t, d, hA⟩ := id h1
  obtain ⟨hMV, hRB, hEB, hRX, hEX, hRM, hEM, hNX, hSX, hSM, hSB, hTX, hTM, hTB, hDX, hDM, hDB, ⟨L, tp, p1, p2, p3, p4⟩, ⟨c, nx, us, u1, u2, u3, u4, u5, u6⟩, hKX⟩ := id hA
  have hw := hRB.1
  rcases pk_ix y (n := 13) (by decide) with hy | hy | ⟨k, hk, rfl⟩
  · exact ⟨-1, σ1, by rw [if_neg (fun q => by rw [q] at hy; exact absurd hy (by decide)), if_neg (fun q => by rw [q] at hy; exact absurd hy (by decide)), if_neg (fun q => by rw [q] at hy; exact absurd hy (by decide)), if_neg (fun q => by rw [q] at hy; exact absurd hy (by decide)), if_neg (fun q => by rw [q] at hy; exact absurd hy (by decide)), if_neg (fun q => by rw [q] at hy; exact absurd hy (by decide)), if_neg (fun q => by rw [q] at hy; exact absurd hy (by decide)), if_neg (fun q => by rw [q] at hy; exact absurd hy (by decide)), if_neg (fun q => by rw [q] at hy; exact absurd hy (by decide)), if_neg (fun q => by rw [q] at hy; exact absurd hy (by decide)), if_neg (fun q => by rw [q] at hy; exact absurd hy (by decide)), if_neg (fun q => by rw [q] at hy; exact absurd hy (by decide)), if_neg (fun q => by rw [q] at hy; exact absurd hy (by decide))], by rw [wi_f (Or.inl hy), fxBP_s, if_pos rfl], Rel_up h1 (by omega)⟩
  · have hy2 : 12 < y := nle_lt (a := 12) (by decide) hy (by decide)
    exact ⟨-1, σ1, by rw [if_neg (fun q => by rw [q] at hy; exact absurd hy (by decide)), if_neg (fun q => by rw [q] at hy; exact absurd hy (by decide)), if_neg (fun q => by rw [q] at hy; exact absurd hy (by decide)), if_neg (fun q => by rw [q] at hy; exact absurd hy (by decide)), if_neg (fun q => by rw [q] at hy; exact absurd hy (by decide)), if_neg (fun q => by rw [q] at hy; exact absurd hy (by decide)), if_neg (fun q => by rw [q] at hy; exact absurd hy (by decide)), if_neg (fun q => by rw [q] at hy; exact absurd hy (by decide)), if_neg (fun q => by rw [q] at hy; exact absurd hy (by decide)), if_neg (fun q => by rw [q] at hy; exact absurd hy (by decide)), if_neg (fun q => by rw [q] at hy; exact absurd hy (by decide)), if_neg (fun q => by rw [q] at hy; exact absurd hy (by decide)), if_neg (fun q => by rw [q] at hy; exact absurd hy (by decide))], by rw [wi_f (Or.inr hy2), fxBP_s, if_pos rfl], Rel_up h1 (by omega)⟩
  · rcases (show k = 0 ∨ k = 1 ∨ k = 2 ∨ k = 3 ∨ k = 4 ∨ k = 5 ∨ k = 6 ∨ k = 7 ∨ k = 8 ∨ k = 9 ∨ k = 10 ∨ k = 11 ∨ k = 12 by omega) with rfl | rfl | rfl | rfl | rfl | rfl | rfl | rfl | rfl | rfl | rfl | rfl | rfl
    · refine ⟨nI (r 0 0), σ1, ?_, ?_, Rel_up h1 (by omega)⟩
      · rw [if_pos (by decide), fxG_t hRX.1, hRX.2.1]
      · rw [wi_t (by decide) (by decide), fxBP_s, if_neg (by decide), if_neg (by decide), gi _ _ (by decide), fx_clN (i := 0) (by decide), rm_w hRM]
    · refine ⟨nI (r 0 1), σ1, ?_, ?_, Rel_up h1 (by omega)⟩
      · rw [if_neg (by decide), if_pos (by decide), fxG_t hRX.1, hRX.2.2.1]
      · rw [wi_t (by decide) (by decide), fxBP_s, if_neg (by decide), if_neg (by decide), gi _ _ (by decide), fx_clN (i := 1) (by decide), rm_q hRM]
    · refine ⟨nI (r 0 2), σ1, ?_, ?_, Rel_up h1 (by omega)⟩
      · rw [if_neg (by decide), if_neg (by decide), if_pos (by decide), fxG_t hRX.1, hRX.2.2.2.1]
      · rw [wi_t (by decide) (by decide), fxBP_s, if_neg (by decide), if_neg (by decide), gi _ _ (by decide), fx_clN (i := 2) (by decide), rm_f hRM]
    · refine ⟨nI (a 0), σ1, ?_, ?_, Rel_up h1 (by omega)⟩
      · rw [if_neg (by decide), if_neg (by decide), if_neg (by decide), if_pos (by decide), hSX.2.1]
      · rw [wi_t (by decide) (by decide), fxBP_s, if_neg (by decide), if_pos (by decide), if_neg (by decide), if_pos (by decide), gi _ _ (by decide), cl0, sm_k hSM (by omega)]
    · refine ⟨nI (a 1), σ1, ?_, ?_, Rel_up h1 (by omega)⟩
      · rw [if_neg (by decide), if_neg (by decide), if_neg (by decide), if_neg (by decide), if_pos (by decide), hSX.2.2.1]
      · rw [wi_t (by decide) (by decide), fxBP_s, if_neg (by decide), if_pos (by decide), if_neg (by decide), if_neg (by decide), if_pos (by decide), gi _ _ (by decide), cl1, sm_k hSM (by omega)]
    · refine ⟨nI (ald a), σ1, ?_, ?_, Rel_up h1 (by omega)⟩
      · rw [if_neg (by decide), if_neg (by decide), if_neg (by decide), if_neg (by decide), if_neg (by decide), if_pos (by decide), x_allDone hSX, fxBP_s]
      · rw [wi_t (by decide) (by decide), fxBP_s, if_neg (by decide), if_pos (by decide), if_neg (by decide), if_neg (by decide), if_neg (by decide), m_allDone hSM, fxBP_s]
    · refine ⟨nI (hvb r a (r 0 0)), σ1, ?_, ?_, Rel_up h1 (by omega)⟩
      · rw [if_neg (by decide), if_neg (by decide), if_neg (by decide), if_neg (by decide), if_neg (by decide), if_neg (by decide), if_pos (by decide), fxG_t hRX.1, x_halfDone hRX hRB hSX hSB.2.2.2.1, fxBP_s]
      · rw [wi_t (by decide) (by decide), fxBP_s, if_neg (by decide), if_pos (by decide), if_pos (by decide), if_neg (by decide), if_pos (by decide), m_halves hRM hRB hSM hSB.2.2.2.1, fxBP_s]
    · refine ⟨nI (alls r a), σ1, ?_, ?_, Rel_up h1 (by omega)⟩
      · rw [if_neg (by decide), if_neg (by decide), if_neg (by decide), if_neg (by decide), if_neg (by decide), if_neg (by decide), if_neg (by decide), if_pos (by decide), x_allSeats hSX hRB hSB, fxBP_s]
      · rw [wi_t (by decide) (by decide), fxBP_s, if_neg (by decide), if_pos (by decide), if_pos (by decide), if_neg (by decide), if_neg (by decide), if_pos (by decide), m_allSeats hRM hRB hSM, fxBP_s]
    · refine ⟨nI (a 2), σ1, ?_, ?_, Rel_up h1 (by omega)⟩
      · rw [if_neg (by decide), if_neg (by decide), if_neg (by decide), if_neg (by decide), if_neg (by decide), if_neg (by decide), if_neg (by decide), if_neg (by decide), if_pos (by decide), hSX.2.2.2.1]
      · rw [wi_t (by decide) (by decide), fxBP_s, if_neg (by decide), if_pos (by decide), if_pos (by decide), if_neg (by decide), if_neg (by decide), if_neg (by decide), gi _ _ (by decide), cl2, sm_k hSM (by omega)]
    · refine ⟨nI (t 0 0), σ1, ?_, ?_, Rel_up h1 (by omega)⟩
      · rw [if_neg (by decide), if_neg (by decide), if_neg (by decide), if_neg (by decide), if_neg (by decide), if_neg (by decide), if_neg (by decide), if_neg (by decide), if_neg (by decide), if_pos (by decide), fxG_t hTX.1, hTX.2.1]
      · rw [wi_t (by decide) (by decide), fxBP_s, if_neg (by decide), if_pos (by decide), if_pos (by decide), if_pos (by decide), if_neg (by decide), if_pos (by decide), gi _ _ (by decide), cl0, hTM.1]
    · refine ⟨nI (d 0 0), σ1, ?_, ?_, Rel_up h1 (by omega)⟩
      · rw [if_neg (by decide), if_neg (by decide), if_neg (by decide), if_neg (by decide), if_neg (by decide), if_neg (by decide), if_neg (by decide), if_neg (by decide), if_neg (by decide), if_neg (by decide), if_pos (by decide), hDX.2.1]
      · rw [wi_t (by decide) (by decide), fxBP_s, if_neg (by decide), if_pos (by decide), if_pos (by decide), if_pos (by decide), if_neg (by decide), if_neg (by decide), gi _ _ (by decide), cl0, hDM.1]
    · refine ⟨nI c, σ1, ?_, ?_, Rel_up h1 (by omega)⟩
      · rw [if_neg (by decide), if_neg (by decide), if_neg (by decide), if_neg (by decide), if_neg (by decide), if_neg (by decide), if_neg (by decide), if_neg (by decide), if_neg (by decide), if_neg (by decide), if_neg (by decide), if_pos (by decide), u3]
      · rw [wi_t (by decide) (by decide), fxBP_s, if_neg (by decide), if_pos (by decide), if_pos (by decide), if_pos (by decide), if_pos (by decide), fxL_r, if_pos (by decide), u5]
    · refine ⟨nI L, σ1, ?_, ?_, Rel_up h1 (by omega)⟩
      · rw [if_neg (by decide), if_neg (by decide), if_neg (by decide), if_neg (by decide), if_neg (by decide), if_neg (by decide), if_neg (by decide), if_neg (by decide), if_neg (by decide), if_neg (by decide), if_neg (by decide), if_neg (by decide), if_pos (by decide), p2]
      · rw [wi_t (by decide) (by decide), fxBP_s, if_neg (by decide), if_pos (by decide), if_pos (by decide), if_pos (by decide), if_pos (by decide), fxL_r, if_neg (by decide), p3]
