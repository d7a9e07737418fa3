/-! ===== republic ===== -/
theorem iM_rel {σ σ' : FH} (h : iM σ σ') : ∀ b j, relM b j → σ'.1 b j = σ.1 b j := fun b j z => h.1 b j (by unfold relM at z; unfold pM; omega)
theorem PX_0 {σx σm : FH} (h1 : σx.1 3 1 = 0) (h2 : σm.1 0 1 = 0) : PX σx σm := ⟨0, fun _ => 0, by decide, h1, h2, fun j hj => absurd hj (Nat.not_lt_zero j)⟩
set_option maxHeartbeats 1000000 in
theorem op_republic : OpI fX11_republic fX12_republic := by
  intro n σx σm hn h
  have h1 := Rel_th h
  unfold fX11_republic fX12_republic
  rw [fxL_r (fx_si σm 0 0 0)]
  generalize fx_si σm 0 0 0 = σ1 at h1 ⊢
  obtain ⟨r0, ef0, a0, t0, d0, hA⟩ := id h1
  obtain ⟨hMV, hRB, hEB, hRX, hEX, hRM, hEM, hNX, hSX, hSM, hSB, hTX, hTM, hTB, hDX, hDM, hDB, hPX, hUX, hKX⟩ := id hA
  have hT : tOk (σx.2.2 3) := by rcases hMV.1 with z | z <;> unfold tOk <;> omega
  have hT' : σx.2.2 3 = 17 ∨ σx.2.2 3 = 28 := hT
  have hS : σx.2.2 2 = 17 ∨ σx.2.2 2 = 28 := by rcases hMV.1 with z | z <;> omega
  have hTT : σx.2.2 4 = 39 ∨ σx.2.2 4 = 44 := by rcases hMV.2 with z | z <;> omega
  have hTT5 : σx.2.2 5 = 39 ∨ σx.2.2 5 = 44 := by rcases hMV.2 with z | z <;> omega
  rw [fxG_t (tOk_L hT)]
  rcases rr hT hPX with ⟨e, σx', σm', e0, e1, r1, r2, r3, r4, r5, g1, g2⟩ | ⟨σx', σm', r, wn, pn, r1, r2, r4, r5, g1, g2, q1, q2, q3, q4, q5⟩
  · refine ⟨nI e, σx', σm', ?_, ?_, Rel_up (Rel_fr h1 (fun b j z => g1.1 b j (by omega)) (fun b j z => g1.2.1 b j (by omega)) g1.2.2 (iM_rel g2) (fun b j z => g2.2.1 b j (by omega)) (PX_0 r4 r5)) (by omega)⟩
    · rw [r1, fxBI_s, if_neg (nI_ne0 e0 (by omega))]
    · rw [r2, fxBI_s, if_pos rfl, r3]
  · rw [r1, r2, fxBI_s, fxBI_s, if_pos rfl, if_neg (by decide)]
    have hr := g1.2.2
    -- the class settles
    unfold fX11_settle
    have L2 : LX[σx'.2.2 2]? = some (5, 0) := by rw [hr]; exact tOk_L hS
    have L3 : LX[σx'.2.2 3]? = some (5, 0) := by rw [hr]; exact tOk_L hT
    rw [fxG_t L2, fxG_t L3, fxL_r, fxL_r]
    generalize hs4 : fx_sr (fx_sr σx' 2 (σx'.2.2 3)) 3 (σx'.2.2 2) = σ4
    have c1 : σ4.1 = σx'.1 := by rw [← hs4]; rfl
    have c2 : σ4.2.1 = σx'.2.1 := by rw [← hs4]; rfl
    have c3 : ∀ j, σ4.2.2 j = if j = 3 then σx.2.2 2 else if j = 2 then σx.2.2 3 else σx.2.2 j := fun j => by rw [← hs4, sr22, sr22, hr]
    have v2 : σ4.2.2 2 = σx.2.2 3 := by rw [c3, if_neg (by decide), if_pos rfl]
    have v3 : σ4.2.2 3 = σx.2.2 2 := by rw [c3, if_pos rfl]
    have v4 : σ4.2.2 4 = σx.2.2 4 := by rw [c3, if_neg (by decide), if_neg (by decide)]
    have v5 : σ4.2.2 5 = σx.2.2 5 := by rw [c3, if_neg (by decide), if_neg (by decide)]
    rw [v2, fxG_t (tOk_L hT)]
    have q2' : RX σ4 (σx.2.2 3) r := by unfold RX; rw [c1]; exact q2
    obtain ⟨σ8, b8, s8, g8⟩ := x_begin (t := 7) q2' q1 rfl
    have w8 : σ8.2 = σ4.2 := g8.2
    rw [b8, fxBV_s, w8, v4, fxG_t (show LX[σx.2.2 4]? = some (8, 0) from hTX.1), fxL_r, fxL_r, fxL_r, fxL_r]
    generalize hs12 : fx_si (fx_si (fx_si σ8 (σx.2.2 4) 0 0) 13 0 0) 0 11 0 = σ12
    have X12 : ∀ b j, σ12.1 b j = if b = 0 ∧ j = 11 then 0 else if b = 13 ∧ j = 0 then 0 else if b = σx.2.2 4 ∧ j = 0 then 0 else σ8.1 b j := fun b j => by rw [← hs12, si1, si1, si1]
    have X12l : σ12.2 = σ8.2 := by rw [← hs12]; rfl
    obtain ⟨σ14, b14, f14, o14, l14⟩ := x_unmark (fun σ14 => some σ14) 4 FU 0 σ12 (by omega) (by decide)
    rw [nI_0] at b14
    rw [b14, fxBV_s]
    -- the reference lays
    obtain ⟨ρ, d1, y2, y5, y8, y12, y10, y11, n3, n4, oo, ll⟩ := m_lays σm'
    rw [d1, fxBV_s]
    have hRM' : RM ρ 0 r := by
      obtain ⟨z1, z2, z3, z4, z5⟩ := q3
      have B1 := q1.1
      have B2 := q1.2.1
      refine ⟨(y2 0 (by decide)).trans z1, (y2 1 (by decide)).trans z2, (y2 2 (by decide)).trans z3, fun i hi => ?_, fun p hp => ?_⟩
      · rw [show 6 * 0 + i = i by omega, y5 5 i (by omega) (by omega), y5 6 i (by omega) (by omega), y5 7 i (by omega) (by omega)]; exact z4 i hi
      · rw [show 5 * 0 + p = p by omega, y8 8 p (by omega) (by omega), y8 9 p (by omega) (by omega)]; exact z5 p hp
    obtain ⟨ρ2, d2, sm2, gm2⟩ := m_fresh0 hRM' q1
    rw [d2, fxBV_s, fxG_t (show fx_in 0 6 = true from by decide), show Int32.toNatClampNeg 0 = 0 from by decide, fxL_r, fxG_t (show fx_in 0 5 = true from by decide), fxL_r, fxL_r, fxL_r]
    generalize hs16 : fx_si (fx_si (fx_si ρ2 25 0 0) 30 0 0) 0 51 0 = ρ3
    have M3 : ∀ b j, ρ3.1 b j = if b = 0 ∧ j = 51 then 0 else if b = 30 ∧ j = 0 then 0 else if b = 25 ∧ j = 0 then 0 else ρ2.1 b j := fun b j => by rw [← hs16, si1, si1, si1]
    have M3l : ρ3.2 = ρ2.2 := by rw [← hs16]; rfl
    obtain ⟨ρ4, d4, f4, o4, l4⟩ := m_unmark (fun σ18 => some ((0 : Int32), σ18)) 4 FU 0 ρ3 (by omega) (by decide)
    rw [nI_0] at d4
    refine ⟨0, σ14, ρ4, rfl, d4, ?_⟩
    -- what holds now
    have XX : ∀ b j, b < 99 → ¬ (b = 0 ∧ j = 11) → ¬ (b = 13 ∧ j = 0) → ¬ (b = σx.2.2 4 ∧ j = 0) → ¬ (7 ≤ b ∧ b ≤ 9) → σ14.1 b j = σx'.1 b j := fun b j z0 z1 z2 z3 z4 => by rw [o14 b j z0, X12, if_neg z1, if_neg z2, if_neg z3, g8.1 b (by omega), c1]
    have XL : σ14.2 = σ4.2 := by rw [l14, X12l, w8]
    have M2 : ∀ b j, b ≠ 33 → ρ2.1 b j = ρ.1 b j := fun b j z => by rw [gm2.1 b z]
    have MM : ∀ b j, b ≠ 38 → b ≠ 33 → ¬ (b = 0 ∧ j = 51) → ¬ (b = 30 ∧ j = 0) → ¬ (b = 25 ∧ j = 0) → ρ4.1 b j = ρ.1 b j := fun b j z0 z1 z2 z3 z4 => by rw [o4 b j z0, M3, if_neg z2, if_neg z3, if_neg z4, M2 b j z1]
    have ML : ρ4.2 = ρ.2 := by rw [l4, M3l, gm2.2]
    have B1 := q1.1
    have B2 := q1.2.1
    have law : ∃ ef, EB ef ∧ EX σ14 (σx.2.2 3) ef ∧ EM ρ4 ef := by
      obtain ⟨w1, w2⟩ := q5
      have e10 : ρ4.1 10 0 = nI 0 := by rw [MM _ _ (by decide) (by decide) (by decide) (by decide) (by decide), y10, w1]; decide
      rcases w2 with ⟨a1, a2, a3, a4⟩ | ⟨a1, C, I, v, k1, k2, k3, k4, k5, k6, k7, k8, k9⟩
      · refine ⟨fun _ _ _ _ => 1, fun _ _ _ _ => (by decide : 1 ≤ 9), EX_0 hT ?_, EM_0 ?_⟩
        · rw [XX _ _ (by omega) (by omega) (by omega) (by omega) (by omega)]; exact a2
        · rw [e10, MM _ _ (by decide) (by decide) (by decide) (by decide) (by decide), y11, a3]; decide
      · refine ⟨efv v, EB_v v, EX_v hT k1 ?_ (CD_fr _ _ k3 (fun i _ _ => XX _ _ (by omega) (by omega) (by omega) (by omega) (by omega))) k4, EM_v k5 k6 e10 ?_ ?_ k9⟩
        · rw [XX _ _ (by omega) (by omega) (by omega) (by omega) (by omega)]; exact k2
        · rw [MM _ _ (by decide) (by decide) (by decide) (by decide) (by decide), y11, k7, show (1000 : Int32) = nI 1000 from rfl, pk_sub (by omega), Nat.add_sub_cancel_left]
        · have cd : ∀ (l : List Int32) (k : Nat), k + l.length ≤ 1000 → CD (σm'.1 12) (1000 + k) l → CD (ρ4.1 12) k l := by
            intro l
            induction l with
            | nil => intro k _ _; trivial
            | cons c l ih =>
              intro k hk hc
              rw [List.length_cons] at hk
              refine ⟨?_, ih (k + 1) (by omega) (by rw [← Nat.add_assoc]; exact hc.2)⟩
              rw [MM _ _ (by decide) (by decide) (by omega) (by omega) (by omega), y12 k (by omega)]
              exact hc.1
          exact cd I 0 (by omega) k8
    obtain ⟨ef, hE1, hE2, hE3⟩ := law
    have hMV' : MV σ14 := by
      unfold MV
      rw [XL, v2, v3, v4, v5]
      refine ⟨?_, hMV.2⟩
      rcases hMV.1 with z | z
      · exact Or.inr ⟨z.2, z.1⟩
      · exact Or.inl ⟨z.2, z.1⟩
    refine ⟨r, ef, fr0 r, fun _ _ => 0, fun _ _ => 0, hMV', q1, hE1, ?_, ?_, ?_, hE3, ?_, ?_, ?_, SB_up (SB_fr0 q1) (by omega), ?_, ?_, ?_, ?_, ?_, ?_, ?_, ?_, ?_⟩
    · rw [XL, v2]
      exact RX_pt q2 (fun b j z1 z2 => XX _ _ (by omega) (by omega) (by omega) (by omega) (by omega))
    · rw [XL, v2]; exact hE2
    · obtain ⟨z1, z2, z3, z4, z5⟩ := hRM'
      refine ⟨(MM _ _ (by decide) (by decide) (by decide) (by decide) (by decide)).trans z1, (MM _ _ (by decide) (by decide) (by decide) (by decide) (by decide)).trans z2, (MM _ _ (by decide) (by decide) (by decide) (by decide) (by decide)).trans z3, fun i hi => ?_, fun p hp => ?_⟩
      · rw [MM _ _ (by decide) (by decide) (by omega) (by omega) (by omega), MM _ _ (by decide) (by decide) (by omega) (by omega) (by omega), MM _ _ (by decide) (by decide) (by omega) (by omega) (by omega)]; exact z4 i hi
      · rw [MM _ _ (by decide) (by decide) (by omega) (by omega) (by omega), MM _ _ (by decide) (by decide) (by omega) (by omega) (by omega)]; exact z5 p hp
    · obtain ⟨z1, z2, z3, z4, z5, z6, z7, z8⟩ := q4
      rw [XL, v2]
      refine ⟨wn, pn, fun i hi => ?_, fun p hp => ?_⟩
      · rw [XL, ML, c2, n3 i (by omega)]; exact z7 i hi
      · rw [XL, ML, c2, n4 p (by omega)]; exact z8 p hp
    · exact SX_pt s8 (fun b j z1 z2 => by rw [o14 b j (by omega), X12, if_neg (by omega), if_neg (by omega), if_neg (by omega)])
    · intro k hk
      rw [o4 33 _ (by decide), M3, if_neg (by omega), if_neg (by omega), if_neg (by omega)]; exact sm2 k hk
    · rw [XL, v4]
      exact ⟨hTX.1, by rw [o14 _ _ (by omega), X12, if_neg (by omega), if_neg (by omega), if_pos ⟨rfl, rfl⟩]; rfl, fun k hk => absurd hk (Nat.not_lt_zero k)⟩
    · exact ⟨by rw [o4 _ _ (by decide), M3, if_neg (by omega), if_neg (by omega), if_pos ⟨rfl, rfl⟩]; rfl, fun k hk => absurd hk (Nat.not_lt_zero k)⟩
    · exact ⟨(by decide : 0 ≤ 40), fun k hk => absurd hk (Nat.not_lt_zero k)⟩
    · exact ⟨rfl, by rw [o14 _ _ (by omega), X12, if_neg (by omega), if_pos ⟨rfl, rfl⟩]; rfl, fun k hk => absurd hk (Nat.not_lt_zero k)⟩
    · exact ⟨by rw [o4 _ _ (by decide), M3, if_neg (by omega), if_pos ⟨rfl, rfl⟩]; rfl, fun k hk => absurd hk (Nat.not_lt_zero k)⟩
    · exact ⟨(by decide : 0 ≤ 8), fun k hk => absurd hk (Nat.not_lt_zero k)⟩
    · refine PX_0 ?_ ?_
      · rw [XX _ _ (by omega) (by omega) (by omega) (by omega) (by omega)]; exact r4
      · rw [MM _ _ (by decide) (by decide) (by decide) (by decide) (by decide), oo _ _ (by decide)]; exact r5
    · obtain ⟨c, nx, us, u1, u2, u3, u4, u5, u6⟩ := hUX
      refine ⟨0, nx, us, by decide, u2, ?_, ?_, ?_, fun k hk => absurd hk (Nat.not_lt_zero k)⟩
      · rw [o14 _ _ (by omega), X12, if_pos ⟨rfl, rfl⟩]; rfl
      · rw [XX _ _ (by omega) (by omega) (by omega) (by omega) (by omega), g1.1 0 12 (by omega)]; exact u4
      · rw [o4 _ _ (by decide), M3, if_pos ⟨rfl, rfl⟩]; rfl
    · intro j hj
      exact ⟨0, by decide, f14 j hj (Or.inl (Nat.zero_le _)), f4 j hj (Or.inl (Nat.zero_le _)), fun z => absurd z (by decide)⟩
