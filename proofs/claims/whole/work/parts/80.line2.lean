/-! ===== a line of a term, on both sides ===== -/
def stL (T D : Nat) (σ : FH) : Option (Int32 × FH) := fxBI (fX4_readLine T D σ) fun r24 σ25 => if r24 = 0 then some ((0 : Int32), σ25) else fX9_takeSign 59 σ25
theorem stL_0 {T D : Nat} {σ σ' : FH} (h : fX4_readLine T D σ = some (0, σ')) : stL T D σ = some (0, σ') := by rw [stL, h, fxBI_s, if_pos rfl]
theorem stL_1 {T D : Nat} {σ σ' : FH} (h : fX4_readLine T D σ = some (1, σ')) : stL T D σ = fX9_takeSign 59 σ' := by rw [stL, h, fxBI_s, if_neg (by decide)]
theorem TX_w {σ σ' : FH} {D : Nat} {tt : AT} (h : TX σ D tt) (e : ∀ b j, D ≤ b → b ≤ D + 4 → σ'.1 b j = σ.1 b j) : TX σ' D tt := TX_fr h (fun i hi => funext fun j => e _ _ (by omega) (by omega))
theorem TM_w {σ σ' : FH} {tt : AT} (h : TM σ 5 tt) (e : ∀ b j, 25 ≤ b → b ≤ 29 → j ≠ 200 + tt 0 0 → σ'.1 b j = σ.1 b j) (hl : tt 0 0 ≤ 40) : TM σ' 5 tt := by
  refine ⟨(e _ _ (by omega) (by omega) (by omega)).trans h.1, fun k hk => ?_⟩
  rw [e _ _ (by omega) (by omega) (by omega), e _ _ (by omega) (by omega) (by omega), e _ _ (by omega) (by omega) (by omega), e _ _ (by omega) (by omega) (by omega)]
  exact h.2 k hk
section LM2
variable {t : TP} {τ : TK} {σx σm : FH} {T D : Nat} {r : AR} {wn pn : Nat → List Nat}
theorem dL {D : Nat} (hD : D = 39 ∨ D = 44) : LX[D]? = some (8, 0) := by rcases hD with rfl | rfl <;> rfl
/-- what both do once the deed is known -/
theorem ln_head (hT : tOk T) (hD : D = 39 ∨ D = 44) (hJ : TJ t τ σx σm) {tt : AT} (hX : TX σx D tt) (hM : TM σm 5 tt) (hln : tt 0 0 < 40) {k : Nat} (hk4 : k ≤ 4) (hd : dee τ = nI k) (hk : τ.1 ≠ 1) : ∃ σx1 σm1, TJ t (tkAt t τ.2.2.1) σx1 (fx_si σm1 26 (200 + tt 0 0) (nI k)) ∧ τ.2.1 < (tkAt t τ.2.2.1).2.1 ∧ fA σx σx1 ∧ fN σm σm1 ∧
    fX4_readLine T D σx = (if nI k = 4 then (fxBV (fX8_put D (nI k) 0 0 0 σx1) fun σ62 => some ((1 : Int32), σ62)) else
        fxL (α := Int32) (if nI k = 3 then 1 else 0) <| fun (v10 : Int32) =>
        fxL (fun (y14 : Int32) =>
            fxBI (fX4_takeNamed y14 (-1) σx1) <| fun (r16 : Int32) (σ17 : FH) =>
            fxL (fun (x19 : Int32) (σ20 : FH) =>
                if r16 = (-1) then (
                  some ((0 : Int32), σ20))
                else (
                  if x19 = (-1) then (
                    some ((0 : Int32), σ20))
                  else (
                    fxL (fun (y24 : Int32) (σ25 : FH) =>
                        fxBV (fX8_put D (nI k) r16 x19 y24 σ25) <| fun (σ28 : FH) =>
                        fxL (α := Int32) (if y24 = (-1) then 0 else 1) <| fun (v29 : Int32) =>
                        fxG (fx_bo v29 = true) <|
                        some (v29, σ28)) <| fun J23 =>
                    if nI k = 2 then (
                      J23 0 σ20)
                    else (
                      fxBI (fX9_takeNumber 1 20 σ20) <| fun (r35 : Int32) (σ36 : FH) =>
                      J23 r35 σ36)))) <| fun J18 =>
            if r16 = (-1) then (
              J18 0 σ17)
            else (
              fxL (
                  fxL (fun (y40 : Int32) =>
                      fxBI (fX4_takeNamed y40 r16 σ17) <| fun (r42 : Int32) (σ43 : FH) =>
                      J18 r42 σ43) <| fun J39 =>
                  if v10 = 0 then (
                    fxBP (fX4_wareHere T σ17) <| fun (r46 : Int32) =>
                    J39 r46)
                  else (
                    fxBP (fX4_partyHere T σ17) <| fun (r49 : Int32) =>
                    J39 r49)) <| fun J38 =>
              if v10 = 0 then (
                if nI k = 2 then (
                  J38)
                else (
                  J18 0 σ17))
              else (
                J38))) <| fun J13 =>
        if v10 = 0 then (
          fxBP (fX4_wareHere T σx1) <| fun (r55 : Int32) =>
          J13 r55)
        else (
          fxBP (fX4_partyHere T σx1) <| fun (r58 : Int32) =>
          J13 r58)) ∧
    fX12_readsLine σm = (
          fxL (fun (σ17 : FH) =>
              fxL (fun (σ19 : FH) =>
                  fxL (fun (σ21 : FH) =>
                      fxG (fx_in 5 6 = true) <|
                      fxG (fx_in 5 6 = true) <|
                      fxL (fx_si σ21 25 5 ((σ21.1 25 5) + 1)) <| fun (σ24 : FH) =>
                      fxBI (fX12_closes σ24) <| fun (r26 : Int32) (σ27 : FH) =>
                      fxG (fx_bo r26 = true) <|
                      some (r26, σ27)) <| fun J20 =>
                  if nI k = 4 then (
                    J20 σ19)
                  else (
                    if nI k = 2 then (
                      J20 σ19)
                    else (
                      fxBI (fX12_needsNumber 1 20 σ19) <| fun (r32 : Int32) (σ33 : FH) =>
                      if r32 = 0 then (
                        some ((0 : Int32), σ33))
                      else (
                        fxG (fx_in (nI (200 + tt 0 0)) 240 = true) <|
                        fxL (fx_si σ33 29 (200 + tt 0 0) (σ33.1 0 35)) <| fun (σ36 : FH) =>
                        J20 σ36)))) <| fun J18 =>
              fxL (
                  fxL (fun (σ39 : FH) =>
                      fxG (fx_in (nI (200 + tt 0 0)) 240 = true) <|
                      if (σ39.1 0 35) = (σ39.1 27 (200 + tt 0 0)) then (
                        fxBI (fX12_fails 3 σ39) <| fun (r48 : Int32) (σ49 : FH) =>
                        fxG (fx_bo r48 = true) <|
                        some (r48, σ49))
                      else (
                        fxG (fx_in (nI (200 + tt 0 0)) 240 = true) <|
                        fxL (fx_si σ39 28 (200 + tt 0 0) (σ39.1 0 35)) <| fun (σ43 : FH) =>
                        fxBV (fX12_nextToken σ43) <| fun (σ46 : FH) =>
                        J18 σ46)) <| fun J38 =>
                  if nI k = 3 then (
                    fxBI (fX12_needsParty 0 σ17) <| fun (r57 : Int32) (σ58 : FH) =>
                    if r57 = 0 then (
                      some ((0 : Int32), σ58))
                    else (
                      J38 σ58))
                  else (
                    fxBI (fX12_needsWare 0 σ17) <| fun (r53 : Int32) (σ54 : FH) =>
                    if r53 = 0 then (
                      some ((0 : Int32), σ54))
                    else (
                      J38 σ54))) <| fun J37 =>
              if nI k = 2 then (
                J37)
              else (
                if nI k = 3 then (
                  J37)
                else (
                  J18 σ17))) <| fun J16 =>
          if nI k = 4 then (
            J16 (fx_si σm1 26 (200 + tt 0 0) (nI k)))
          else (
            fxL (fun (σ64 : FH) =>
                fxG (fx_in (nI (200 + tt 0 0)) 240 = true) <|
                fxL (fx_si σ64 27 (200 + tt 0 0) (σ64.1 0 35)) <| fun (σ66 : FH) =>
                fxBV (fX12_nextToken σ66) <| fun (σ69 : FH) =>
                J16 σ69) <| fun J63 =>
            if nI k = 3 then (
              fxBI (fX12_needsParty 0 (fx_si σm1 26 (200 + tt 0 0) (nI k))) <| fun (r76 : Int32) (σ77 : FH) =>
              if r76 = 0 then (
                some ((0 : Int32), σ77))
              else (
                J63 σ77))
            else (
              fxBI (fX12_needsWare 0 (fx_si σm1 26 (200 + tt 0 0) (nI k))) <| fun (r72 : Int32) (σ73 : FH) =>
              if r72 = 0 then (
                some ((0 : Int32), σ73))
              else (
                J63 σ73)))) := by
  obtain ⟨σx1, σm1, a1, a2, k1, p1, gx1, gm1⟩ := tj_adv hJ
  have hlt := (hJ.2.1.2.2.2.1 hk).2
  have c5 : Int32.toNatClampNeg 5 = 5 := by decide
  have q25 : σm1.1 25 5 = nI (tt 0 0) := by rw [gm1.1 25 5 (by omega)]; exact hM.1
  refine ⟨σx1, σm1, TJ_sm k1 (MK_hM k1.2.2.2 (fun b j z => si1n _ (by omega)) rfl), by omega, gx1, gm1, ?_, ?_⟩
  · unfold fX4_readLine
    rw [fxG_t (tOk_L hT), fxG_t (dL hD), x_deed hJ, fxBP_s, hd, if_neg (nI_nm1 (by omega)), hX.2.1, if_pos (show nI (tt 0 0) < 40 from nI_lt (b := 40) hln (by decide)), a1, fxBV_s]
  · unfold fX12_readsLine
    rw [m_isWord hJ.2.2.2 hJ.2.1 (a := 8) (by decide) (x := 464141) rfl, m_isWord hJ.2.2.2 hJ.2.1 (a := 9) (by decide) (x := 388978) rfl, m_isWord hJ.2.2.2 hJ.2.1 (a := 10) (by decide) (x := 208022) rfl, m_isWord hJ.2.2.2 hJ.2.1 (a := 11) (by decide) (x := 240223) rfl, m_isWord hJ.2.2.2 hJ.2.1 (a := 12) (by decide) (x := 456500) rfl, fxBP_s, dee_ch]
    rw [hd, if_pos (nI_pos' (by omega)), fxG_t (show fx_in 5 6 = true from by decide), c5, show σm.1 25 5 = nI (tt 0 0) from hM.1, if_neg (fun z => by have := nI_inj (b := 40) (by omega) (by decide) z; omega), a2, fxBV_s, fxG_t (show fx_in 5 6 = true from by decide), q25, show (200 : Int32) + nI (tt 0 0) = nI (200 + tt 0 0) from nI_add 200 _, fxL_r, fxG_t (fx_inN (by omega) (by decide)), fx_clN (by omega), fxL_r]
end LM2
