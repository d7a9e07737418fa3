/-! ===== what a republic, a state are, as numbers; how the class and the reference hold them ===== -/
/-- a republic: r 0 0 wares, r 0 1 parties, r 0 2 the fine; r 1 kinds, r 2 wholes, r 3 done at first, r 4 seats at first, r 5 causes. a state: 0 week, 1 fines, 2 joined, 3 .. 8 done, 9 .. 13 seats -/
abbrev AR : Type := Nat → Nat → Nat
abbrev AS : Type := Nat → Nat
def rH (r : AR) (i : Nat) : Nat := r 2 i / 2
/-- the republic is one that can be told -/
def RB (r : AR) : Prop := r 0 0 ≤ 6 ∧ r 0 1 ≤ 5 ∧ 1 ≤ r 0 2 ∧ r 0 2 ≤ 9 ∧ (∀ i, i < r 0 0 → r 1 i ≤ 3 ∧ 2 ≤ r 2 i ∧ r 2 i ≤ 60 ∧ r 3 i ≤ rH r i) ∧ ∀ p, p < r 0 1 → r 4 p ≤ 40 ∧ r 5 p < 64
/-- the state is one of that republic; c bounds what was done so far -/
def SB (r : AR) (a : AS) (c : Nat) : Prop := a 0 ≤ c ∧ a 1 ≤ 4000 * c ∧ a 2 ≤ c ∧ (∀ i, i < r 0 0 → a (3 + i) ≤ rH r i) ∧ (∀ i, r 0 0 ≤ i → i < 6 → a (3 + i) = 0) ∧ (∀ p, p < r 0 1 → a (9 + p) ≤ 99) ∧ ∀ p, r 0 1 ≤ p → p < 5 → a (9 + p) = 0
/-- the class's -/
def RX (σ : FH) (T : Nat) (r : AR) : Prop := LX[T]? = some (5, 0) ∧ σ.1 T 0 = nI (r 0 0) ∧ σ.1 T 5 = nI (r 0 1) ∧ σ.1 T 9 = nI (r 0 2) ∧ (∀ i, i < r 0 0 → σ.1 (T + 2) i = nI (r 1 i) ∧ σ.1 (T + 3) i = nI (r 2 i) ∧ σ.1 (T + 4) i = nI (r 3 i)) ∧ ∀ p, p < r 0 1 → σ.1 (T + 6) p = nI (r 4 p) ∧ σ.1 (T + 7) p = nI (r 5 p)
def SX (σ : FH) (t : Nat) (a : AS) : Prop := LX[t]? = some (7, 0) ∧ σ.1 t 2 = nI (a 0) ∧ σ.1 t 3 = nI (a 1) ∧ σ.1 t 4 = nI (a 2) ∧ (∀ i, i < 6 → σ.1 (t + 1) i = nI (a (3 + i))) ∧ ∀ p, p < 5 → σ.1 (t + 2) p = nI (a (9 + p))
/-- the reference's: o is 0 for the republic, 1 for the one that is read -/
def RM (σ : FH) (o : Nat) (r : AR) : Prop := σ.1 2 (3 * o) = nI (r 0 0) ∧ σ.1 2 (3 * o + 1) = nI (r 0 1) ∧ σ.1 2 (3 * o + 2) = nI (r 0 2) ∧ (∀ i, i < r 0 0 → σ.1 5 (6 * o + i) = nI (r 1 i) ∧ σ.1 6 (6 * o + i) = nI (r 2 i) ∧ σ.1 7 (6 * o + i) = nI (r 3 i)) ∧ ∀ p, p < r 0 1 → σ.1 8 (5 * o + p) = nI (r 4 p) ∧ σ.1 9 (5 * o + p) = nI (r 5 p)
def SM (σ : FH) (c o : Nat) (a : AS) : Prop := ∀ k, k < 14 → σ.1 c (o + k) = nI (a k)
/-- how one works, within 0 to 9: so, half, votes, date -/
abbrev EF : Type := Nat → Nat → Nat → Nat → Nat
def EB (ef : EF) : Prop := ∀ a b c d, ef a b c d ≤ 9
def clamp9 (v : Int32) : Int32 := if 0 < (if v < 9 then v else 9) then (if v < 9 then v else 9) else 0
def EX (σ : FH) (T : Nat) (ef : EF) : Prop := ∀ (so half votes date : Nat) (σ0 : FH), so < 65536 → half < 65536 → votes < 65536 → date < 65536 → σ0.1 (T + 8) = σ.1 (T + 8) → σ0.1 (T + 9) = σ.1 (T + 9) → ∃ v σ', fX1_value (T + 8) (nI so) (nI half) (nI votes) (nI date) σ0 = some (v, σ') ∧ agr (fun b => b = T + 10) σ0 σ' ∧ clamp9 v = nI (ef so half votes date)
/-- the reference's scratch cells -/
def scrM (b : Nat) : Prop := 15 ≤ b ∧ b ≤ 24
def EM (σ : FH) (ef : EF) : Prop := ∀ (so half votes date : Nat) (σ0 : FH), so < 65536 → half < 65536 → votes < 65536 → date < 65536 → σ0.1 10 0 = σ.1 10 0 → σ0.1 11 0 = σ.1 11 0 → (∀ k, k < 1000 → σ0.1 12 k = σ.1 12 k) → ∃ σ', fX12_effort (nI so) (nI half) (nI votes) (nI date) σ0 = some (nI (ef so half votes date), σ') ∧ agr scrM σ0 σ'
/-- a bit of a number -/
def bt (n k : Nat) : Nat := n / 2 ^ k % 2
/-- the votes of a ware -/
def sF (f : Nat → Nat) (i : Nat) : Nat → Nat
  | 0 => 0
  | m + 1 => f i + sF f (i + 1) m
def vts (r : AR) (a : AS) (k : Nat) : Nat := sF (fun p => if bt (r 5 p) k = 1 then a (9 + p) else 0) 0 (r 0 1)
def alls (r : AR) (a : AS) : Nat := sF (fun p => a (9 + p)) 0 (r 0 1)
theorem sF_le {f : Nat → Nat} {b : Nat} : ∀ (m i : Nat), (∀ k, i ≤ k → k < i + m → f k ≤ b) → sF f i m ≤ m * b
  | 0, _, _ => by simp [sF]
  | m + 1, i, h => by
    have h1 := sF_le m (i + 1) (fun k h1 h2 => h k (by omega) (by omega))
    have h2 := h i (by omega) (by omega)
    simp only [sF, Nat.add_mul]
    omega
theorem sF_congr {f g : Nat → Nat} : ∀ (m i : Nat), (∀ k, i ≤ k → k < i + m → f k = g k) → sF f i m = sF g i m
  | 0, _, _ => rfl
  | m + 1, i, h => by
    simp only [sF]
    rw [sF_congr m (i + 1) (fun k h1 h2 => h k (by omega) (by omega)), h i (by omega) (by omega)]
def upS (a : AS) (k v : Nat) : AS := fun j => if j = k then v else a j
/-- work at a ware -/
def wrk (r : AR) (a : AS) (i m : Nat) : AS := upS (upS a (3 + i) (min (a (3 + i) + m) (rH r i))) 1 (a 1 + (a (3 + i) + m - rH r i) * r 0 2)
def wfi (r : AR) (a : AS) (i m : Nat) : Nat := (a (3 + i) + m - rH r i) * r 0 2
/-- how much is worked in a week -/
def much (ef : EF) (k so half votes date : Nat) : Nat := if k = 3 ∧ date % 2 = 1 then 0 else if k = 1 then 2 * ef so half votes date else if k = 2 then min (ef so half votes date) ((half - so + 1) / 2) else ef so half votes date
def mch (r : AR) (ef : EF) (a : AS) (i : Nat) : Nat := much ef (r 1 i) (a (3 + i)) (rH r i) (vts r a i) (a 0)
/-- the first n wares' share of a week, and what is fined in it -/
def wks (r : AR) (ef : EF) (a : AS) : Nat → AS
  | 0 => a
  | n + 1 => wrk r (wks r ef a n) n (mch r ef (wks r ef a n) n)
def wkf (r : AR) (ef : EF) (a : AS) : Nat → Nat
  | 0 => 0
  | n + 1 => wkf r ef a n + wfi r (wks r ef a n) n (mch r ef (wks r ef a n) n)
def wk (r : AR) (ef : EF) (a : AS) : AS := upS (wks r ef a (r 0 0)) 0 (a 0 + 1)
def wf (r : AR) (ef : EF) (a : AS) : Nat := wkf r ef a (r 0 0)
