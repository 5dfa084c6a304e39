/-! a product of alike digits -/
def tmG (p : Nat) : Nat → Nat → Nat → Nat
  | 0, _, k => k
  | f + 1, r, k => if 0 < r ∧ r % p = 0 then tmG p f (r / p) (k + 1) else k
def tm (t p : Nat) : Nat := tmG p 17 t 0
def vP (A B C σ : Nat) : Nat := 2 ^ (σ % (A + 1)) * 3 ^ (σ / (A + 1) % (B + 1)) * 5 ^ (σ / ((A + 1) * (B + 1)) % (C + 1)) * 7 ^ (σ / ((A + 1) * (B + 1) * (C + 1)))
def shP (A B C g : Nat) : Nat := if g = 2 then 1 else if g = 3 then A + 1 else if g = 4 then 2 else if g = 5 then (A + 1) * (B + 1) else if g = 6 then 1 + (A + 1) else if g = 7 then (A + 1) * (B + 1) * (C + 1) else 0
def stP (A B C E : Nat) : Nat := (A + 1) * (B + 1) * (C + 1) * (E + 1)
def prP (A B C E : Nat) : Nat := 2 ^ A * 3 ^ B * 5 ^ C * 7 ^ E
def ckP (A B C E t z : Nat) : Bool := (Nat.ble z 128 && (Nat.beq (tm t 2) A && Nat.beq (tm t 3) B) && (Nat.beq (tm t 5) C && Nat.beq (tm t 7) E)) && Nat.beq (vP A B C (z - 1)) t && (List.range z).all fun σ => Nat.ble 1 (vP A B C σ) && (!Nat.beq (vP A B C σ) t || Nat.beq (σ + 1) z) && (List.range' 1 7).all fun g => !Nat.beq (t / vP A B C σ % g) 0 || (Nat.blt (σ + shP A B C g) z && Nat.beq (vP A B C (σ + shP A B C g)) (vP A B C σ * g))
def ckA (A : Nat) : Bool := (List.range 11).all fun B => (List.range 8).all fun C => (List.range 7).all fun E => Nat.blt 117649 (prP A B C E) || ckP A B C E (prP A B C E) (stP A B C E)
theorem ck_all : ∀ A, A < 17 → ckA A = true := by decide +kernel
