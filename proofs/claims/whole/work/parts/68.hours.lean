/-! HOUR, both sides -/
def zhn (F : zST × Nat → zST × Nat) : Nat → zST × Nat → Nat → (Nat → zST × Nat) → (zST × Nat) × Nat × (Nat → zST × Nat)
  | 0, s, N, PS => (s, N, PS)
  | m + 1, s, N, PS => zhn F m (F s) (zup N) (zpu N PS s.1 s.2)
theorem zhn_s (F : zST × Nat → zST × Nat) (m : Nat) (s : zST × Nat) (N : Nat) (PS : Nat → zST × Nat) : zhn F (m + 1) s N PS = zhn F m (F s) (zup N) (zpu N PS s.1 s.2) := rfl
