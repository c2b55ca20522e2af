/-! PURE: bits of small sets, sums -/
def zbit (s : Int) (k : Nat) : Bool := decide (s / 2 ^ k % 2 = 1)
theorem z_s31 : ∀ n : Nat, n < 32 → ((Int32.ofInt (n : Int) &&& 31).toBitVec.smod 32).toNat = n := by decide +kernel
theorem z_shrN {s : Int} {k : Nat} (hs : zin s) (hk : k < 32) : zshr s k = s / 2 ^ k := by
  unfold zshr
  rw [pk_shr (Int32.ofInt s) (Int32.ofInt (k : Int) &&& 31) k (z_s31 k hk), z_ti hs, Int.shiftRight_eq_div_pow]
  rfl
theorem z_and1 {x : Int} (hx : zin x) : zand x 1 = x % 2 := by
  unfold zand
  have h1 : (Int32.ofInt 1).toBitVec.toNat = 2 ^ 1 - 1 := rfl
  rw [pk_and (Int32.ofInt x) 1 h1]
  rw [nI_toInt (by have := Nat.mod_lt (Int32.ofInt x).toBitVec.toNat (show 0 < 2 ^ 1 by decide); omega)]
  have h2 := z_ti hx
  have h3 : (Int32.ofInt x).toInt = (Int32.ofInt x).toBitVec.toInt := rfl
  rw [h3, BitVec.toInt_eq_toNat_cond] at h2
  have h4 := (Int32.ofInt x).toBitVec.isLt
  split at h2 <;> omega
theorem z_has {s : Int} {k : Nat} (hs : zin s) (hk : k < 32) : zand (zshr s k) 1 = s / 2 ^ k % 2 := by
  rw [z_shrN hs hk, z_and1]
  have h1 : (0 : Int) < 2 ^ k := Int.pow_pos (by omega)
  obtain ⟨h2, h3⟩ := hs
  have h4 := Int.ediv_le_self (b := 2 ^ k) (a := s)
  refine ⟨?_, ?_⟩
  · rw [Int.le_ediv_iff_mul_le h1]
    have h5 : (1 : Int) ≤ 2 ^ k := h1
    have h6 := Int.mul_le_mul_of_nonneg_left h5 (show (0 : Int) ≤ 2147483648 by omega)
    rw [Int.neg_mul]
    omega
  · rcases Int.le_total 0 s with q | q
    · have := h4 q; omega
    · have : s / 2 ^ k ≤ 0 := by
        rcases Int.lt_or_le 0 (s / 2 ^ k) with z | z
        · have := (Int.le_ediv_iff_mul_le h1 (a := 1) (b := s)).mp z
          omega
        · exact z
      omega
theorem z_has1 {s : Int} {k : Nat} (hs : zin s) (hk : k < 32) : zand (zshr s k) 1 = 1 ↔ zbit s k = true := by
  rw [z_has hs hk]; unfold zbit; simp
theorem z_shl1 : ∀ k : Nat, k < 31 → zshl 1 (k : Int) = (2 : Int) ^ k := by decide +kernel
/-- a bit more, a bit turned, a bit less -/
def zon (s : Int) (k : Nat) : Int := if zbit s k then s else s + 2 ^ k
def zoff (s : Int) (k : Nat) : Int := if zbit s k then s - 2 ^ k else s
def zflip (s : Int) (k : Nat) : Int := if zbit s k then s - 2 ^ k else s + 2 ^ k
theorem z_orCD : ∀ x : Nat, x < 64 → ∀ y : Nat, y < 64 → ∀ k : Nat, k < 12 → zor ((64 * x + y : Nat) : Int) ((2 : Int) ^ k) = zon ((64 * x + y : Nat) : Int) k := by decide +kernel
theorem z_orC : ∀ a : Nat, a < 4096 → ∀ k : Nat, k < 12 → zor (a : Int) ((2 : Int) ^ k) = zon (a : Int) k := by
  intro a ha k hk
  have h := z_orCD (a / 64) (by omega) (a % 64) (by omega) k hk
  rw [show 64 * (a / 64) + a % 64 = a by omega] at h
  exact h
theorem z_xorCD : ∀ x : Nat, x < 64 → ∀ y : Nat, y < 64 → ∀ k : Nat, k < 12 → zxor ((64 * x + y : Nat) : Int) ((2 : Int) ^ k) = zflip ((64 * x + y : Nat) : Int) k := by decide +kernel
theorem z_xorC : ∀ a : Nat, a < 4096 → ∀ k : Nat, k < 12 → zxor (a : Int) ((2 : Int) ^ k) = zflip (a : Int) k := by
  intro a ha k hk
  have h := z_xorCD (a / 64) (by omega) (a % 64) (by omega) k hk
  rw [show 64 * (a / 64) + a % 64 = a by omega] at h
  exact h
theorem z_offCD : ∀ x : Nat, x < 64 → ∀ y : Nat, y < 64 → ∀ k : Nat, k < 12 → zand ((64 * x + y : Nat) : Int) (zxor ((2 : Int) ^ k) (-1)) = zoff ((64 * x + y : Nat) : Int) k := by decide +kernel
theorem z_offC : ∀ a : Nat, a < 4096 → ∀ k : Nat, k < 12 → zand (a : Int) (zxor ((2 : Int) ^ k) (-1)) = zoff (a : Int) k := by
  intro a ha k hk
  have h := z_offCD (a / 64) (by omega) (a % 64) (by omega) k hk
  rw [show 64 * (a / 64) + a % 64 = a by omega] at h
  exact h
/-- a set of at most twelve -/
def zset12 (s : Int) : Prop := 0 ≤ s ∧ s < 4096
theorem z_or12 {s : Int} (h : zset12 s) {k : Nat} (hk : k < 12) : zor s (zshl 1 (k : Int)) = zon s k := by
  obtain ⟨n, rfl⟩ := Int.eq_ofNat_of_zero_le h.1
  rw [z_shl1 k (by omega)]
  exact z_orC n (by have := h.2; omega) k hk
theorem z_xor12 {s : Int} (h : zset12 s) {k : Nat} (hk : k < 12) : zxor s (zshl 1 (k : Int)) = zflip s k := by
  obtain ⟨n, rfl⟩ := Int.eq_ofNat_of_zero_le h.1
  rw [z_shl1 k (by omega)]
  exact z_xorC n (by have := h.2; omega) k hk
theorem z_off12 {s : Int} (h : zset12 s) {k : Nat} (hk : k < 12) : zand s (zxor (zshl 1 (k : Int)) (-1)) = zoff s k := by
  obtain ⟨n, rfl⟩ := Int.eq_ofNat_of_zero_le h.1
  rw [z_shl1 k (by omega)]
  exact z_offC n (by have := h.2; omega) k hk
theorem z_onCD : ∀ x : Nat, x < 64 → ∀ y : Nat, y < 64 → ∀ k : Nat, k < 12 → 0 ≤ zon ((64 * x + y : Nat) : Int) k ∧ zon ((64 * x + y : Nat) : Int) k < 4096 := by decide +kernel
theorem z_onC : ∀ a : Nat, a < 4096 → ∀ k : Nat, k < 12 → 0 ≤ zon (a : Int) k ∧ zon (a : Int) k < 4096 := by
  intro a ha k hk
  have h := z_onCD (a / 64) (by omega) (a % 64) (by omega) k hk
  rw [show 64 * (a / 64) + a % 64 = a by omega] at h
  exact h
theorem z_flipCD : ∀ x : Nat, x < 64 → ∀ y : Nat, y < 64 → ∀ k : Nat, k < 12 → 0 ≤ zflip ((64 * x + y : Nat) : Int) k ∧ zflip ((64 * x + y : Nat) : Int) k < 4096 := by decide +kernel
theorem z_flipC : ∀ a : Nat, a < 4096 → ∀ k : Nat, k < 12 → 0 ≤ zflip (a : Int) k ∧ zflip (a : Int) k < 4096 := by
  intro a ha k hk
  have h := z_flipCD (a / 64) (by omega) (a % 64) (by omega) k hk
  rw [show 64 * (a / 64) + a % 64 = a by omega] at h
  exact h
theorem z_on12 {s : Int} (h : zset12 s) {k : Nat} (hk : k < 12) : zset12 (zon s k) := by
  obtain ⟨n, rfl⟩ := Int.eq_ofNat_of_zero_le h.1
  exact z_onC n (by have := h.2; omega) k hk
theorem z_flip12 {s : Int} (h : zset12 s) {k : Nat} (hk : k < 12) : zset12 (zflip s k) := by
  obtain ⟨n, rfl⟩ := Int.eq_ofNat_of_zero_le h.1
  exact z_flipC n (by have := h.2; omega) k hk
theorem zset12_in {s : Int} (h : zset12 s) : zin s := ⟨by have := h.1; omega, by have := h.2; omega⟩
theorem zbit_m (s : Int) (k : Nat) : s / 2 ^ k % 2 = if zbit s k = true then 1 else 0 := by
  unfold zbit
  by_cases h : s / 2 ^ k % 2 = 1
  · simp [h]
  · simp [h]; omega
/-- sums -/
def zSm (f : Nat → Int) : Nat → Int
  | 0 => 0
  | n + 1 => zSm f n + f n
theorem zSm_ext {f g : Nat → Int} : ∀ {n : Nat}, (∀ b, b < n → f b = g b) → zSm f n = zSm g n
  | 0, _ => rfl
  | n + 1, h => by
    unfold zSm
    rw [zSm_ext (n := n) (fun b hb => h b (by omega)), h n (by omega)]
theorem zSm_rg {f : Nat → Int} {m : Int} : ∀ {n : Nat}, (∀ b, b < n → 0 ≤ f b ∧ f b ≤ m) → 0 ≤ zSm f n ∧ zSm f n ≤ m * n
  | 0, _ => by simp [zSm]
  | n + 1, h => by
    have h1 := zSm_rg (f := f) (m := m) (n := n) (fun b hb => h b (by omega))
    have h2 := h n (by omega)
    unfold zSm
    have e : m * ((n + 1 : Nat) : Int) = m * n + m := by rw [Int.natCast_add, Int.mul_add]; simp
    omega
