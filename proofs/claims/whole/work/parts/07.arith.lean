/-! NUMBERS: the machine's words out of whole numbers -/
def zin (a : Int) : Prop := -2147483648 ≤ a ∧ a ≤ 2147483647
def zinL (a : Int) : Prop := -9223372036854775808 ≤ a ∧ a ≤ 9223372036854775807
theorem z_ti {a : Int} (h : zin a) : (Int32.ofInt a).toInt = a := by
  obtain ⟨h1, h2⟩ := h
  rw [Int32.toInt_ofInt]
  exact Int.bmod_eq_of_le (by simp; omega) (by simp; omega)
theorem z_tiL {a : Int} (h : zinL a) : (Int64.ofInt a).toInt = a := by
  obtain ⟨h1, h2⟩ := h
  rw [Int64.toInt_ofInt]
  exact Int.bmod_eq_of_le (by simp; omega) (by simp; omega)
theorem z_rg (x : Int32) : zin x.toInt := by
  have h1 := Int32.le_toInt x
  have h2 := Int32.toInt_lt x
  exact ⟨by omega, by omega⟩
theorem z_rgL (x : Int64) : zinL x.toInt := by
  have h1 := Int64.le_toInt x
  have h2 := Int64.toInt_lt x
  exact ⟨by omega, by omega⟩
theorem z_w32 (x : Int) : zin (w32 x) := by
  unfold zin w32; omega
theorem z_w64 (x : Int) : zinL (w64 x) := by
  unfold zinL w64; omega
theorem z_ow (x : Int) : Int32.ofInt (w32 x) = Int32.ofInt x := by
  apply Int32.toInt_inj.mp
  rw [Int32.toInt_ofInt, Int32.toInt_ofInt]
  have e : w32 x = x + 4294967296 * (-((x + 2147483648) / 4294967296)) := by unfold w32; omega
  rw [e]
  exact Int.add_mul_bmod_self_left x 4294967296 _
theorem z_owL (x : Int) : Int64.ofInt (w64 x) = Int64.ofInt x := by
  apply Int64.toInt_inj.mp
  rw [Int64.toInt_ofInt, Int64.toInt_ofInt]
  have e : w64 x = x + 18446744073709551616 * (-((x + 9223372036854775808) / 18446744073709551616)) := by unfold w64; omega
  rw [e]
  exact Int.add_mul_bmod_self_left x 18446744073709551616 _
theorem z_add (a b : Int) : Int32.ofInt a + Int32.ofInt b = Int32.ofInt (w32 (a + b)) := by rw [z_ow, Int32.ofInt_add]
theorem z_sub (a b : Int) : Int32.ofInt a - Int32.ofInt b = Int32.ofInt (w32 (a - b)) := by rw [z_ow, Int32.ofInt_sub]
theorem z_mul (a b : Int) : Int32.ofInt a * Int32.ofInt b = Int32.ofInt (w32 (a * b)) := by rw [z_ow, Int32.ofInt_mul]
theorem z_neg (a : Int) : -Int32.ofInt a = Int32.ofInt (w32 (-a)) := by rw [z_ow, Int32.ofInt_neg]
theorem z_addL (a b : Int) : Int64.ofInt a + Int64.ofInt b = Int64.ofInt (w64 (a + b)) := by rw [z_owL, Int64.ofInt_add]
theorem z_mulL (a b : Int) : Int64.ofInt a * Int64.ofInt b = Int64.ofInt (w64 (a * b)) := by rw [z_owL, Int64.ofInt_mul]
theorem z_fix {x : Int} (h1 : -2147483648 ≤ x) (h2 : x ≤ 2147483647) : w32 x = x := by unfold w32; omega
theorem z_fixL {x : Int} (h1 : -9223372036854775808 ≤ x) (h2 : x ≤ 9223372036854775807) : w64 x = x := by unfold w64; omega
theorem z_inj {a b : Int} (ha : zin a) (hb : zin b) (h : Int32.ofInt a = Int32.ofInt b) : a = b := by
  rw [← z_ti ha, ← z_ti hb, h]
theorem z_eqi {a b : Int} (ha : zin a) (hb : zin b) : Int32.ofInt a = Int32.ofInt b ↔ a = b := ⟨z_inj ha hb, fun h => by rw [h]⟩
theorem z_lti {a b : Int} (ha : zin a) (hb : zin b) : Int32.ofInt a < Int32.ofInt b ↔ a < b := by
  rw [Int32.lt_iff_toInt_lt, z_ti ha, z_ti hb]
theorem z_lei {a b : Int} (ha : zin a) (hb : zin b) : Int32.ofInt a ≤ Int32.ofInt b ↔ a ≤ b := by
  rw [Int32.le_iff_toInt_le, z_ti ha, z_ti hb]
theorem z_injL {a b : Int} (ha : zinL a) (hb : zinL b) (h : Int64.ofInt a = Int64.ofInt b) : a = b := by
  rw [← z_tiL ha, ← z_tiL hb, h]
theorem z_ltL {a b : Int} (ha : zinL a) (hb : zinL b) : Int64.ofInt a < Int64.ofInt b ↔ a < b := by
  rw [Int64.lt_iff_toInt_lt, z_tiL ha, z_tiL hb]
theorem z_zero : zin 0 := ⟨by omega, by omega⟩
theorem z_o0 : (Int32.ofInt 0 : Int32) = 0 := rfl
theorem z_back (x : Int32) : Int32.ofInt x.toInt = x := by
  apply Int32.toInt_inj.mp; rw [z_ti (z_rg x)]
theorem z_backL (x : Int64) : Int64.ofInt x.toInt = x := by
  apply Int64.toInt_inj.mp; rw [z_tiL (z_rgL x)]
theorem z_div {a b : Int} (ha : zin a) (hb : zin b) : Int32.ofInt a / Int32.ofInt b = Int32.ofInt (w32 (a.tdiv b)) := by
  rw [z_ow]
  apply Int32.toInt_inj.mp
  rw [Int32.toInt_div, z_ti ha, z_ti hb, Int32.toInt_ofInt]
theorem z_tm (a b : Int) : (a.tmod b).natAbs ≤ a.natAbs := by
  have h1 : (a.tmod b).natAbs = a.natAbs % b.natAbs := by
    first | exact Int.natAbs_tmod a b | (rw [Int.natAbs_tmod])
  rw [h1]; exact Nat.mod_le _ _
theorem z_rem {a b : Int} (ha : zin a) (hb : zin b) : Int32.ofInt a - Int32.ofInt a / Int32.ofInt b * Int32.ofInt b = Int32.ofInt (a.tmod b) := by
  apply Int32.toInt_inj.mp
  rw [rem_toInt, z_ti ha, z_ti hb]
  refine (z_ti ?_).symm
  obtain ⟨h1, h2⟩ := ha
  have h4 : (a.tmod b).natAbs ≤ a.natAbs := z_tm a b
  unfold zin
  rcases Int.le_total 0 a with h | h
  · have := Int.tmod_nonneg b h; omega
  · have h5 : a.tmod b ≤ 0 := by
      have := Int.tmod_nonneg b (show 0 ≤ -a by omega)
      rw [Int.neg_tmod] at this; omega
    omega
theorem z_remr {a b : Int} (ha : zin a) : zin (a.tmod b) := by
  obtain ⟨h1, h2⟩ := ha
  have h4 : (a.tmod b).natAbs ≤ a.natAbs := z_tm a b
  unfold zin
  rcases Int.le_total 0 a with h | h
  · have := Int.tmod_nonneg b h; omega
  · have h5 : a.tmod b ≤ 0 := by
      have := Int.tmod_nonneg b (show 0 ≤ -a by omega)
      rw [Int.neg_tmod] at this; omega
    omega
theorem z_remrL {a b : Int} (ha : zinL a) : zinL (a.tmod b) := by
  obtain ⟨h1, h2⟩ := ha
  have h4 : (a.tmod b).natAbs ≤ a.natAbs := z_tm a b
  unfold zinL
  rcases Int.le_total 0 a with h | h
  · have := Int.tmod_nonneg b h; omega
  · have h5 : a.tmod b ≤ 0 := by
      have := Int.tmod_nonneg b (show 0 ≤ -a by omega)
      rw [Int.neg_tmod] at this; omega
    omega
theorem z_divL {a b : Int} (ha : zinL a) (hb : zinL b) : Int64.ofInt a / Int64.ofInt b = Int64.ofInt (w64 (a.tdiv b)) := by
  rw [z_owL]
  apply Int64.toInt_inj.mp
  rw [Int64.toInt_div, z_tiL ha, z_tiL hb, Int64.toInt_ofInt]
theorem z_and (a b : Int) : Int32.ofInt a &&& Int32.ofInt b = Int32.ofInt (zand a b) := (z_back _).symm
theorem z_or (a b : Int) : Int32.ofInt a ||| Int32.ofInt b = Int32.ofInt (zor a b) := (z_back _).symm
theorem z_xor (a b : Int) : Int32.ofInt a ^^^ Int32.ofInt b = Int32.ofInt (zxor a b) := (z_back _).symm
theorem z_shl (a b : Int) : Int32.ofInt a <<< (Int32.ofInt b &&& 31) = Int32.ofInt (zshl a b) := (z_back _).symm
theorem z_shr (a b : Int) : Int32.ofInt a >>> (Int32.ofInt b &&& 31) = Int32.ofInt (zshr a b) := (z_back _).symm
theorem z_ushr (a b : Int) : ((Int32.ofInt a).toUInt32 >>> ((Int32.ofInt b).toUInt32 &&& Int32.toUInt32 31)).toInt32 = Int32.ofInt (zushr a b) := (z_back _).symm
theorem z_land (a b : Int) : Int64.ofInt a &&& Int64.ofInt b = Int64.ofInt (zland a b) := (z_backL _).symm
theorem z_i2l {a : Int} (ha : zin a) : (Int32.ofInt a).toInt64 = Int64.ofInt a := by
  apply Int64.toInt_inj.mp
  rw [Int32.toInt_toInt64, z_ti ha, z_tiL]
  obtain ⟨h1, h2⟩ := ha
  exact ⟨by omega, by omega⟩
theorem z_l2i {a : Int} (ha : zinL a) : (Int64.ofInt a).toInt32 = Int32.ofInt (w32 a) := by
  rw [z_ow]
  apply Int32.toInt_inj.mp
  rw [Int64.toInt_toInt32, z_tiL ha, Int32.toInt_ofInt]
theorem z_vin {k : Int} {n : Nat} (h0 : 0 ≤ k) (h : k < n) (hn : n < 2147483648) : vp_in (Int32.ofInt k) n := by
  rw [vp_in_iff, z_ti ⟨by omega, by omega⟩]
  exact ⟨h0, h⟩
theorem z_cl {k : Int} (h : zin k) : (Int32.ofInt k).toNatClampNeg = k.toNat := by
  show (Int32.ofInt k).toInt.toNat = k.toNat
  rw [z_ti h]
theorem z_nat (n : Nat) : Int32.ofNat n = Int32.ofInt (n : Int) := rfl
theorem z_01 {v : Int} (h : v = 0 ∨ v = 1) : narrow .boolean (.int (Int32.ofInt v)) = .int (Int32.ofInt v) ∧ fits .boolean (.int (Int32.ofInt v)) = true := by
  rcases h with rfl | rfl
  · exact ⟨rfl, rfl⟩
  · exact ⟨rfl, rfl⟩
theorem z_b8 {n : Int} (h : -128 ≤ n ∧ n ≤ 127) : (Int8.ofInt n).toInt32 = Int32.ofInt n := by
  apply Int32.toInt_inj.mp
  rw [Int8.toInt_toInt32, Int8.toInt_ofInt, z_ti ⟨by omega, by omega⟩]
  exact Int.bmod_eq_of_le (by simp; omega) (by simp; omega)
theorem z_b16 {n : Int} (h : -32768 ≤ n ∧ n ≤ 32767) : (Int16.ofInt n).toInt32 = Int32.ofInt n := by
  apply Int32.toInt_inj.mp
  rw [Int16.toInt_toInt32, Int16.toInt_ofInt, z_ti ⟨by omega, by omega⟩]
  exact Int.bmod_eq_of_le (by simp; omega) (by simp; omega)
