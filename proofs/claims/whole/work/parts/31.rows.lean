/-! SPECS of the rows: read, written, copied, filled (by program) -/
def zfil (μ : zM) (t j n : Nat) (v : Int) : zM := fun t' i' k' => if t' = t ∧ i' = j ∧ k' < n then v else μ t' i' k'
theorem zfil_0 (μ : zM) (t j : Nat) (v : Int) : zfil μ t j 0 v = μ := by
  funext a b c; unfold zfil; rw [if_neg]; omega
theorem zfil_s (μ : zM) (t j n : Nat) (v : Int) : zset (zfil μ t j n v) t j n v = zfil μ t j (n + 1) v := by
  funext a b c
  unfold zset zfil
  by_cases h : a = t ∧ b = j ∧ c = n
  · rw [if_pos h, if_pos ⟨h.1, h.2.1, by omega⟩]
  · rw [if_neg h]
    by_cases h2 : a = t ∧ b = j ∧ c < n
    · rw [if_pos h2, if_pos ⟨h2.1, h2.2.1, by omega⟩]
    · rw [if_neg h2, if_neg]
      rintro ⟨q1, q2, q3⟩
      by_cases h3 : c = n
      · exact h ⟨q1, q2, h3⟩
      · exact h2 ⟨q1, q2, by omega⟩
theorem zcpy_0 (μ : zM) (t i sp u j dp : Nat) : zcpy μ t i sp u j dp 0 = μ := by
  funext a b c; unfold zcpy; rw [if_neg]; omega
theorem zcpy_src (μ : zM) (t i sp u j dp n x : Nat) (h : t ≠ u ∨ i ≠ j) : zcpy μ t i sp u j dp n t i x = μ t i x := by
  unfold zcpy; rw [if_neg]; rintro ⟨q1, q2, -⟩; rcases h with h | h
  · exact h q1
  · exact h q2
theorem zcpy_s (μ : zM) (t i sp u j dp n : Nat) : zset (zcpy μ t i sp u j dp n) u j (dp + n) (μ t i (sp + n)) = zcpy μ t i sp u j dp (n + 1) := by
  funext a b c
  unfold zset zcpy
  by_cases h : a = u ∧ b = j ∧ c = dp + n
  · rw [if_pos h, if_pos ⟨h.1, h.2.1, by omega, by omega⟩, h.2.2, Nat.add_sub_cancel_left]
  · rw [if_neg h]
    by_cases h2 : a = u ∧ b = j ∧ dp ≤ c ∧ c < dp + n
    · rw [if_pos h2, if_pos ⟨h2.1, h2.2.1, h2.2.2.1, by omega⟩]
    · rw [if_neg h2, if_neg]
      rintro ⟨q1, q2, q3, q4⟩
      by_cases h3 : c = dp + n
      · exact h ⟨q1, q2, h3⟩
      · exact h2 ⟨q1, q2, q3, by omega⟩
theorem s_at_10 (d : Nat) (j : Nat) (r : Nat) (hr : r < 6) (μ : zM) (K : Int → zM → Prop) (h : K (μ 10 j r) μ) : zC1 d m_X9_at [zR 10 j, zI (r : Int)] μ K :=
  k_X9_at_t10 d j (r : Int) μ K ⟨fun q => absurd q (by omega), fun _ => ⟨fun q => absurd q (by omega), fun _ => ⟨⟨by omega, by omega⟩, h⟩⟩⟩
theorem sg_at_10 (d : Nat) (j : Nat) (r : Int) (μ : zM) (K : Int → zM → Prop) (h : (∀ n : Nat, n < 6 → r = n → K (μ 10 j n) μ) ∧ ((r < 0 ∨ 6 ≤ r) → K 0 μ)) : zC1 d m_X9_at [zR 10 j, zI r] μ K :=
  k_X9_at_t10 d j r μ K ⟨fun q => h.2 (Or.inl q), fun q1 => ⟨fun q => h.2 (Or.inr q), fun q2 => ⟨⟨by omega, by omega⟩, h.1 r.toNat (by omega) (by omega)⟩⟩⟩
theorem s_at_11 (d : Nat) (j : Nat) (r : Nat) (hr : r < 72) (μ : zM) (K : Int → zM → Prop) (h : K (μ 11 j r) μ) : zC1 d m_X9_at [zR 11 j, zI (r : Int)] μ K :=
  k_X9_at_t11 d j (r : Int) μ K ⟨fun q => absurd q (by omega), fun _ => ⟨fun q => absurd q (by omega), fun _ => ⟨⟨by omega, by omega⟩, h⟩⟩⟩
theorem sg_at_11 (d : Nat) (j : Nat) (r : Int) (μ : zM) (K : Int → zM → Prop) (h : (∀ n : Nat, n < 72 → r = n → K (μ 11 j n) μ) ∧ ((r < 0 ∨ 72 ≤ r) → K 0 μ)) : zC1 d m_X9_at [zR 11 j, zI r] μ K :=
  k_X9_at_t11 d j r μ K ⟨fun q => h.2 (Or.inl q), fun q1 => ⟨fun q => h.2 (Or.inr q), fun q2 => ⟨⟨by omega, by omega⟩, h.1 r.toNat (by omega) (by omega)⟩⟩⟩
theorem s_at_12 (d : Nat) (j : Nat) (r : Nat) (hr : r < 72) (μ : zM) (K : Int → zM → Prop) (h : K (μ 12 j r) μ) : zC1 d m_X9_at [zR 12 j, zI (r : Int)] μ K :=
  k_X9_at_t12 d j (r : Int) μ K ⟨fun q => absurd q (by omega), fun _ => ⟨fun q => absurd q (by omega), fun _ => ⟨⟨by omega, by omega⟩, h⟩⟩⟩
theorem sg_at_12 (d : Nat) (j : Nat) (r : Int) (μ : zM) (K : Int → zM → Prop) (h : (∀ n : Nat, n < 72 → r = n → K (μ 12 j n) μ) ∧ ((r < 0 ∨ 72 ≤ r) → K 0 μ)) : zC1 d m_X9_at [zR 12 j, zI r] μ K :=
  k_X9_at_t12 d j r μ K ⟨fun q => h.2 (Or.inl q), fun q1 => ⟨fun q => h.2 (Or.inr q), fun q2 => ⟨⟨by omega, by omega⟩, h.1 r.toNat (by omega) (by omega)⟩⟩⟩
theorem s_at_13 (d : Nat) (j : Nat) (r : Nat) (hr : r < 15) (μ : zM) (K : Int → zM → Prop) (h : K (μ 13 j r) μ) : zC1 d m_X9_at [zR 13 j, zI (r : Int)] μ K :=
  k_X9_at_t13 d j (r : Int) μ K ⟨fun q => absurd q (by omega), fun _ => ⟨fun q => absurd q (by omega), fun _ => ⟨⟨by omega, by omega⟩, h⟩⟩⟩
theorem sg_at_13 (d : Nat) (j : Nat) (r : Int) (μ : zM) (K : Int → zM → Prop) (h : (∀ n : Nat, n < 15 → r = n → K (μ 13 j n) μ) ∧ ((r < 0 ∨ 15 ≤ r) → K 0 μ)) : zC1 d m_X9_at [zR 13 j, zI r] μ K :=
  k_X9_at_t13 d j r μ K ⟨fun q => h.2 (Or.inl q), fun q1 => ⟨fun q => h.2 (Or.inr q), fun q2 => ⟨⟨by omega, by omega⟩, h.1 r.toNat (by omega) (by omega)⟩⟩⟩
theorem s_at_14 (d : Nat) (j : Nat) (r : Nat) (hr : r < 24) (μ : zM) (K : Int → zM → Prop) (h : K (μ 14 j r) μ) : zC1 d m_X9_at [zR 14 j, zI (r : Int)] μ K :=
  k_X9_at_t14 d j (r : Int) μ K ⟨fun q => absurd q (by omega), fun _ => ⟨fun q => absurd q (by omega), fun _ => ⟨⟨by omega, by omega⟩, h⟩⟩⟩
theorem sg_at_14 (d : Nat) (j : Nat) (r : Int) (μ : zM) (K : Int → zM → Prop) (h : (∀ n : Nat, n < 24 → r = n → K (μ 14 j n) μ) ∧ ((r < 0 ∨ 24 ≤ r) → K 0 μ)) : zC1 d m_X9_at [zR 14 j, zI r] μ K :=
  k_X9_at_t14 d j r μ K ⟨fun q => h.2 (Or.inl q), fun q1 => ⟨fun q => h.2 (Or.inr q), fun q2 => ⟨⟨by omega, by omega⟩, h.1 r.toNat (by omega) (by omega)⟩⟩⟩
theorem s_at_15 (d : Nat) (j : Nat) (r : Nat) (hr : r < 6) (μ : zM) (K : Int → zM → Prop) (h : K (μ 15 j r) μ) : zC1 d m_X9_at [zR 15 j, zI (r : Int)] μ K :=
  k_X9_at_t15 d j (r : Int) μ K ⟨fun q => absurd q (by omega), fun _ => ⟨fun q => absurd q (by omega), fun _ => ⟨⟨by omega, by omega⟩, h⟩⟩⟩
theorem sg_at_15 (d : Nat) (j : Nat) (r : Int) (μ : zM) (K : Int → zM → Prop) (h : (∀ n : Nat, n < 6 → r = n → K (μ 15 j n) μ) ∧ ((r < 0 ∨ 6 ≤ r) → K 0 μ)) : zC1 d m_X9_at [zR 15 j, zI r] μ K :=
  k_X9_at_t15 d j r μ K ⟨fun q => h.2 (Or.inl q), fun q1 => ⟨fun q => h.2 (Or.inr q), fun q2 => ⟨⟨by omega, by omega⟩, h.1 r.toNat (by omega) (by omega)⟩⟩⟩
theorem s_at_16 (d : Nat) (j : Nat) (r : Nat) (hr : r < 5) (μ : zM) (K : Int → zM → Prop) (h : K (μ 16 j r) μ) : zC1 d m_X9_at [zR 16 j, zI (r : Int)] μ K :=
  k_X9_at_t16 d j (r : Int) μ K ⟨fun q => absurd q (by omega), fun _ => ⟨fun q => absurd q (by omega), fun _ => ⟨⟨by omega, by omega⟩, h⟩⟩⟩
theorem sg_at_16 (d : Nat) (j : Nat) (r : Int) (μ : zM) (K : Int → zM → Prop) (h : (∀ n : Nat, n < 5 → r = n → K (μ 16 j n) μ) ∧ ((r < 0 ∨ 5 ≤ r) → K 0 μ)) : zC1 d m_X9_at [zR 16 j, zI r] μ K :=
  k_X9_at_t16 d j r μ K ⟨fun q => h.2 (Or.inl q), fun q1 => ⟨fun q => h.2 (Or.inr q), fun q2 => ⟨⟨by omega, by omega⟩, h.1 r.toNat (by omega) (by omega)⟩⟩⟩
theorem s_at_17 (d : Nat) (j : Nat) (r : Nat) (hr : r < 5) (μ : zM) (K : Int → zM → Prop) (h : K (μ 17 j r) μ) : zC1 d m_X9_at [zR 17 j, zI (r : Int)] μ K :=
  k_X9_at_t17 d j (r : Int) μ K ⟨fun q => absurd q (by omega), fun _ => ⟨fun q => absurd q (by omega), fun _ => ⟨⟨by omega, by omega⟩, h⟩⟩⟩
theorem sg_at_17 (d : Nat) (j : Nat) (r : Int) (μ : zM) (K : Int → zM → Prop) (h : (∀ n : Nat, n < 5 → r = n → K (μ 17 j n) μ) ∧ ((r < 0 ∨ 5 ≤ r) → K 0 μ)) : zC1 d m_X9_at [zR 17 j, zI r] μ K :=
  k_X9_at_t17 d j r μ K ⟨fun q => h.2 (Or.inl q), fun q1 => ⟨fun q => h.2 (Or.inr q), fun q2 => ⟨⟨by omega, by omega⟩, h.1 r.toNat (by omega) (by omega)⟩⟩⟩
theorem s_at_18 (d : Nat) (j : Nat) (r : Nat) (hr : r < 5) (μ : zM) (K : Int → zM → Prop) (h : K (μ 18 j r) μ) : zC1 d m_X9_at [zR 18 j, zI (r : Int)] μ K :=
  k_X9_at_t18 d j (r : Int) μ K ⟨fun q => absurd q (by omega), fun _ => ⟨fun q => absurd q (by omega), fun _ => ⟨⟨by omega, by omega⟩, h⟩⟩⟩
theorem sg_at_18 (d : Nat) (j : Nat) (r : Int) (μ : zM) (K : Int → zM → Prop) (h : (∀ n : Nat, n < 5 → r = n → K (μ 18 j n) μ) ∧ ((r < 0 ∨ 5 ≤ r) → K 0 μ)) : zC1 d m_X9_at [zR 18 j, zI r] μ K :=
  k_X9_at_t18 d j r μ K ⟨fun q => h.2 (Or.inl q), fun q1 => ⟨fun q => h.2 (Or.inr q), fun q2 => ⟨⟨by omega, by omega⟩, h.1 r.toNat (by omega) (by omega)⟩⟩⟩
theorem s_at_19 (d : Nat) (j : Nat) (r : Nat) (hr : r < 20) (μ : zM) (K : Int → zM → Prop) (h : K (μ 19 j r) μ) : zC1 d m_X9_at [zR 19 j, zI (r : Int)] μ K :=
  k_X9_at_t19 d j (r : Int) μ K ⟨fun q => absurd q (by omega), fun _ => ⟨fun q => absurd q (by omega), fun _ => ⟨⟨by omega, by omega⟩, h⟩⟩⟩
theorem sg_at_19 (d : Nat) (j : Nat) (r : Int) (μ : zM) (K : Int → zM → Prop) (h : (∀ n : Nat, n < 20 → r = n → K (μ 19 j n) μ) ∧ ((r < 0 ∨ 20 ≤ r) → K 0 μ)) : zC1 d m_X9_at [zR 19 j, zI r] μ K :=
  k_X9_at_t19 d j r μ K ⟨fun q => h.2 (Or.inl q), fun q1 => ⟨fun q => h.2 (Or.inr q), fun q2 => ⟨⟨by omega, by omega⟩, h.1 r.toNat (by omega) (by omega)⟩⟩⟩
theorem s_at_23 (d : Nat) (r : Nat) (hr : r < 2) (μ : zM) (K : Int → zM → Prop) (h : K (μ 23 0 r) μ) : zC1 d m_X9_at [zR 23 0, zI (r : Int)] μ K :=
  k_X9_at_t23 d (r : Int) μ K ⟨fun q => absurd q (by omega), fun _ => ⟨fun q => absurd q (by omega), fun _ => ⟨⟨by omega, by omega⟩, h⟩⟩⟩
theorem sg_at_23 (d : Nat) (r : Int) (μ : zM) (K : Int → zM → Prop) (h : (∀ n : Nat, n < 2 → r = n → K (μ 23 0 n) μ) ∧ ((r < 0 ∨ 2 ≤ r) → K 0 μ)) : zC1 d m_X9_at [zR 23 0, zI r] μ K :=
  k_X9_at_t23 d r μ K ⟨fun q => h.2 (Or.inl q), fun q1 => ⟨fun q => h.2 (Or.inr q), fun q2 => ⟨⟨by omega, by omega⟩, h.1 r.toNat (by omega) (by omega)⟩⟩⟩
theorem s_at_24 (d : Nat) (r : Nat) (hr : r < 6) (μ : zM) (K : Int → zM → Prop) (h : K (μ 24 0 r) μ) : zC1 d m_X9_at [zR 24 0, zI (r : Int)] μ K :=
  k_X9_at_t24 d (r : Int) μ K ⟨fun q => absurd q (by omega), fun _ => ⟨fun q => absurd q (by omega), fun _ => ⟨⟨by omega, by omega⟩, h⟩⟩⟩
theorem sg_at_24 (d : Nat) (r : Int) (μ : zM) (K : Int → zM → Prop) (h : (∀ n : Nat, n < 6 → r = n → K (μ 24 0 n) μ) ∧ ((r < 0 ∨ 6 ≤ r) → K 0 μ)) : zC1 d m_X9_at [zR 24 0, zI r] μ K :=
  k_X9_at_t24 d r μ K ⟨fun q => h.2 (Or.inl q), fun q1 => ⟨fun q => h.2 (Or.inr q), fun q2 => ⟨⟨by omega, by omega⟩, h.1 r.toNat (by omega) (by omega)⟩⟩⟩
theorem s_at_25 (d : Nat) (r : Nat) (hr : r < 6) (μ : zM) (K : Int → zM → Prop) (h : K (μ 25 0 r) μ) : zC1 d m_X9_at [zR 25 0, zI (r : Int)] μ K :=
  k_X9_at_t25 d (r : Int) μ K ⟨fun q => absurd q (by omega), fun _ => ⟨fun q => absurd q (by omega), fun _ => ⟨⟨by omega, by omega⟩, h⟩⟩⟩
theorem sg_at_25 (d : Nat) (r : Int) (μ : zM) (K : Int → zM → Prop) (h : (∀ n : Nat, n < 6 → r = n → K (μ 25 0 n) μ) ∧ ((r < 0 ∨ 6 ≤ r) → K 0 μ)) : zC1 d m_X9_at [zR 25 0, zI r] μ K :=
  k_X9_at_t25 d r μ K ⟨fun q => h.2 (Or.inl q), fun q1 => ⟨fun q => h.2 (Or.inr q), fun q2 => ⟨⟨by omega, by omega⟩, h.1 r.toNat (by omega) (by omega)⟩⟩⟩
theorem s_at_26 (d : Nat) (r : Nat) (hr : r < 20) (μ : zM) (K : Int → zM → Prop) (h : K (μ 26 0 r) μ) : zC1 d m_X9_at [zR 26 0, zI (r : Int)] μ K :=
  k_X9_at_t26 d (r : Int) μ K ⟨fun q => absurd q (by omega), fun _ => ⟨fun q => absurd q (by omega), fun _ => ⟨⟨by omega, by omega⟩, h⟩⟩⟩
theorem sg_at_26 (d : Nat) (r : Int) (μ : zM) (K : Int → zM → Prop) (h : (∀ n : Nat, n < 20 → r = n → K (μ 26 0 n) μ) ∧ ((r < 0 ∨ 20 ≤ r) → K 0 μ)) : zC1 d m_X9_at [zR 26 0, zI r] μ K :=
  k_X9_at_t26 d r μ K ⟨fun q => h.2 (Or.inl q), fun q1 => ⟨fun q => h.2 (Or.inr q), fun q2 => ⟨⟨by omega, by omega⟩, h.1 r.toNat (by omega) (by omega)⟩⟩⟩
theorem s_at_27 (d : Nat) (r : Nat) (hr : r < 20) (μ : zM) (K : Int → zM → Prop) (h : K (μ 27 0 r) μ) : zC1 d m_X9_at [zR 27 0, zI (r : Int)] μ K :=
  k_X9_at_t27 d (r : Int) μ K ⟨fun q => absurd q (by omega), fun _ => ⟨fun q => absurd q (by omega), fun _ => ⟨⟨by omega, by omega⟩, h⟩⟩⟩
theorem sg_at_27 (d : Nat) (r : Int) (μ : zM) (K : Int → zM → Prop) (h : (∀ n : Nat, n < 20 → r = n → K (μ 27 0 n) μ) ∧ ((r < 0 ∨ 20 ≤ r) → K 0 μ)) : zC1 d m_X9_at [zR 27 0, zI r] μ K :=
  k_X9_at_t27 d r μ K ⟨fun q => h.2 (Or.inl q), fun q1 => ⟨fun q => h.2 (Or.inr q), fun q2 => ⟨⟨by omega, by omega⟩, h.1 r.toNat (by omega) (by omega)⟩⟩⟩
theorem s_at_28 (d : Nat) (r : Nat) (hr : r < 20) (μ : zM) (K : Int → zM → Prop) (h : K (μ 28 0 r) μ) : zC1 d m_X9_at [zR 28 0, zI (r : Int)] μ K :=
  k_X9_at_t28 d (r : Int) μ K ⟨fun q => absurd q (by omega), fun _ => ⟨fun q => absurd q (by omega), fun _ => ⟨⟨by omega, by omega⟩, h⟩⟩⟩
theorem sg_at_28 (d : Nat) (r : Int) (μ : zM) (K : Int → zM → Prop) (h : (∀ n : Nat, n < 20 → r = n → K (μ 28 0 n) μ) ∧ ((r < 0 ∨ 20 ≤ r) → K 0 μ)) : zC1 d m_X9_at [zR 28 0, zI r] μ K :=
  k_X9_at_t28 d r μ K ⟨fun q => h.2 (Or.inl q), fun q1 => ⟨fun q => h.2 (Or.inr q), fun q2 => ⟨⟨by omega, by omega⟩, h.1 r.toNat (by omega) (by omega)⟩⟩⟩
theorem s_at_29 (d : Nat) (r : Nat) (hr : r < 72) (μ : zM) (K : Int → zM → Prop) (h : K (μ 29 0 r) μ) : zC1 d m_X9_at [zR 29 0, zI (r : Int)] μ K :=
  k_X9_at_t29 d (r : Int) μ K ⟨fun q => absurd q (by omega), fun _ => ⟨fun q => absurd q (by omega), fun _ => ⟨⟨by omega, by omega⟩, h⟩⟩⟩
theorem sg_at_29 (d : Nat) (r : Int) (μ : zM) (K : Int → zM → Prop) (h : (∀ n : Nat, n < 72 → r = n → K (μ 29 0 n) μ) ∧ ((r < 0 ∨ 72 ≤ r) → K 0 μ)) : zC1 d m_X9_at [zR 29 0, zI r] μ K :=
  k_X9_at_t29 d r μ K ⟨fun q => h.2 (Or.inl q), fun q1 => ⟨fun q => h.2 (Or.inr q), fun q2 => ⟨⟨by omega, by omega⟩, h.1 r.toNat (by omega) (by omega)⟩⟩⟩
theorem s_at_30 (d : Nat) (r : Nat) (hr : r < 10) (μ : zM) (K : Int → zM → Prop) (h : K (μ 30 0 r) μ) : zC1 d m_X9_at [zR 30 0, zI (r : Int)] μ K :=
  k_X9_at_t30 d (r : Int) μ K ⟨fun q => absurd q (by omega), fun _ => ⟨fun q => absurd q (by omega), fun _ => ⟨⟨by omega, by omega⟩, h⟩⟩⟩
theorem sg_at_30 (d : Nat) (r : Int) (μ : zM) (K : Int → zM → Prop) (h : (∀ n : Nat, n < 10 → r = n → K (μ 30 0 n) μ) ∧ ((r < 0 ∨ 10 ≤ r) → K 0 μ)) : zC1 d m_X9_at [zR 30 0, zI r] μ K :=
  k_X9_at_t30 d r μ K ⟨fun q => h.2 (Or.inl q), fun q1 => ⟨fun q => h.2 (Or.inr q), fun q2 => ⟨⟨by omega, by omega⟩, h.1 r.toNat (by omega) (by omega)⟩⟩⟩
theorem s_at_31 (d : Nat) (r : Nat) (hr : r < 42) (μ : zM) (K : Int → zM → Prop) (h : K (μ 31 0 r) μ) : zC1 d m_X9_at [zR 31 0, zI (r : Int)] μ K :=
  k_X9_at_t31 d (r : Int) μ K ⟨fun q => absurd q (by omega), fun _ => ⟨fun q => absurd q (by omega), fun _ => ⟨⟨by omega, by omega⟩, h⟩⟩⟩
theorem sg_at_31 (d : Nat) (r : Int) (μ : zM) (K : Int → zM → Prop) (h : (∀ n : Nat, n < 42 → r = n → K (μ 31 0 n) μ) ∧ ((r < 0 ∨ 42 ≤ r) → K 0 μ)) : zC1 d m_X9_at [zR 31 0, zI r] μ K :=
  k_X9_at_t31 d r μ K ⟨fun q => h.2 (Or.inl q), fun q1 => ⟨fun q => h.2 (Or.inr q), fun q2 => ⟨⟨by omega, by omega⟩, h.1 r.toNat (by omega) (by omega)⟩⟩⟩
theorem s_at_32 (d : Nat) (r : Nat) (hr : r < 448) (μ : zM) (K : Int → zM → Prop) (h : K (μ 32 0 r) μ) : zC1 d m_X9_at [zR 32 0, zI (r : Int)] μ K :=
  k_X9_at_t32 d (r : Int) μ K ⟨fun q => absurd q (by omega), fun _ => ⟨fun q => absurd q (by omega), fun _ => ⟨⟨by omega, by omega⟩, h⟩⟩⟩
theorem sg_at_32 (d : Nat) (r : Int) (μ : zM) (K : Int → zM → Prop) (h : (∀ n : Nat, n < 448 → r = n → K (μ 32 0 n) μ) ∧ ((r < 0 ∨ 448 ≤ r) → K 0 μ)) : zC1 d m_X9_at [zR 32 0, zI r] μ K :=
  k_X9_at_t32 d r μ K ⟨fun q => h.2 (Or.inl q), fun q1 => ⟨fun q => h.2 (Or.inr q), fun q2 => ⟨⟨by omega, by omega⟩, h.1 r.toNat (by omega) (by omega)⟩⟩⟩
theorem s_put_10 (d : Nat) (j : Nat) (r : Nat) (hr : r < 6) (v : Int) (μ : zM) (K : zM → Prop) (h : K (zset μ 10 j r v)) : zC0 d m_X9_put [zR 10 j, zI (r : Int), zI v] μ K :=
  k_X9_put_t10 d j (r : Int) v μ K ⟨fun q => absurd q (by omega), fun _ => ⟨fun q => absurd q (by omega), fun _ => ⟨⟨by omega, by omega⟩, h⟩⟩⟩
theorem sg_put_10 (d : Nat) (j : Nat) (r v : Int) (μ : zM) (K : zM → Prop) (h : (∀ n : Nat, n < 6 → r = n → K (zset μ 10 j n v)) ∧ ((r < 0 ∨ 6 ≤ r) → K μ)) : zC0 d m_X9_put [zR 10 j, zI r, zI v] μ K :=
  k_X9_put_t10 d j r v μ K ⟨fun q => h.2 (Or.inl q), fun q1 => ⟨fun q => h.2 (Or.inr q), fun q2 => ⟨⟨by omega, by omega⟩, h.1 r.toNat (by omega) (by omega)⟩⟩⟩
theorem s_put_11 (d : Nat) (j : Nat) (r : Nat) (hr : r < 72) (v : Int) (μ : zM) (K : zM → Prop) (h : K (zset μ 11 j r v)) : zC0 d m_X9_put [zR 11 j, zI (r : Int), zI v] μ K :=
  k_X9_put_t11 d j (r : Int) v μ K ⟨fun q => absurd q (by omega), fun _ => ⟨fun q => absurd q (by omega), fun _ => ⟨⟨by omega, by omega⟩, h⟩⟩⟩
theorem sg_put_11 (d : Nat) (j : Nat) (r v : Int) (μ : zM) (K : zM → Prop) (h : (∀ n : Nat, n < 72 → r = n → K (zset μ 11 j n v)) ∧ ((r < 0 ∨ 72 ≤ r) → K μ)) : zC0 d m_X9_put [zR 11 j, zI r, zI v] μ K :=
  k_X9_put_t11 d j r v μ K ⟨fun q => h.2 (Or.inl q), fun q1 => ⟨fun q => h.2 (Or.inr q), fun q2 => ⟨⟨by omega, by omega⟩, h.1 r.toNat (by omega) (by omega)⟩⟩⟩
theorem s_put_12 (d : Nat) (j : Nat) (r : Nat) (hr : r < 72) (v : Int) (μ : zM) (K : zM → Prop) (h : K (zset μ 12 j r v)) : zC0 d m_X9_put [zR 12 j, zI (r : Int), zI v] μ K :=
  k_X9_put_t12 d j (r : Int) v μ K ⟨fun q => absurd q (by omega), fun _ => ⟨fun q => absurd q (by omega), fun _ => ⟨⟨by omega, by omega⟩, h⟩⟩⟩
theorem sg_put_12 (d : Nat) (j : Nat) (r v : Int) (μ : zM) (K : zM → Prop) (h : (∀ n : Nat, n < 72 → r = n → K (zset μ 12 j n v)) ∧ ((r < 0 ∨ 72 ≤ r) → K μ)) : zC0 d m_X9_put [zR 12 j, zI r, zI v] μ K :=
  k_X9_put_t12 d j r v μ K ⟨fun q => h.2 (Or.inl q), fun q1 => ⟨fun q => h.2 (Or.inr q), fun q2 => ⟨⟨by omega, by omega⟩, h.1 r.toNat (by omega) (by omega)⟩⟩⟩
theorem s_put_13 (d : Nat) (j : Nat) (r : Nat) (hr : r < 15) (v : Int) (μ : zM) (K : zM → Prop) (h : K (zset μ 13 j r v)) : zC0 d m_X9_put [zR 13 j, zI (r : Int), zI v] μ K :=
  k_X9_put_t13 d j (r : Int) v μ K ⟨fun q => absurd q (by omega), fun _ => ⟨fun q => absurd q (by omega), fun _ => ⟨⟨by omega, by omega⟩, h⟩⟩⟩
theorem sg_put_13 (d : Nat) (j : Nat) (r v : Int) (μ : zM) (K : zM → Prop) (h : (∀ n : Nat, n < 15 → r = n → K (zset μ 13 j n v)) ∧ ((r < 0 ∨ 15 ≤ r) → K μ)) : zC0 d m_X9_put [zR 13 j, zI r, zI v] μ K :=
  k_X9_put_t13 d j r v μ K ⟨fun q => h.2 (Or.inl q), fun q1 => ⟨fun q => h.2 (Or.inr q), fun q2 => ⟨⟨by omega, by omega⟩, h.1 r.toNat (by omega) (by omega)⟩⟩⟩
theorem s_put_14 (d : Nat) (j : Nat) (r : Nat) (hr : r < 24) (v : Int) (μ : zM) (K : zM → Prop) (h : K (zset μ 14 j r v)) : zC0 d m_X9_put [zR 14 j, zI (r : Int), zI v] μ K :=
  k_X9_put_t14 d j (r : Int) v μ K ⟨fun q => absurd q (by omega), fun _ => ⟨fun q => absurd q (by omega), fun _ => ⟨⟨by omega, by omega⟩, h⟩⟩⟩
theorem sg_put_14 (d : Nat) (j : Nat) (r v : Int) (μ : zM) (K : zM → Prop) (h : (∀ n : Nat, n < 24 → r = n → K (zset μ 14 j n v)) ∧ ((r < 0 ∨ 24 ≤ r) → K μ)) : zC0 d m_X9_put [zR 14 j, zI r, zI v] μ K :=
  k_X9_put_t14 d j r v μ K ⟨fun q => h.2 (Or.inl q), fun q1 => ⟨fun q => h.2 (Or.inr q), fun q2 => ⟨⟨by omega, by omega⟩, h.1 r.toNat (by omega) (by omega)⟩⟩⟩
theorem s_put_15 (d : Nat) (j : Nat) (r : Nat) (hr : r < 6) (v : Int) (μ : zM) (K : zM → Prop) (h : K (zset μ 15 j r v)) : zC0 d m_X9_put [zR 15 j, zI (r : Int), zI v] μ K :=
  k_X9_put_t15 d j (r : Int) v μ K ⟨fun q => absurd q (by omega), fun _ => ⟨fun q => absurd q (by omega), fun _ => ⟨⟨by omega, by omega⟩, h⟩⟩⟩
theorem sg_put_15 (d : Nat) (j : Nat) (r v : Int) (μ : zM) (K : zM → Prop) (h : (∀ n : Nat, n < 6 → r = n → K (zset μ 15 j n v)) ∧ ((r < 0 ∨ 6 ≤ r) → K μ)) : zC0 d m_X9_put [zR 15 j, zI r, zI v] μ K :=
  k_X9_put_t15 d j r v μ K ⟨fun q => h.2 (Or.inl q), fun q1 => ⟨fun q => h.2 (Or.inr q), fun q2 => ⟨⟨by omega, by omega⟩, h.1 r.toNat (by omega) (by omega)⟩⟩⟩
theorem s_put_16 (d : Nat) (j : Nat) (r : Nat) (hr : r < 5) (v : Int) (μ : zM) (K : zM → Prop) (h : K (zset μ 16 j r v)) : zC0 d m_X9_put [zR 16 j, zI (r : Int), zI v] μ K :=
  k_X9_put_t16 d j (r : Int) v μ K ⟨fun q => absurd q (by omega), fun _ => ⟨fun q => absurd q (by omega), fun _ => ⟨⟨by omega, by omega⟩, h⟩⟩⟩
theorem sg_put_16 (d : Nat) (j : Nat) (r v : Int) (μ : zM) (K : zM → Prop) (h : (∀ n : Nat, n < 5 → r = n → K (zset μ 16 j n v)) ∧ ((r < 0 ∨ 5 ≤ r) → K μ)) : zC0 d m_X9_put [zR 16 j, zI r, zI v] μ K :=
  k_X9_put_t16 d j r v μ K ⟨fun q => h.2 (Or.inl q), fun q1 => ⟨fun q => h.2 (Or.inr q), fun q2 => ⟨⟨by omega, by omega⟩, h.1 r.toNat (by omega) (by omega)⟩⟩⟩
theorem s_put_17 (d : Nat) (j : Nat) (r : Nat) (hr : r < 5) (v : Int) (μ : zM) (K : zM → Prop) (h : K (zset μ 17 j r v)) : zC0 d m_X9_put [zR 17 j, zI (r : Int), zI v] μ K :=
  k_X9_put_t17 d j (r : Int) v μ K ⟨fun q => absurd q (by omega), fun _ => ⟨fun q => absurd q (by omega), fun _ => ⟨⟨by omega, by omega⟩, h⟩⟩⟩
theorem sg_put_17 (d : Nat) (j : Nat) (r v : Int) (μ : zM) (K : zM → Prop) (h : (∀ n : Nat, n < 5 → r = n → K (zset μ 17 j n v)) ∧ ((r < 0 ∨ 5 ≤ r) → K μ)) : zC0 d m_X9_put [zR 17 j, zI r, zI v] μ K :=
  k_X9_put_t17 d j r v μ K ⟨fun q => h.2 (Or.inl q), fun q1 => ⟨fun q => h.2 (Or.inr q), fun q2 => ⟨⟨by omega, by omega⟩, h.1 r.toNat (by omega) (by omega)⟩⟩⟩
theorem s_put_18 (d : Nat) (j : Nat) (r : Nat) (hr : r < 5) (v : Int) (μ : zM) (K : zM → Prop) (h : K (zset μ 18 j r v)) : zC0 d m_X9_put [zR 18 j, zI (r : Int), zI v] μ K :=
  k_X9_put_t18 d j (r : Int) v μ K ⟨fun q => absurd q (by omega), fun _ => ⟨fun q => absurd q (by omega), fun _ => ⟨⟨by omega, by omega⟩, h⟩⟩⟩
theorem sg_put_18 (d : Nat) (j : Nat) (r v : Int) (μ : zM) (K : zM → Prop) (h : (∀ n : Nat, n < 5 → r = n → K (zset μ 18 j n v)) ∧ ((r < 0 ∨ 5 ≤ r) → K μ)) : zC0 d m_X9_put [zR 18 j, zI r, zI v] μ K :=
  k_X9_put_t18 d j r v μ K ⟨fun q => h.2 (Or.inl q), fun q1 => ⟨fun q => h.2 (Or.inr q), fun q2 => ⟨⟨by omega, by omega⟩, h.1 r.toNat (by omega) (by omega)⟩⟩⟩
theorem s_put_19 (d : Nat) (j : Nat) (r : Nat) (hr : r < 20) (v : Int) (μ : zM) (K : zM → Prop) (h : K (zset μ 19 j r v)) : zC0 d m_X9_put [zR 19 j, zI (r : Int), zI v] μ K :=
  k_X9_put_t19 d j (r : Int) v μ K ⟨fun q => absurd q (by omega), fun _ => ⟨fun q => absurd q (by omega), fun _ => ⟨⟨by omega, by omega⟩, h⟩⟩⟩
theorem sg_put_19 (d : Nat) (j : Nat) (r v : Int) (μ : zM) (K : zM → Prop) (h : (∀ n : Nat, n < 20 → r = n → K (zset μ 19 j n v)) ∧ ((r < 0 ∨ 20 ≤ r) → K μ)) : zC0 d m_X9_put [zR 19 j, zI r, zI v] μ K :=
  k_X9_put_t19 d j r v μ K ⟨fun q => h.2 (Or.inl q), fun q1 => ⟨fun q => h.2 (Or.inr q), fun q2 => ⟨⟨by omega, by omega⟩, h.1 r.toNat (by omega) (by omega)⟩⟩⟩
theorem s_put_20 (d : Nat) (r : Nat) (hr : r < 240) (v : Int) (μ : zM) (K : zM → Prop) (h : K (zset μ 20 0 r v)) : zC0 d m_X9_put [zR 20 0, zI (r : Int), zI v] μ K :=
  k_X9_put_t20 d (r : Int) v μ K ⟨fun q => absurd q (by omega), fun _ => ⟨fun q => absurd q (by omega), fun _ => ⟨⟨by omega, by omega⟩, h⟩⟩⟩
theorem sg_put_20 (d : Nat) (r v : Int) (μ : zM) (K : zM → Prop) (h : (∀ n : Nat, n < 240 → r = n → K (zset μ 20 0 n v)) ∧ ((r < 0 ∨ 240 ≤ r) → K μ)) : zC0 d m_X9_put [zR 20 0, zI r, zI v] μ K :=
  k_X9_put_t20 d r v μ K ⟨fun q => h.2 (Or.inl q), fun q1 => ⟨fun q => h.2 (Or.inr q), fun q2 => ⟨⟨by omega, by omega⟩, h.1 r.toNat (by omega) (by omega)⟩⟩⟩
theorem s_put_23 (d : Nat) (r : Nat) (hr : r < 2) (v : Int) (μ : zM) (K : zM → Prop) (h : K (zset μ 23 0 r v)) : zC0 d m_X9_put [zR 23 0, zI (r : Int), zI v] μ K :=
  k_X9_put_t23 d (r : Int) v μ K ⟨fun q => absurd q (by omega), fun _ => ⟨fun q => absurd q (by omega), fun _ => ⟨⟨by omega, by omega⟩, h⟩⟩⟩
theorem sg_put_23 (d : Nat) (r v : Int) (μ : zM) (K : zM → Prop) (h : (∀ n : Nat, n < 2 → r = n → K (zset μ 23 0 n v)) ∧ ((r < 0 ∨ 2 ≤ r) → K μ)) : zC0 d m_X9_put [zR 23 0, zI r, zI v] μ K :=
  k_X9_put_t23 d r v μ K ⟨fun q => h.2 (Or.inl q), fun q1 => ⟨fun q => h.2 (Or.inr q), fun q2 => ⟨⟨by omega, by omega⟩, h.1 r.toNat (by omega) (by omega)⟩⟩⟩
theorem s_put_24 (d : Nat) (r : Nat) (hr : r < 6) (v : Int) (μ : zM) (K : zM → Prop) (h : K (zset μ 24 0 r v)) : zC0 d m_X9_put [zR 24 0, zI (r : Int), zI v] μ K :=
  k_X9_put_t24 d (r : Int) v μ K ⟨fun q => absurd q (by omega), fun _ => ⟨fun q => absurd q (by omega), fun _ => ⟨⟨by omega, by omega⟩, h⟩⟩⟩
theorem sg_put_24 (d : Nat) (r v : Int) (μ : zM) (K : zM → Prop) (h : (∀ n : Nat, n < 6 → r = n → K (zset μ 24 0 n v)) ∧ ((r < 0 ∨ 6 ≤ r) → K μ)) : zC0 d m_X9_put [zR 24 0, zI r, zI v] μ K :=
  k_X9_put_t24 d r v μ K ⟨fun q => h.2 (Or.inl q), fun q1 => ⟨fun q => h.2 (Or.inr q), fun q2 => ⟨⟨by omega, by omega⟩, h.1 r.toNat (by omega) (by omega)⟩⟩⟩
theorem s_put_25 (d : Nat) (r : Nat) (hr : r < 6) (v : Int) (μ : zM) (K : zM → Prop) (h : K (zset μ 25 0 r v)) : zC0 d m_X9_put [zR 25 0, zI (r : Int), zI v] μ K :=
  k_X9_put_t25 d (r : Int) v μ K ⟨fun q => absurd q (by omega), fun _ => ⟨fun q => absurd q (by omega), fun _ => ⟨⟨by omega, by omega⟩, h⟩⟩⟩
theorem sg_put_25 (d : Nat) (r v : Int) (μ : zM) (K : zM → Prop) (h : (∀ n : Nat, n < 6 → r = n → K (zset μ 25 0 n v)) ∧ ((r < 0 ∨ 6 ≤ r) → K μ)) : zC0 d m_X9_put [zR 25 0, zI r, zI v] μ K :=
  k_X9_put_t25 d r v μ K ⟨fun q => h.2 (Or.inl q), fun q1 => ⟨fun q => h.2 (Or.inr q), fun q2 => ⟨⟨by omega, by omega⟩, h.1 r.toNat (by omega) (by omega)⟩⟩⟩
theorem s_put_26 (d : Nat) (r : Nat) (hr : r < 20) (v : Int) (μ : zM) (K : zM → Prop) (h : K (zset μ 26 0 r v)) : zC0 d m_X9_put [zR 26 0, zI (r : Int), zI v] μ K :=
  k_X9_put_t26 d (r : Int) v μ K ⟨fun q => absurd q (by omega), fun _ => ⟨fun q => absurd q (by omega), fun _ => ⟨⟨by omega, by omega⟩, h⟩⟩⟩
theorem sg_put_26 (d : Nat) (r v : Int) (μ : zM) (K : zM → Prop) (h : (∀ n : Nat, n < 20 → r = n → K (zset μ 26 0 n v)) ∧ ((r < 0 ∨ 20 ≤ r) → K μ)) : zC0 d m_X9_put [zR 26 0, zI r, zI v] μ K :=
  k_X9_put_t26 d r v μ K ⟨fun q => h.2 (Or.inl q), fun q1 => ⟨fun q => h.2 (Or.inr q), fun q2 => ⟨⟨by omega, by omega⟩, h.1 r.toNat (by omega) (by omega)⟩⟩⟩
theorem s_put_27 (d : Nat) (r : Nat) (hr : r < 20) (v : Int) (μ : zM) (K : zM → Prop) (h : K (zset μ 27 0 r v)) : zC0 d m_X9_put [zR 27 0, zI (r : Int), zI v] μ K :=
  k_X9_put_t27 d (r : Int) v μ K ⟨fun q => absurd q (by omega), fun _ => ⟨fun q => absurd q (by omega), fun _ => ⟨⟨by omega, by omega⟩, h⟩⟩⟩
theorem sg_put_27 (d : Nat) (r v : Int) (μ : zM) (K : zM → Prop) (h : (∀ n : Nat, n < 20 → r = n → K (zset μ 27 0 n v)) ∧ ((r < 0 ∨ 20 ≤ r) → K μ)) : zC0 d m_X9_put [zR 27 0, zI r, zI v] μ K :=
  k_X9_put_t27 d r v μ K ⟨fun q => h.2 (Or.inl q), fun q1 => ⟨fun q => h.2 (Or.inr q), fun q2 => ⟨⟨by omega, by omega⟩, h.1 r.toNat (by omega) (by omega)⟩⟩⟩
theorem s_put_28 (d : Nat) (r : Nat) (hr : r < 20) (v : Int) (μ : zM) (K : zM → Prop) (h : K (zset μ 28 0 r v)) : zC0 d m_X9_put [zR 28 0, zI (r : Int), zI v] μ K :=
  k_X9_put_t28 d (r : Int) v μ K ⟨fun q => absurd q (by omega), fun _ => ⟨fun q => absurd q (by omega), fun _ => ⟨⟨by omega, by omega⟩, h⟩⟩⟩
theorem sg_put_28 (d : Nat) (r v : Int) (μ : zM) (K : zM → Prop) (h : (∀ n : Nat, n < 20 → r = n → K (zset μ 28 0 n v)) ∧ ((r < 0 ∨ 20 ≤ r) → K μ)) : zC0 d m_X9_put [zR 28 0, zI r, zI v] μ K :=
  k_X9_put_t28 d r v μ K ⟨fun q => h.2 (Or.inl q), fun q1 => ⟨fun q => h.2 (Or.inr q), fun q2 => ⟨⟨by omega, by omega⟩, h.1 r.toNat (by omega) (by omega)⟩⟩⟩
theorem s_put_29 (d : Nat) (r : Nat) (hr : r < 72) (v : Int) (μ : zM) (K : zM → Prop) (h : K (zset μ 29 0 r v)) : zC0 d m_X9_put [zR 29 0, zI (r : Int), zI v] μ K :=
  k_X9_put_t29 d (r : Int) v μ K ⟨fun q => absurd q (by omega), fun _ => ⟨fun q => absurd q (by omega), fun _ => ⟨⟨by omega, by omega⟩, h⟩⟩⟩
theorem sg_put_29 (d : Nat) (r v : Int) (μ : zM) (K : zM → Prop) (h : (∀ n : Nat, n < 72 → r = n → K (zset μ 29 0 n v)) ∧ ((r < 0 ∨ 72 ≤ r) → K μ)) : zC0 d m_X9_put [zR 29 0, zI r, zI v] μ K :=
  k_X9_put_t29 d r v μ K ⟨fun q => h.2 (Or.inl q), fun q1 => ⟨fun q => h.2 (Or.inr q), fun q2 => ⟨⟨by omega, by omega⟩, h.1 r.toNat (by omega) (by omega)⟩⟩⟩
theorem s_put_30 (d : Nat) (r : Nat) (hr : r < 10) (v : Int) (μ : zM) (K : zM → Prop) (h : K (zset μ 30 0 r v)) : zC0 d m_X9_put [zR 30 0, zI (r : Int), zI v] μ K :=
  k_X9_put_t30 d (r : Int) v μ K ⟨fun q => absurd q (by omega), fun _ => ⟨fun q => absurd q (by omega), fun _ => ⟨⟨by omega, by omega⟩, h⟩⟩⟩
theorem sg_put_30 (d : Nat) (r v : Int) (μ : zM) (K : zM → Prop) (h : (∀ n : Nat, n < 10 → r = n → K (zset μ 30 0 n v)) ∧ ((r < 0 ∨ 10 ≤ r) → K μ)) : zC0 d m_X9_put [zR 30 0, zI r, zI v] μ K :=
  k_X9_put_t30 d r v μ K ⟨fun q => h.2 (Or.inl q), fun q1 => ⟨fun q => h.2 (Or.inr q), fun q2 => ⟨⟨by omega, by omega⟩, h.1 r.toNat (by omega) (by omega)⟩⟩⟩
theorem s_put_31 (d : Nat) (r : Nat) (hr : r < 42) (v : Int) (μ : zM) (K : zM → Prop) (h : K (zset μ 31 0 r v)) : zC0 d m_X9_put [zR 31 0, zI (r : Int), zI v] μ K :=
  k_X9_put_t31 d (r : Int) v μ K ⟨fun q => absurd q (by omega), fun _ => ⟨fun q => absurd q (by omega), fun _ => ⟨⟨by omega, by omega⟩, h⟩⟩⟩
theorem sg_put_31 (d : Nat) (r v : Int) (μ : zM) (K : zM → Prop) (h : (∀ n : Nat, n < 42 → r = n → K (zset μ 31 0 n v)) ∧ ((r < 0 ∨ 42 ≤ r) → K μ)) : zC0 d m_X9_put [zR 31 0, zI r, zI v] μ K :=
  k_X9_put_t31 d r v μ K ⟨fun q => h.2 (Or.inl q), fun q1 => ⟨fun q => h.2 (Or.inr q), fun q2 => ⟨⟨by omega, by omega⟩, h.1 r.toNat (by omega) (by omega)⟩⟩⟩
theorem s_put_32 (d : Nat) (r : Nat) (hr : r < 448) (v : Int) (μ : zM) (K : zM → Prop) (h : K (zset μ 32 0 r v)) : zC0 d m_X9_put [zR 32 0, zI (r : Int), zI v] μ K :=
  k_X9_put_t32 d (r : Int) v μ K ⟨fun q => absurd q (by omega), fun _ => ⟨fun q => absurd q (by omega), fun _ => ⟨⟨by omega, by omega⟩, h⟩⟩⟩
theorem sg_put_32 (d : Nat) (r v : Int) (μ : zM) (K : zM → Prop) (h : (∀ n : Nat, n < 448 → r = n → K (zset μ 32 0 n v)) ∧ ((r < 0 ∨ 448 ≤ r) → K μ)) : zC0 d m_X9_put [zR 32 0, zI r, zI v] μ K :=
  k_X9_put_t32 d r v μ K ⟨fun q => h.2 (Or.inl q), fun q1 => ⟨fun q => h.2 (Or.inr q), fun q2 => ⟨⟨by omega, by omega⟩, h.1 r.toNat (by omega) (by omega)⟩⟩⟩
theorem s_copy_10 (d i j : Nat) (μ : zM) (K : zM → Prop) (h : K (zcpy μ 10 i 0 10 j 0 6)) : zC0 (d + 1) m_X9_copy [zR 10 i, zR 10 j] μ K := k_X9_copy_t10_10 d i j μ K ⟨by decide, h⟩
theorem s_copy_11 (d i j : Nat) (μ : zM) (K : zM → Prop) (h : K (zcpy μ 11 i 0 11 j 0 72)) : zC0 (d + 1) m_X9_copy [zR 11 i, zR 11 j] μ K := k_X9_copy_t11_11 d i j μ K ⟨by decide, h⟩
theorem s_copy_12 (d i j : Nat) (μ : zM) (K : zM → Prop) (h : K (zcpy μ 12 i 0 12 j 0 72)) : zC0 (d + 1) m_X9_copy [zR 12 i, zR 12 j] μ K := k_X9_copy_t12_12 d i j μ K ⟨by decide, h⟩
theorem s_copy_13 (d i j : Nat) (μ : zM) (K : zM → Prop) (h : K (zcpy μ 13 i 0 13 j 0 15)) : zC0 (d + 1) m_X9_copy [zR 13 i, zR 13 j] μ K := k_X9_copy_t13_13 d i j μ K ⟨by decide, h⟩
theorem s_copy_14 (d i j : Nat) (μ : zM) (K : zM → Prop) (h : K (zcpy μ 14 i 0 14 j 0 24)) : zC0 (d + 1) m_X9_copy [zR 14 i, zR 14 j] μ K := k_X9_copy_t14_14 d i j μ K ⟨by decide, h⟩
theorem s_copy_15 (d i j : Nat) (μ : zM) (K : zM → Prop) (h : K (zcpy μ 15 i 0 15 j 0 6)) : zC0 (d + 1) m_X9_copy [zR 15 i, zR 15 j] μ K := k_X9_copy_t15_15 d i j μ K ⟨by decide, h⟩
theorem s_copy_16 (d i j : Nat) (μ : zM) (K : zM → Prop) (h : K (zcpy μ 16 i 0 16 j 0 5)) : zC0 (d + 1) m_X9_copy [zR 16 i, zR 16 j] μ K := k_X9_copy_t16_16 d i j μ K ⟨by decide, h⟩
theorem s_copy_17 (d i j : Nat) (μ : zM) (K : zM → Prop) (h : K (zcpy μ 17 i 0 17 j 0 5)) : zC0 (d + 1) m_X9_copy [zR 17 i, zR 17 j] μ K := k_X9_copy_t17_17 d i j μ K ⟨by decide, h⟩
theorem s_copy_18 (d i j : Nat) (μ : zM) (K : zM → Prop) (h : K (zcpy μ 18 i 0 18 j 0 5)) : zC0 (d + 1) m_X9_copy [zR 18 i, zR 18 j] μ K := k_X9_copy_t18_18 d i j μ K ⟨by decide, h⟩
theorem s_copy_19 (d i j : Nat) (μ : zM) (K : zM → Prop) (h : K (zcpy μ 19 i 0 19 j 0 20)) : zC0 (d + 1) m_X9_copy [zR 19 i, zR 19 j] μ K := k_X9_copy_t19_19 d i j μ K ⟨by decide, h⟩
theorem s_fill_10 (d : Nat) (j : Nat) (v : Int) (μ : zM) (K : zM → Prop) (h : K (zfil μ 10 j 6 v)) : zC0 d m_J7_fill_53178 [zR 10 j, zI v] μ K := by
  refine k_J7_fill_53178_t10 d j v μ K ?_
  have L : ∀ n i : Nat, i + n = 6 → zJ d m_J7_fill_53178 5 [some (zR 10 j), some (zI v), some (zI (i : Int)), some (zI 6)] (zfil μ 10 j i v) (zQ0 K) := by
    intro n
    induction n with
    | zero =>
      intro i hi
      refine k_J7_fill_53178_t10_5 d j v i 6 _ K ⟨fun _ => ?_, fun q => absurd q (by omega)⟩
      rw [show i = 6 by omega]; exact h
    | succ n ih =>
      intro i hi
      refine k_J7_fill_53178_t10_5 d j v i 6 _ K ⟨fun q => absurd q (by omega), fun _ => ⟨⟨by omega, by omega⟩, ?_⟩⟩
      rw [z_fix (by omega) (by omega), Int.toNat_natCast, zfil_s]
      exact ih (i + 1) (by omega)
  have h0 := L 6 0 (by omega)
  rw [zfil_0] at h0
  exact h0
theorem s_fill_11 (d : Nat) (j : Nat) (v : Int) (μ : zM) (K : zM → Prop) (h : K (zfil μ 11 j 72 v)) : zC0 d m_J7_fill_53178 [zR 11 j, zI v] μ K := by
  refine k_J7_fill_53178_t11 d j v μ K ?_
  have L : ∀ n i : Nat, i + n = 72 → zJ d m_J7_fill_53178 5 [some (zR 11 j), some (zI v), some (zI (i : Int)), some (zI 72)] (zfil μ 11 j i v) (zQ0 K) := by
    intro n
    induction n with
    | zero =>
      intro i hi
      refine k_J7_fill_53178_t11_5 d j v i 72 _ K ⟨fun _ => ?_, fun q => absurd q (by omega)⟩
      rw [show i = 72 by omega]; exact h
    | succ n ih =>
      intro i hi
      refine k_J7_fill_53178_t11_5 d j v i 72 _ K ⟨fun q => absurd q (by omega), fun _ => ⟨⟨by omega, by omega⟩, ?_⟩⟩
      rw [z_fix (by omega) (by omega), Int.toNat_natCast, zfil_s]
      exact ih (i + 1) (by omega)
  have h0 := L 72 0 (by omega)
  rw [zfil_0] at h0
  exact h0
theorem s_fill_12 (d : Nat) (j : Nat) (v : Int) (μ : zM) (K : zM → Prop) (h : K (zfil μ 12 j 72 v)) : zC0 d m_J7_fill_53178 [zR 12 j, zI v] μ K := by
  refine k_J7_fill_53178_t12 d j v μ K ?_
  have L : ∀ n i : Nat, i + n = 72 → zJ d m_J7_fill_53178 5 [some (zR 12 j), some (zI v), some (zI (i : Int)), some (zI 72)] (zfil μ 12 j i v) (zQ0 K) := by
    intro n
    induction n with
    | zero =>
      intro i hi
      refine k_J7_fill_53178_t12_5 d j v i 72 _ K ⟨fun _ => ?_, fun q => absurd q (by omega)⟩
      rw [show i = 72 by omega]; exact h
    | succ n ih =>
      intro i hi
      refine k_J7_fill_53178_t12_5 d j v i 72 _ K ⟨fun q => absurd q (by omega), fun _ => ⟨⟨by omega, by omega⟩, ?_⟩⟩
      rw [z_fix (by omega) (by omega), Int.toNat_natCast, zfil_s]
      exact ih (i + 1) (by omega)
  have h0 := L 72 0 (by omega)
  rw [zfil_0] at h0
  exact h0
theorem s_fill_15 (d : Nat) (j : Nat) (v : Int) (μ : zM) (K : zM → Prop) (h : K (zfil μ 15 j 6 v)) : zC0 d m_J7_fill_53178 [zR 15 j, zI v] μ K := by
  refine k_J7_fill_53178_t15 d j v μ K ?_
  have L : ∀ n i : Nat, i + n = 6 → zJ d m_J7_fill_53178 5 [some (zR 15 j), some (zI v), some (zI (i : Int)), some (zI 6)] (zfil μ 15 j i v) (zQ0 K) := by
    intro n
    induction n with
    | zero =>
      intro i hi
      refine k_J7_fill_53178_t15_5 d j v i 6 _ K ⟨fun _ => ?_, fun q => absurd q (by omega)⟩
      rw [show i = 6 by omega]; exact h
    | succ n ih =>
      intro i hi
      refine k_J7_fill_53178_t15_5 d j v i 6 _ K ⟨fun q => absurd q (by omega), fun _ => ⟨⟨by omega, by omega⟩, ?_⟩⟩
      rw [z_fix (by omega) (by omega), Int.toNat_natCast, zfil_s]
      exact ih (i + 1) (by omega)
  have h0 := L 6 0 (by omega)
  rw [zfil_0] at h0
  exact h0
theorem s_fill_30 (d : Nat) (v : Int) (μ : zM) (K : zM → Prop) (h : K (zfil μ 30 0 10 v)) : zC0 d m_J7_fill_53178 [zR 30 0, zI v] μ K := by
  refine k_J7_fill_53178_t30 d v μ K ?_
  have L : ∀ n i : Nat, i + n = 10 → zJ d m_J7_fill_53178 5 [some (zR 30 0), some (zI v), some (zI (i : Int)), some (zI 10)] (zfil μ 30 0 i v) (zQ0 K) := by
    intro n
    induction n with
    | zero =>
      intro i hi
      refine k_J7_fill_53178_t30_5 d v i 10 _ K ⟨fun _ => ?_, fun q => absurd q (by omega)⟩
      rw [show i = 10 by omega]; exact h
    | succ n ih =>
      intro i hi
      refine k_J7_fill_53178_t30_5 d v i 10 _ K ⟨fun q => absurd q (by omega), fun _ => ⟨⟨by omega, by omega⟩, ?_⟩⟩
      rw [z_fix (by omega) (by omega), Int.toNat_natCast, zfil_s]
      exact ih (i + 1) (by omega)
  have h0 := L 10 0 (by omega)
  rw [zfil_0] at h0
  exact h0
theorem s_copies_33_33 (d : Nat) (i : Nat) (sp : Nat) (j : Nat) (dp n : Nat) (hne : i ≠ j) (h1 : sp + n ≤ 200) (h2 : dp + n ≤ 200) (μ : zM) (K : zM → Prop) (h : K (zcpy μ 33 i sp 33 j dp n)) : zC0 d m_X12_copies [zR 33 i, zI (sp : Int), zR 33 j, zI (dp : Int), zI (n : Int)] μ K := by
  refine k_X12_copies_t33_33 d i (sp : Int) j (dp : Int) (n : Int) μ K ?_
  have L : ∀ m k : Nat, k + m = n → zJ d m_X12_copies 3 [some (zR 33 i), some (zI (sp : Int)), some (zR 33 j), some (zI (dp : Int)), some (zI (n : Int)), some (zI (k : Int))] (zcpy μ 33 i sp 33 j dp k) (zQ0 K) := by
    intro m
    induction m with
    | zero =>
      intro k hk
      refine k_X12_copies_t33_33_3 d i (sp : Int) j (dp : Int) (n : Int) k _ K ⟨fun _ => ?_, fun q => absurd q (by omega)⟩
      rw [show k = n by omega]; exact h
    | succ m ih =>
      intro k hk
      refine k_X12_copies_t33_33_3 d i (sp : Int) j (dp : Int) (n : Int) k _ K ⟨fun q => absurd q (by omega), fun _ => ?_⟩
      rw [z_fix (by omega) (by omega), z_fix (by omega) (by omega), z_fix (by omega) (by omega)]
      refine ⟨⟨by omega, by omega⟩, ⟨by omega, by omega⟩, ?_⟩
      rw [show ((sp : Int) + (k : Int)).toNat = sp + k by omega, show ((dp : Int) + (k : Int)).toNat = dp + k by omega, zcpy_src _ _ _ _ _ _ _ _ _ (Or.inr hne), zcpy_s]
      exact ih (k + 1) (by omega)
  have h0 := L n 0 (by omega)
  rw [zcpy_0] at h0
  exact h0
theorem s_copies_33_34 (d : Nat) (i : Nat) (sp : Nat) (j : Nat) (dp n : Nat) (h1 : sp + n ≤ 200) (h2 : dp + n ≤ 44) (μ : zM) (K : zM → Prop) (h : K (zcpy μ 33 i sp 34 j dp n)) : zC0 d m_X12_copies [zR 33 i, zI (sp : Int), zR 34 j, zI (dp : Int), zI (n : Int)] μ K := by
  refine k_X12_copies_t33_34 d i (sp : Int) j (dp : Int) (n : Int) μ K ?_
  have L : ∀ m k : Nat, k + m = n → zJ d m_X12_copies 3 [some (zR 33 i), some (zI (sp : Int)), some (zR 34 j), some (zI (dp : Int)), some (zI (n : Int)), some (zI (k : Int))] (zcpy μ 33 i sp 34 j dp k) (zQ0 K) := by
    intro m
    induction m with
    | zero =>
      intro k hk
      refine k_X12_copies_t33_34_3 d i (sp : Int) j (dp : Int) (n : Int) k _ K ⟨fun _ => ?_, fun q => absurd q (by omega)⟩
      rw [show k = n by omega]; exact h
    | succ m ih =>
      intro k hk
      refine k_X12_copies_t33_34_3 d i (sp : Int) j (dp : Int) (n : Int) k _ K ⟨fun q => absurd q (by omega), fun _ => ?_⟩
      rw [z_fix (by omega) (by omega), z_fix (by omega) (by omega), z_fix (by omega) (by omega)]
      refine ⟨⟨by omega, by omega⟩, ⟨by omega, by omega⟩, ?_⟩
      rw [show ((sp : Int) + (k : Int)).toNat = sp + k by omega, show ((dp : Int) + (k : Int)).toNat = dp + k by omega, zcpy_src _ _ _ _ _ _ _ _ _ (Or.inl (by decide)), zcpy_s]
      exact ih (k + 1) (by omega)
  have h0 := L n 0 (by omega)
  rw [zcpy_0] at h0
  exact h0
theorem s_copies_34_34 (d : Nat) (i : Nat) (sp : Nat) (j : Nat) (dp n : Nat) (hne : i ≠ j) (h1 : sp + n ≤ 44) (h2 : dp + n ≤ 44) (μ : zM) (K : zM → Prop) (h : K (zcpy μ 34 i sp 34 j dp n)) : zC0 d m_X12_copies [zR 34 i, zI (sp : Int), zR 34 j, zI (dp : Int), zI (n : Int)] μ K := by
  refine k_X12_copies_t34_34 d i (sp : Int) j (dp : Int) (n : Int) μ K ?_
  have L : ∀ m k : Nat, k + m = n → zJ d m_X12_copies 3 [some (zR 34 i), some (zI (sp : Int)), some (zR 34 j), some (zI (dp : Int)), some (zI (n : Int)), some (zI (k : Int))] (zcpy μ 34 i sp 34 j dp k) (zQ0 K) := by
    intro m
    induction m with
    | zero =>
      intro k hk
      refine k_X12_copies_t34_34_3 d i (sp : Int) j (dp : Int) (n : Int) k _ K ⟨fun _ => ?_, fun q => absurd q (by omega)⟩
      rw [show k = n by omega]; exact h
    | succ m ih =>
      intro k hk
      refine k_X12_copies_t34_34_3 d i (sp : Int) j (dp : Int) (n : Int) k _ K ⟨fun q => absurd q (by omega), fun _ => ?_⟩
      rw [z_fix (by omega) (by omega), z_fix (by omega) (by omega), z_fix (by omega) (by omega)]
      refine ⟨⟨by omega, by omega⟩, ⟨by omega, by omega⟩, ?_⟩
      rw [show ((sp : Int) + (k : Int)).toNat = sp + k by omega, show ((dp : Int) + (k : Int)).toNat = dp + k by omega, zcpy_src _ _ _ _ _ _ _ _ _ (Or.inr hne), zcpy_s]
      exact ih (k + 1) (by omega)
  have h0 := L n 0 (by omega)
  rw [zcpy_0] at h0
  exact h0
theorem s_copies_34_35 (d : Nat) (i : Nat) (sp : Nat) (dp n : Nat) (h1 : sp + n ≤ 44) (h2 : dp + n ≤ 1320) (μ : zM) (K : zM → Prop) (h : K (zcpy μ 34 i sp 35 0 dp n)) : zC0 d m_X12_copies [zR 34 i, zI (sp : Int), zR 35 0, zI (dp : Int), zI (n : Int)] μ K := by
  refine k_X12_copies_t34_35 d i (sp : Int) (dp : Int) (n : Int) μ K ?_
  have L : ∀ m k : Nat, k + m = n → zJ d m_X12_copies 3 [some (zR 34 i), some (zI (sp : Int)), some (zR 35 0), some (zI (dp : Int)), some (zI (n : Int)), some (zI (k : Int))] (zcpy μ 34 i sp 35 0 dp k) (zQ0 K) := by
    intro m
    induction m with
    | zero =>
      intro k hk
      refine k_X12_copies_t34_35_3 d i (sp : Int) (dp : Int) (n : Int) k _ K ⟨fun _ => ?_, fun q => absurd q (by omega)⟩
      rw [show k = n by omega]; exact h
    | succ m ih =>
      intro k hk
      refine k_X12_copies_t34_35_3 d i (sp : Int) (dp : Int) (n : Int) k _ K ⟨fun q => absurd q (by omega), fun _ => ?_⟩
      rw [z_fix (by omega) (by omega), z_fix (by omega) (by omega), z_fix (by omega) (by omega)]
      refine ⟨⟨by omega, by omega⟩, ⟨by omega, by omega⟩, ?_⟩
      rw [show ((sp : Int) + (k : Int)).toNat = sp + k by omega, show ((dp : Int) + (k : Int)).toNat = dp + k by omega, zcpy_src _ _ _ _ _ _ _ _ _ (Or.inl (by decide)), zcpy_s]
      exact ih (k + 1) (by omega)
  have h0 := L n 0 (by omega)
  rw [zcpy_0] at h0
  exact h0
theorem s_copies_34_36 (d : Nat) (i : Nat) (sp : Nat) (dp n : Nat) (h1 : sp + n ≤ 44) (h2 : dp + n ≤ 90) (μ : zM) (K : zM → Prop) (h : K (zcpy μ 34 i sp 36 0 dp n)) : zC0 d m_X12_copies [zR 34 i, zI (sp : Int), zR 36 0, zI (dp : Int), zI (n : Int)] μ K := by
  refine k_X12_copies_t34_36 d i (sp : Int) (dp : Int) (n : Int) μ K ?_
  have L : ∀ m k : Nat, k + m = n → zJ d m_X12_copies 3 [some (zR 34 i), some (zI (sp : Int)), some (zR 36 0), some (zI (dp : Int)), some (zI (n : Int)), some (zI (k : Int))] (zcpy μ 34 i sp 36 0 dp k) (zQ0 K) := by
    intro m
    induction m with
    | zero =>
      intro k hk
      refine k_X12_copies_t34_36_3 d i (sp : Int) (dp : Int) (n : Int) k _ K ⟨fun _ => ?_, fun q => absurd q (by omega)⟩
      rw [show k = n by omega]; exact h
    | succ m ih =>
      intro k hk
      refine k_X12_copies_t34_36_3 d i (sp : Int) (dp : Int) (n : Int) k _ K ⟨fun q => absurd q (by omega), fun _ => ?_⟩
      rw [z_fix (by omega) (by omega), z_fix (by omega) (by omega), z_fix (by omega) (by omega)]
      refine ⟨⟨by omega, by omega⟩, ⟨by omega, by omega⟩, ?_⟩
      rw [show ((sp : Int) + (k : Int)).toNat = sp + k by omega, show ((dp : Int) + (k : Int)).toNat = dp + k by omega, zcpy_src _ _ _ _ _ _ _ _ _ (Or.inl (by decide)), zcpy_s]
      exact ih (k + 1) (by omega)
  have h0 := L n 0 (by omega)
  rw [zcpy_0] at h0
  exact h0
theorem s_copies_35_34 (d : Nat) (sp : Nat) (j : Nat) (dp n : Nat) (h1 : sp + n ≤ 1320) (h2 : dp + n ≤ 44) (μ : zM) (K : zM → Prop) (h : K (zcpy μ 35 0 sp 34 j dp n)) : zC0 d m_X12_copies [zR 35 0, zI (sp : Int), zR 34 j, zI (dp : Int), zI (n : Int)] μ K := by
  refine k_X12_copies_t35_34 d (sp : Int) j (dp : Int) (n : Int) μ K ?_
  have L : ∀ m k : Nat, k + m = n → zJ d m_X12_copies 3 [some (zR 35 0), some (zI (sp : Int)), some (zR 34 j), some (zI (dp : Int)), some (zI (n : Int)), some (zI (k : Int))] (zcpy μ 35 0 sp 34 j dp k) (zQ0 K) := by
    intro m
    induction m with
    | zero =>
      intro k hk
      refine k_X12_copies_t35_34_3 d (sp : Int) j (dp : Int) (n : Int) k _ K ⟨fun _ => ?_, fun q => absurd q (by omega)⟩
      rw [show k = n by omega]; exact h
    | succ m ih =>
      intro k hk
      refine k_X12_copies_t35_34_3 d (sp : Int) j (dp : Int) (n : Int) k _ K ⟨fun q => absurd q (by omega), fun _ => ?_⟩
      rw [z_fix (by omega) (by omega), z_fix (by omega) (by omega), z_fix (by omega) (by omega)]
      refine ⟨⟨by omega, by omega⟩, ⟨by omega, by omega⟩, ?_⟩
      rw [show ((sp : Int) + (k : Int)).toNat = sp + k by omega, show ((dp : Int) + (k : Int)).toNat = dp + k by omega, zcpy_src _ _ _ _ _ _ _ _ _ (Or.inl (by decide)), zcpy_s]
      exact ih (k + 1) (by omega)
  have h0 := L n 0 (by omega)
  rw [zcpy_0] at h0
  exact h0
theorem s_copies_36_34 (d : Nat) (sp : Nat) (j : Nat) (dp n : Nat) (h1 : sp + n ≤ 90) (h2 : dp + n ≤ 44) (μ : zM) (K : zM → Prop) (h : K (zcpy μ 36 0 sp 34 j dp n)) : zC0 d m_X12_copies [zR 36 0, zI (sp : Int), zR 34 j, zI (dp : Int), zI (n : Int)] μ K := by
  refine k_X12_copies_t36_34 d (sp : Int) j (dp : Int) (n : Int) μ K ?_
  have L : ∀ m k : Nat, k + m = n → zJ d m_X12_copies 3 [some (zR 36 0), some (zI (sp : Int)), some (zR 34 j), some (zI (dp : Int)), some (zI (n : Int)), some (zI (k : Int))] (zcpy μ 36 0 sp 34 j dp k) (zQ0 K) := by
    intro m
    induction m with
    | zero =>
      intro k hk
      refine k_X12_copies_t36_34_3 d (sp : Int) j (dp : Int) (n : Int) k _ K ⟨fun _ => ?_, fun q => absurd q (by omega)⟩
      rw [show k = n by omega]; exact h
    | succ m ih =>
      intro k hk
      refine k_X12_copies_t36_34_3 d (sp : Int) j (dp : Int) (n : Int) k _ K ⟨fun q => absurd q (by omega), fun _ => ?_⟩
      rw [z_fix (by omega) (by omega), z_fix (by omega) (by omega), z_fix (by omega) (by omega)]
      refine ⟨⟨by omega, by omega⟩, ⟨by omega, by omega⟩, ?_⟩
      rw [show ((sp : Int) + (k : Int)).toNat = sp + k by omega, show ((dp : Int) + (k : Int)).toNat = dp + k by omega, zcpy_src _ _ _ _ _ _ _ _ _ (Or.inl (by decide)), zcpy_s]
      exact ih (k + 1) (by omega)
  have h0 := L n 0 (by omega)
  rw [zcpy_0] at h0
  exact h0
