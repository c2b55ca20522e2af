/-! THE PAST: one more, both sides -/
def zAdd (μ : zM) (N X : Nat) (μ' : zM) : Prop := (∀ k, 1 ≤ k → k ≤ 3 → μ' 4 (2 + X) k = μ 4 0 k) ∧ (∀ k, k < 6 → μ' 15 (2 + X) k = μ 15 0 k) ∧ (∀ t k, 16 ≤ t → t ≤ 18 → k < 5 → μ' t (2 + X) k = μ t 0 k) ∧ (∀ k, k < 20 → μ' 19 (2 + X) k = μ 19 0 k) ∧ μ' 5 0 2 = (((X + 1) % 30 : Nat) : Int) ∧ μ' 5 0 1 = ((if N = 30 then 30 else N + 1 : Nat) : Int) ∧ ∀ t i k, ¬ (zlv t ∧ i = 2 + X) → ¬ (t = 5) → μ' t i k = μ t i k
theorem s_add (d : Nat) (μ : zM) {N X : Nat} (hN : N ≤ 30) (hX : X < 30) (e1 : μ 5 0 1 = (N : Int)) (e2 : μ 5 0 2 = (X : Int)) (K : zM → Prop) (h : ∀ μ', zAdd μ N X μ' → K μ') : zC0 (d + 3) m_X6_add [zR 5 0, zR 4 0] μ K := by
  refine k_X6_add (d + 2) 0 μ K ?_
  rw [e2]
  refine k_X6_kept (d + 2) X μ _ ⟨fun q => absurd q (by omega), fun _ => ⟨fun q => absurd q (by omega), fun _ => ⟨⟨by omega, by omega⟩, ?_⟩⟩⟩
  rw [Int.toNat_natCast]
  refine s_become d (2 + X) 0 (by omega) μ _ (fun μ1 hb => ⟨by decide, ?_⟩)
  obtain ⟨b1, b2, b3, b4, b5⟩ := hb
  have f1 : μ1 5 0 1 = (N : Int) := by rw [b5 _ _ _ (by unfold zlv; omega)]; exact e1
  have f2 : μ1 5 0 2 = (X : Int) := by rw [b5 _ _ _ (by unfold zlv; omega)]; exact e2
  rw [f2, z_fix (show (-2147483648 : Int) ≤ (X : Int) + 1 by omega) (by omega), show Int.tmod ((X : Int) + 1) 30 = (((X + 1) % 30 : Nat) : Int) from rfl, show (zset μ1 5 0 2 (((X + 1) % 30 : Nat) : Int)) 5 0 1 = (N : Int) from f1, z_fix (by omega) (by omega), show zmin 30 ((N : Int) + 1) = ((if N = 30 then 30 else N + 1 : Nat) : Int) by unfold zmin; split <;> split <;> omega]
  refine h _ ⟨?_, ?_, ?_, ?_, ?_, ?_, ?_⟩
  · intro k q1 q2; rw [zo (by omega), zo (by omega)]; exact b1 k q1 q2
  · intro k q1; rw [zo (by omega), zo (by omega)]; exact b2 k q1
  · intro t k q1 q2 q3; rw [zo (by omega), zo (by omega)]; exact b3 t k q1 q2 q3
  · intro k q1; rw [zo (by omega), zo (by omega)]; exact b4 k q1
  · rw [zo (by omega), zset_self]
  · rw [zset_self]
  · intro t i k q1 q2; rw [zo (by omega), zo (by omega)]; exact b5 t i k q1
def zshf (μ : zM) (n : Nat) : zM := fun t i x => if t = 35 ∧ i = 0 ∧ x < n then μ 35 0 (x + 44) else μ t i x
theorem zshf_0 (μ : zM) : zshf μ 0 = μ := by
  funext a b c; unfold zshf; rw [if_neg]; omega
theorem zshf_s (μ : zM) (n : Nat) : zset (zshf μ n) 35 0 n ((zshf μ n) 35 0 (n + 44)) = zshf μ (n + 1) := by
  funext a b c
  unfold zset zshf
  by_cases h : a = 35 ∧ b = 0 ∧ c = n
  · rw [if_pos h, if_neg (by omega), if_pos ⟨h.1, h.2.1, by omega⟩, h.2.2]
  · rw [if_neg h]
    by_cases h2 : a = 35 ∧ b = 0 ∧ c < n
    · rw [if_pos h2, if_pos ⟨h2.1, h2.2.1, by omega⟩]
    · rw [if_neg h2, if_neg]
      rintro ⟨q1, q2, q3⟩
      by_cases h3 : c = n
      · exact h ⟨q1, q2, h3⟩
      · exact h2 ⟨q1, q2, by omega⟩
def zRem (μ : zM) (N : Nat) (μ' : zM) : Prop := μ' 9 0 5 = ((if N = 30 then 30 else N + 1 : Nat) : Int) ∧ (∀ k, k < 44 * (if N = 30 then 29 else N) → μ' 35 0 k = μ 35 0 (k + (if N = 30 then 44 else 0))) ∧ (∀ k, k < 44 → μ' 35 0 (44 * (if N = 30 then 29 else N) + k) = μ 34 0 k) ∧ ∀ t i k, ¬ (t = 35) → ¬ (t = 9 ∧ k = 5) → μ' t i k = μ t i k
theorem s_remember (d : Nat) (μ : zM) {N : Nat} (hN : N ≤ 30) (e1 : μ 9 0 5 = (N : Int)) (K : zM → Prop) (h : ∀ μ', zRem μ N μ' → K μ') : zC0 (d + 1) m_X12_remember [zR 9 0] μ K := by
  refine k_X12_remember d μ K ?_
  rw [e1]
  by_cases hN30 : N = 30
  · subst hN30
    refine ⟨fun q => absurd rfl q, fun _ => ?_⟩
    have L : ∀ m i : Nat, i + m = 1276 → zJ (d + 1) m_X12_remember 11 [some (zR 9 0), some (zI (i : Int))] (zshf μ i) (zQ0 K) := by
      intro m
      induction m with
      | zero =>
        intro i hi
        have hi2 : i = 1276 := by omega
        subst hi2
        refine k_X12_remember_11 d _ _ K ⟨fun _ => ?_, fun q => absurd q (by omega)⟩
        have f1 : (zshf μ 1276) 9 0 5 = 30 := by
          have : (zshf μ 1276) 9 0 5 = μ 9 0 5 := rfl
          rw [this]; exact e1
        rw [f1, zset_self, show w32 (44 * w32 (30 - 1)) = ((1276 : Nat) : Int) from rfl]
        refine s_copies_34_35 d 0 0 1276 44 (by omega) (by omega) _ _ (h _ ⟨?_, ?_, ?_, ?_⟩)
        · rw [zset_self, zcyo (by omega), zset_self]; rfl
        · intro k hk
          rw [if_pos rfl] at hk ⊢
          rw [zo (by omega), zcyo (by omega), zo (by omega)]
          unfold zshf
          rw [if_pos ⟨rfl, rfl, by omega⟩]
        · intro k hk
          rw [if_pos rfl, zo (by omega), zcyi (by omega) (by omega) rfl rfl, zo (by omega), show 0 + (44 * 29 + k - 1276) = k by omega]
          rfl
        · intro t i k q1 q2
          rw [zo (by omega), zcyo (by omega), zo (by omega)]
          unfold zshf
          rw [if_neg (fun z => q1 z.1)]
      | succ m ih =>
        intro i hi
        refine k_X12_remember_11 d i _ K ⟨fun q => absurd q (by omega), fun _ => ?_⟩
        rw [show w32 ((i : Int) + 44) = ((i + 44 : Nat) : Int) from z_fix (by omega) (by omega), z_fix (show (-2147483648 : Int) ≤ (i : Int) + 1 by omega) (by omega), Int.toNat_natCast, Int.toNat_natCast, zshf_s]
        exact ⟨⟨by omega, by omega⟩, ⟨by omega, by omega⟩, ih (i + 1) (by omega)⟩
    have h0 := L 1276 0 (by omega)
    rw [zshf_0] at h0
    exact h0
  · refine ⟨fun _ => ?_, fun q => absurd (show (N : Int) ≠ 30 by omega) q⟩
    rw [show w32 (44 * (N : Int)) = ((44 * N : Nat) : Int) by rw [z_fix (by omega) (by omega)]; omega]
    refine s_copies_34_35 d 0 0 (44 * N) 44 (by omega) (by omega) _ _ ?_
    rw [show (zcpy μ 34 0 0 35 0 (44 * N) 44) 9 0 5 = (N : Int) by rw [zcyo (by omega)]; exact e1, z_fix (by omega) (by omega)]
    refine h _ ⟨?_, ?_, ?_, ?_⟩
    · rw [zset_self, if_neg hN30]; rfl
    · intro k hk
      rw [if_neg hN30] at hk ⊢
      rw [zo (by omega), zcyo (by omega)]
      rfl
    · intro k hk
      rw [if_neg hN30, zo (by omega), zcyi (by omega) (by omega) rfl rfl, show 0 + (44 * N + k - 44 * N) = k by omega]
    · intro t i k q1 q2
      rw [zo (by omega), zcyo (by omega)]
