/-! AN HOUR of the model -/
theorem zLN_h {μ : zM} {nP i : Nat} {S : zST} {M : Nat} (hp5 : nP ≤ 5) (h : zLN μ nP 34 i 0 S M) (v : Int) : zLN (zset μ 34 i 22 v) nP 34 i 0 (zuS S 0 0 v) M := by
  obtain ⟨c1, c2, c3, c4, c5, c6⟩ := h
  refine ⟨by rw [Nat.zero_add, zset_self, zuS_i], by rw [zo (by omega), zuS_o (by omega)]; exact c2, by rw [zo (by omega)]; exact c3, fun r hr => by rw [zo (by omega), zuS_o (by omega)]; exact c4 r hr, fun p hp => by rw [zo (by omega), zo (by omega), zo (by omega), zuS_o (by omega), zuS_o (by omega), zuS_o (by omega)]; exact c5 p hp, fun k q1 q2 => by rw [zo (by omega), zuS_o (by omega)]; exact c6 k q1 q2⟩
theorem s_allWalk (d i nP nW : Nat) (hm1 : Int) (hp5 : nP ≤ 5) (μ : zM) {n : Nat} {B : Nat → Nat} (hHs : zHs μ n B nP nW) {S : zST} {M : Nat} (o : zOK n B nP S M) (h : zLN μ nP 34 i 0 S M) (K : Int → zM → Prop) (hK : ∀ μ', zLN μ' nP 34 i 0 (zwkS (μ 11 0) (μ 12 0) B S nP) M → (∀ t i' k, ¬ (t = 34 ∧ i' = i) → μ' t i' k = μ t i' k) → zJ (d + 3) m_X12_hourGoes 2 [some (zR 9 0), some (zR 34 i), some (zI hm1), some (zI (nP : Int)), none, none] μ' (zQ1 K)) : zC1 (d + 3) m_X12_hourGoes [zR 9 0, zR 34 i, zI hm1] μ K := by
  have hH := hHs.2.1
  have e1 := hHs.2.2.2.2.2.2.2.1.2.1
  refine k_X12_hourGoes_t34 (d + 2) i hm1 μ K ?_
  have L : ∀ m p : Nat, p + m = nP → ∀ μ', zLN μ' nP 34 i 0 (zwkS (μ 11 0) (μ 12 0) B S p) M → (∀ t i' k, ¬ (t = 34 ∧ i' = i) → μ' t i' k = μ t i' k) → zJ (d + 3) m_X12_hourGoes 2 [some (zR 9 0), some (zR 34 i), some (zI hm1), some (zI (p : Int)), none, none] μ' (zQ1 K) := by
    intro m
    induction m with
    | zero =>
      intro p hp μ' hl hf
      rw [show p = nP by omega] at hl ⊢
      exact hK μ' hl hf
    | succ m ih =>
      intro p hp μ' hl hf
      have f1 : μ' 33 0 2 = (nP : Int) := by rw [hf _ _ _ (by omega)]; exact e1
      obtain ⟨r, b, g, h1, h2, h3, h4, h5, h6⟩ := o.2.2.2.2.2 p (by omega)
      have ok := zwkS_ok (μ 11 0) (μ 12 0) o p (by omega)
      obtain ⟨l1, l2, l3⟩ := hl.2.2.2.2.1 p (by omega)
      rw [zwkS_o _ _ _ _ _ _ _ (by omega), Nat.zero_add] at l1 l2 l3
      have hHs' : zHs μ' n B nP nW := zHs_cg (fun t k z => hf _ _ _ (by omega)) (fun k => hf _ _ _ (by omega)) hHs
      refine k_X12_hourGoes_t34_2 (d + 2) i hm1 p μ' K ⟨by omega, fun q => absurd q (by omega), fun _ => s_walks d i p r b g (by omega) μ' hHs'.2.1 (zLN_lm ok hl) (by rw [l1, h1]) (by rw [l2, h2]) (by rw [l3, h3]) h4 h5 h6 _ ?_⟩
      rw [z_fix (by omega) (by omega)]
      have er : rM μ' i = zrS (μ 11 0) (μ 12 0) S := by
        rw [rM_S hHs' hl, show μ' 11 0 = μ 11 0 from funext fun k => hf _ _ _ (by omega), show μ' 12 0 = μ 12 0 from funext fun k => hf _ _ _ (by omega)]
        exact zrS_cg fun x _ => zwkS_o _ _ _ _ _ _ _ (by omega)
      rw [er]
      refine ih (p + 1) (by omega) _ ?_ (fun t i' k z => ?_)
      · rw [zwkS_s, h1, h2, h3, Int.toNat_natCast, Int.toNat_natCast, Int.toNat_natCast]
        have := zLN_u hp5 hl 5 p ((zgo1 (zrS (μ 11 0) (μ 12 0) S r) (B r) g b : Nat) : Int) (by omega) (by omega) (by rw [if_neg (by omega)]; omega)
        rw [show zcell 5 + p = 11 + p from rfl] at this
        exact this
      · rw [zo (by omega)]; exact hf _ _ _ z
  exact L nP 0 (by omega) μ h (fun _ _ _ _ => rfl)
