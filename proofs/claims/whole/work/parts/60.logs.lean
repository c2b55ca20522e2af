/-! AN HOUR: one more meeting, both sides -/
def zlgS (S : zST) (M : Nat) (e : Int) : zST := zuS (zuS S 1 0 (if 999999 < S 1 0 + 1 then 999999 else S 1 0 + 1)) 7 M e
theorem s_addMeeting (d j w p q : Nat) (hw : w < 6) (hp : p < 5) (hq : q < 5) (μ : zM) {nP : Nat} {S : zST} {M : Nat} (h : zLC μ nP j S M) (hm : 0 ≤ S 1 0 ∧ S 1 0 ≤ 999999) (hM : M ≤ 20000000) (K : zM → Prop) (hK : ∀ μ', zLC μ' nP j (zlgS S M ((100 * w + 10 * p + q : Nat) : Int)) (M + 1) → (∀ t i k, ¬ (zlv t ∧ i = j) → μ' t i k = μ t i k) → K μ') : zC0 (d + 1) m_X3_addMeeting [zR 4 j, zI (w : Int), zI (p : Int), zI (q : Int)] μ K := by
  obtain ⟨c1, c2, c3, c4, c5, c6⟩ := h
  refine k_X3_addMeeting d j w p q μ K ?_
  rw [show (zset μ 4 j 2 (zmin 999999 (w32 (μ 4 j 2 + 1)))) 4 j 3 = (M : Int) by rw [zo (by omega)]; exact c3, show zmin 999999 (w32 (μ 4 j 2 + 1)) = (if 999999 < S 1 0 + 1 then 999999 else S 1 0 + 1) by
    rw [c2, z_fix (by omega) (by omega)]
    unfold zmin
    split <;> split <;> omega]
  have hr := Nat.mod_lt M (show 0 < 20 by omega)
  refine s_leftOver d M 20 (by omega) _ _ ?_
  rw [show w32 (w32 (w32 ((w : Int) * 100) + w32 ((p : Int) * 10)) + (q : Int)) = ((100 * w + 10 * p + q : Nat) : Int) by
    rw [z_fix (show (-2147483648 : Int) ≤ (w : Int) * 100 by omega) (by omega), z_fix (show (-2147483648 : Int) ≤ (p : Int) * 10 by omega) (by omega), z_fix (show (-2147483648 : Int) ≤ (w : Int) * 100 + (p : Int) * 10 by omega) (by omega), z_fix (by omega) (by omega)]
    omega]
  refine s_put_19 d j (M % 20) hr _ _ _ ?_
  generalize ((100 * w + 10 * p + q : Nat) : Int) = e at hK ⊢
  rw [show (zset (zset μ 4 j 2 (if 999999 < S 1 0 + 1 then 999999 else S 1 0 + 1)) 19 j (M % 20) e) 4 j 3 = (M : Int) by rw [zo (by omega), zo (by omega)]; exact c3, z_fix (by omega) (by omega)]
  refine hK _ ⟨?_, ?_, ?_, fun r hr => ?_, fun x hx => ?_, fun k h1 h2 => ?_⟩ (fun t i k z => ?_)
  · rw [zo (by omega), zo (by omega), zo (by omega)]
    unfold zlgS
    rw [zuS_o (by omega), zuS_o (by omega)]; exact c1
  · rw [zo (by omega), zo (by omega), zset_self]
    unfold zlgS
    rw [zuS_o (by omega), zuS_i]
  · rw [zset_self]; rfl
  · rw [zo (by omega), zo (by omega), zo (by omega)]
    unfold zlgS
    rw [zuS_o (by omega), zuS_o (by omega)]; exact c4 r hr
  · rw [zo (by omega), zo (by omega), zo (by omega), zo (by omega), zo (by omega), zo (by omega), zo (by omega), zo (by omega), zo (by omega)]
    unfold zlgS
    rw [zuS_o (by omega), zuS_o (by omega), zuS_o (by omega), zuS_o (by omega), zuS_o (by omega), zuS_o (by omega)]; exact c5 x hx
  · rw [zo (by omega)]
    unfold zlgS
    by_cases q : k = M
    · subst q; rw [zset_self, zuS_i]
    · rw [zo (by omega), zo (by omega), zuS_o (by omega), zuS_o (by omega)]; exact c6 k (by omega) (by omega)
  · unfold zlv at z
    rw [zo (by omega), zo (by omega), zo (by omega)]
def zsh2 (μ : zM) (i n : Nat) : zM := fun t j x => if t = 34 ∧ j = i ∧ 24 ≤ x ∧ x < 24 + n then μ 34 i (x + 1) else μ t j x
theorem zsh2_0 (μ : zM) (i : Nat) : zsh2 μ i 0 = μ := by
  funext a b c; unfold zsh2; rw [if_neg]; omega
theorem zsh2_o {μ : zM} {i n t j x : Nat} (h : t ≠ 34 ∨ j ≠ i ∨ x < 24 ∨ 24 + n ≤ x) : zsh2 μ i n t j x = μ t j x := by
  unfold zsh2; rw [if_neg]; rintro ⟨h1, h2, h3, h4⟩; omega
theorem zsh2_i {μ : zM} {i n x : Nat} (h1 : 24 ≤ x) (h2 : x < 24 + n) : zsh2 μ i n 34 i x = μ 34 i (x + 1) := by
  unfold zsh2; rw [if_pos ⟨rfl, rfl, h1, h2⟩]
theorem zsh2_s (μ : zM) (i n : Nat) : zset (zsh2 μ i n) 34 i (24 + n) ((zsh2 μ i n) 34 i (24 + n + 1)) = zsh2 μ i (n + 1) := by
  funext a b c
  by_cases h : a = 34 ∧ b = i ∧ c = 24 + n
  · obtain ⟨rfl, rfl, rfl⟩ := h
    rw [zset_self, zsh2_o (by omega), zsh2_i (by omega) (by omega)]
  · rw [zo (by omega)]
    by_cases h2 : a = 34 ∧ b = i ∧ 24 ≤ c ∧ c < 24 + n
    · obtain ⟨rfl, rfl, h3, h4⟩ := h2
      rw [zsh2_i h3 h4, zsh2_i h3 (by omega)]
    · rw [zsh2_o (by omega), zsh2_o (by omega)]
theorem s_logs (d i : Nat) (e : Int) (μ : zM) {nP : Nat} (hp5 : nP ≤ 5) {S : zST} {M : Nat} (h : zLN μ nP 34 i 0 S M) (hm : 0 ≤ S 1 0 ∧ S 1 0 ≤ 999999) (K : zM → Prop) (hK : ∀ μ', zLN μ' nP 34 i 0 (zlgS S M e) (M + 1) → (∀ t i' k, ¬ (t = 34 ∧ i' = i) → μ' t i' k = μ t i' k) → K μ') : zC0 (d + 1) m_X12_logs [zR 34 i, zI e] μ K := by
  obtain ⟨c1, c2, c3, c4, c5, c6⟩ := h
  rw [Nat.zero_add] at c1 c2 c3
  obtain ⟨v1, v2, v3, v4⟩ := zmi_v M
  obtain ⟨v5, v6, v7, v8⟩ := zmi_v (M + 1)
  refine k_X12_logs_t34 d i e μ K ⟨by omega, ?_⟩
  rw [c2, z_fix (by omega) (by omega)]
  refine s_lesser _ _ _ μ _ ⟨by omega, by omega, ?_⟩
  generalize hm2 : (if 999999 < S 1 0 + 1 then 999999 else S 1 0 + 1) = m2
  rw [show (zset μ 34 i 21 m2) 34 i 23 = ((zmi M 20 : Nat) : Int) by rw [zo (by omega)]; exact c3]
  -- what must hold of the end
  have fin : ∀ μ' : zM, μ' 34 i 21 = m2 → μ' 34 i 23 = ((zmi (M + 1) 20 : Nat) : Int) → (∀ k, k < 21 ∨ k = 22 → μ' 34 i k = μ 34 i k) → (∀ k, k < M + 1 → M + 1 ≤ k + 20 → μ' 34 i (24 + (k - (M + 1 - zmi (M + 1) 20))) = if k = M then e else S 7 k) → (∀ t i' k, ¬ (t = 34 ∧ i' = i) → μ' t i' k = μ t i' k) → K μ' := by
    intro μ' a1 a2 a3 a4 a5
    refine hK μ' ⟨?_, ?_, ?_, fun r hr => ?_, fun x hx => ?_, fun k h1 h2 => ?_⟩ a5
    · rw [Nat.zero_add, a3 _ (by omega)]
      unfold zlgS
      rw [zuS_o (by omega), zuS_o (by omega)]; exact c1
    · rw [Nat.zero_add, a1]
      unfold zlgS
      rw [zuS_o (by omega), zuS_i, hm2]
    · rw [Nat.zero_add]; exact a2
    · rw [a3 _ (by omega)]
      unfold zlgS
      rw [zuS_o (by omega), zuS_o (by omega)]; exact c4 r hr
    · rw [a3 _ (by omega), a3 _ (by omega), a3 _ (by omega)]
      unfold zlgS
      rw [zuS_o (by omega), zuS_o (by omega), zuS_o (by omega), zuS_o (by omega), zuS_o (by omega), zuS_o (by omega)]; exact c5 x hx
    · rw [Nat.zero_add, a4 k h1 h2]
      unfold zlgS
      by_cases q : k = M
      · subst q; rw [if_pos rfl, zuS_i]
      · rw [if_neg q, zuS_o (by omega), zuS_o (by omega)]
  by_cases hM : M < 20
  · have e1 : zmi M 20 = M := v3 (by omega)
    have e2 : zmi (M + 1) 20 = M + 1 := v7 (by omega)
    rw [e1, show w32 (24 + (M : Int)) = ((24 + M : Nat) : Int) by rw [z_fix (by omega) (by omega)]; omega, Int.toNat_natCast, show (zset (zset μ 34 i 21 m2) 34 i (24 + M) e) 34 i 23 = (M : Int) by rw [zo (by omega), zo (by omega), c3, e1], z_fix (by omega) (by omega)]
    refine ⟨fun _ => ⟨by omega, ⟨by omega, by omega⟩, by omega, by omega, fin _ ?_ ?_ ?_ ?_ ?_⟩, fun q => absurd (show (M : Int) ≠ 20 by omega) q⟩
    · rw [zo (by omega), zo (by omega), zset_self]
    · rw [zset_self, e2]; rfl
    · intro k hk; rw [zo (by omega), zo (by omega), zo (by omega)]
    · intro k h1 h2
      rw [e2, show M + 1 - (M + 1) = 0 by omega, Nat.sub_zero, zo (by omega)]
      by_cases q : k = M
      · subst q; rw [zset_self, if_pos rfl]
      · rw [zo (by omega), zo (by omega), if_neg q]
        have := c6 k (by omega) (by omega)
        rw [e1, show 0 + 24 + (k - (M - M)) = 24 + k by omega] at this
        exact this
    · intro t i' k hz; rw [zo (by omega), zo (by omega), zo (by omega)]
  · have e1 : zmi M 20 = 20 := v4 (by omega)
    have e2 : zmi (M + 1) 20 = 20 := v8 (by omega)
    rw [e1]
    refine ⟨fun q => absurd rfl q, fun _ => ?_⟩
    have L : ∀ m k : Nat, k + m = 19 → zJ (d + 1) m_X12_logs 26 [some (zR 34 i), some (zI e), some (zI (k : Int))] (zsh2 (zset μ 34 i 21 m2) i k) (zQ0 K) := by
      intro m
      induction m with
      | zero =>
        intro k hk
        have hk2 : k = 19 := by omega
        subst hk2
        refine k_X12_logs_t34_26 d i e _ _ K ⟨fun _ => ?_, fun q => absurd q (by omega)⟩
        rw [show (zsh2 (zset μ 34 i 21 m2) i 19) 34 i 23 = 20 by rw [zsh2_o (by omega), zo (by omega), c3, e1]; rfl, show w32 ((20 : Int) - 1) = 19 from rfl, zset_self, show (w32 (24 + (19 : Int))).toNat = 43 from rfl, show (zset (zset (zsh2 (zset μ 34 i 21 m2) i 19) 34 i 23 19) 34 i 43 e) 34 i 23 = 19 by rw [zo (by omega), zset_self], show w32 ((19 : Int) + 1) = 20 from rfl]
        refine ⟨by omega, by omega, by omega, by decide, by omega, by omega, fin _ ?_ ?_ ?_ ?_ ?_⟩
        · rw [zo (by omega), zo (by omega), zo (by omega), zsh2_o (by omega), zset_self]
        · rw [zset_self, e2]; rfl
        · intro k hk; rw [zo (by omega), zo (by omega), zo (by omega), zsh2_o (by omega), zo (by omega)]
        · intro k h1 h2
          rw [e2, zo (by omega)]
          by_cases q : k = M
          · subst q; rw [show 24 + (k - (k + 1 - 20)) = 43 by omega, zset_self, if_pos rfl]
          · rw [zo (by omega), zo (by omega), zsh2_i (by omega) (by omega), zo (by omega), if_neg q]
            have := c6 k (by omega) (by omega)
            rw [e1, show 0 + 24 + (k - (M - 20)) = 24 + (k - (M + 1 - 20)) + 1 by omega] at this
            exact this
        · intro t i' k hz; rw [zo (by omega), zo (by omega), zo (by omega), zsh2_o (by omega), zo (by omega)]
      | succ m ih =>
        intro k hk
        refine k_X12_logs_t34_26 d i e _ _ K ⟨fun q => absurd q (by omega), fun _ => ?_⟩
        rw [show w32 (24 + (k : Int)) = ((24 + k : Nat) : Int) by rw [z_fix (by omega) (by omega)]; omega, show w32 (((24 + k : Nat) : Int) + 1) = ((24 + k + 1 : Nat) : Int) by rw [z_fix (by omega) (by omega)]; omega, Int.toNat_natCast, Int.toNat_natCast, zsh2_s, z_fix (show (-2147483648 : Int) ≤ (k : Int) + 1 by omega) (by omega)]
        exact ⟨⟨by omega, by omega⟩, ⟨by omega, by omega⟩, ih (k + 1) (by omega)⟩
    have h0 := L 19 0 (by omega)
    rw [zsh2_0] at h0
    exact h0
