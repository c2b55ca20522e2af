/-! LIVES, told without memory: S 0 0 hours, S 1 0 met, S 3 lifted, S 4, 5, 6 rooms, places, paces, S 7 all meetings; M how many of them -/
abbrev zST : Type := Nat → Nat → Int
def zLC (μ : zM) (nP j : Nat) (S : zST) (M : Nat) : Prop := μ 4 j 1 = S 0 0 ∧ μ 4 j 2 = S 1 0 ∧ μ 4 j 3 = (M : Int) ∧ (∀ r, r < 6 → μ 15 j r = S 3 r) ∧ (∀ p, p < nP → μ 16 j p = S 4 p ∧ μ 17 j p = S 5 p ∧ μ 18 j p = S 6 p) ∧ (∀ k, k < M → M ≤ k + 20 → μ 19 j (k % 20) = S 7 k)
def zLN (μ : zM) (nP T i o : Nat) (S : zST) (M : Nat) : Prop := μ T i (o + 22) = S 0 0 ∧ μ T i (o + 21) = S 1 0 ∧ μ T i (o + 23) = ((zmi M 20 : Nat) : Int) ∧ (∀ r, r < 6 → μ T i (o + r) = S 3 r) ∧ (∀ p, p < nP → μ T i (o + 6 + p) = S 4 p ∧ μ T i (o + 11 + p) = S 5 p ∧ μ T i (o + 16 + p) = S 6 p) ∧ (∀ k, k < M → M ≤ k + 20 → μ T i (o + 24 + (k - (M - zmi M 20))) = S 7 k)
def zOK (n : Nat) (B : Nat → Nat) (nP : Nat) (S : zST) (M : Nat) : Prop := (0 ≤ S 0 0 ∧ S 0 0 ≤ 100000) ∧ (0 ≤ S 1 0 ∧ S 1 0 ≤ 999999) ∧ (M : Int) ≤ 150 * S 0 0 ∧ (∀ k, k < M → M ≤ k + 20 → 0 ≤ S 7 k ∧ S 7 k < 700) ∧ (∀ r, r < 6 → zset12 (S 3 r) ∧ (n ≤ r → S 3 r = 0)) ∧ (∀ p, p < nP → ∃ r b g : Nat, S 4 p = (r : Int) ∧ S 5 p = (b : Int) ∧ S 6 p = (g : Int) ∧ r < n ∧ b < B r ∧ g < 10)
theorem zmi_v (M : Nat) : zmi M 20 ≤ 20 ∧ zmi M 20 ≤ M ∧ (M ≤ 20 → zmi M 20 = M) ∧ (20 ≤ M → zmi M 20 = 20) := by unfold zmi; split <;> omega
theorem zLR_of {μ : zM} {n : Nat} {B : Nat → Nat} {nP j T i o : Nat} {S : zST} {M : Nat} (h : zOK n B nP S M) (c : zLC μ nP j S M) (m : zLN μ nP T i o S M) (h90 : S 0 0 ≤ 90030) : zLR μ n B nP j T i o := by
  obtain ⟨h1, h2, h3, h4, h5, h6⟩ := h
  obtain ⟨c1, c2, c3, c4, c5, c6⟩ := c
  obtain ⟨m1, m2, m3, m4, m5, m6⟩ := m
  obtain ⟨v1, v2, v3, v4⟩ := zmi_v M
  refine ⟨by rw [m1, c1]; exact ⟨rfl, h1.1, h90⟩, by rw [m2, c2]; exact ⟨rfl, h2⟩, ⟨M, c3, by rw [c1]; exact h3, m3, fun k hk => ?_⟩, fun r hr => ?_, fun p hp => ?_⟩
  · have e1 := c6 (M - zmi M 20 + k) (by omega) (by omega)
    have e2 := m6 (M - zmi M 20 + k) (by omega) (by omega)
    rw [show M - zmi M 20 + k - (M - zmi M 20) = k by omega] at e2
    rw [e1, e2]
    exact ⟨rfl, h4 _ (by omega) (by omega)⟩
  · rw [m4 r hr, c4 r hr]; exact ⟨rfl, h5 r hr⟩
  · rw [(m5 p hp).1, (m5 p hp).2.1, (m5 p hp).2.2, (c5 p hp).1, (c5 p hp).2.1, (c5 p hp).2.2]
    exact ⟨⟨rfl, rfl, rfl⟩, h6 p hp⟩
theorem zLR_to {μ : zM} {n : Nat} {B : Nat → Nat} {nP j T i o : Nat} (q : zLR μ n B nP j T i o) : ∃ S M, zOK n B nP S M ∧ zLC μ nP j S M ∧ zLN μ nP T i o S M ∧ S 0 0 ≤ 90030 := by
  obtain ⟨h1, h2, ⟨M, m1, m2, m3, m4⟩, h4, h5⟩ := q
  obtain ⟨v1, v2, v3, v4⟩ := zmi_v M
  refine ⟨fun a k => match a with
    | 0 => μ 4 j 1
    | 1 => μ 4 j 2
    | 3 => μ 15 j k
    | 4 => μ 16 j k
    | 5 => μ 17 j k
    | 6 => μ 18 j k
    | _ => μ 19 j (k % 20), M, ⟨⟨h1.2.1, Int.le_trans h1.2.2 (by decide)⟩, h2.2, m2, fun k h6 h7 => ?_, fun r hr => (h4 r hr).2, fun p hp => (h5 p hp).2⟩, ⟨rfl, rfl, m1, fun _ _ => rfl, fun _ _ => ⟨rfl, rfl, rfl⟩, fun _ _ _ => rfl⟩, ⟨h1.1, h2.1, m3, fun r hr => (h4 r hr).1, fun p hp => (h5 p hp).1, fun k h6 h7 => ?_⟩, h1.2.2⟩
  · have e := (m4 (k - (M - zmi M 20)) (by omega)).2
    rw [show M - zmi M 20 + (k - (M - zmi M 20)) = k by omega] at e
    exact e
  · have e := (m4 (k - (M - zmi M 20)) (by omega)).1
    rw [show M - zmi M 20 + (k - (M - zmi M 20)) = k by omega] at e
    exact e
theorem zLC_cg {μ μ' : zM} {nP j j' : Nat} {S : zST} {M : Nat} (hp5 : nP ≤ 5) (h4 : ∀ k, 1 ≤ k → k ≤ 3 → μ' 4 j' k = μ 4 j k) (h15 : ∀ k, k < 6 → μ' 15 j' k = μ 15 j k) (h16 : ∀ t k, 16 ≤ t → t ≤ 18 → k < 5 → μ' t j' k = μ t j k) (h19 : ∀ k, k < 20 → μ' 19 j' k = μ 19 j k) (q : zLC μ nP j S M) : zLC μ' nP j' S M := by
  obtain ⟨c1, c2, c3, c4, c5, c6⟩ := q
  refine ⟨by rw [h4 _ (by omega) (by omega)]; exact c1, by rw [h4 _ (by omega) (by omega)]; exact c2, by rw [h4 _ (by omega) (by omega)]; exact c3, fun r hr => by rw [h15 _ hr]; exact c4 r hr, fun p hp => by rw [h16 _ _ (by omega) (by omega) (by omega), h16 _ _ (by omega) (by omega) (by omega), h16 _ _ (by omega) (by omega) (by omega)]; exact c5 p hp, fun k a b => by rw [h19 _ (Nat.mod_lt _ (by omega))]; exact c6 k a b⟩
theorem zLN_cg {μ μ' : zM} {nP T i o T' i' o' : Nat} {S : zST} {M : Nat} (hp5 : nP ≤ 5) (h : ∀ k, k < 44 → μ' T' i' (o' + k) = μ T i (o + k)) (q : zLN μ nP T i o S M) : zLN μ' nP T' i' o' S M := by
  obtain ⟨c1, c2, c3, c4, c5, c6⟩ := q
  obtain ⟨v1, v2, v3, v4⟩ := zmi_v M
  refine ⟨by rw [h 22 (by omega)]; exact c1, by rw [h 21 (by omega)]; exact c2, by rw [h 23 (by omega)]; exact c3, fun r hr => by rw [h r (by omega)]; exact c4 r hr, fun p hp => ?_, fun k a b => ?_⟩
  · rw [Nat.add_assoc o', Nat.add_assoc o', Nat.add_assoc o', h _ (by omega), h _ (by omega), h _ (by omega), ← Nat.add_assoc, ← Nat.add_assoc, ← Nat.add_assoc]
    exact c5 p hp
  · rw [Nat.add_assoc o', h _ (by omega), ← Nat.add_assoc]
    exact c6 k a b
/-- a life becomes another: what is as before -/
def zlv (t : Nat) : Prop := t = 4 ∨ (15 ≤ t ∧ t ≤ 19)
def zbec (μ : zM) (j0 j1 : Nat) (μ' : zM) : Prop := (∀ k, 1 ≤ k → k ≤ 3 → μ' 4 j0 k = μ 4 j1 k) ∧ (∀ k, k < 6 → μ' 15 j0 k = μ 15 j1 k) ∧ (∀ t k, 16 ≤ t → t ≤ 18 → k < 5 → μ' t j0 k = μ t j1 k) ∧ (∀ k, k < 20 → μ' 19 j0 k = μ 19 j1 k) ∧ ∀ t i k, ¬ (zlv t ∧ i = j0) → μ' t i k = μ t i k
theorem zbec_lc {μ μ' : zM} {nP j0 j1 : Nat} {S : zST} {M : Nat} (hp5 : nP ≤ 5) (h : zbec μ j0 j1 μ') (q : zLC μ nP j1 S M) : zLC μ' nP j0 S M := zLC_cg hp5 h.1 h.2.1 h.2.2.1 h.2.2.2.1 q
theorem zcyi {μ : zM} {t i sp u j dp n a b c : Nat} (h : dp ≤ c) (h2 : c < dp + n) (e1 : a = u) (e2 : b = j) : zcpy μ t i sp u j dp n a b c = μ t i (sp + (c - dp)) := by
  unfold zcpy; rw [if_pos ⟨e1, e2, h, h2⟩]
theorem zcyo {μ : zM} {t i sp u j dp n a b c : Nat} (h : a ≠ u ∨ b ≠ j ∨ c < dp ∨ dp + n ≤ c) : zcpy μ t i sp u j dp n a b c = μ a b c := by
  unfold zcpy; rw [if_neg]; rintro ⟨h1, h2, h3, h4⟩; omega
theorem s_become (d j0 j1 : Nat) (hne : j0 ≠ j1) (μ : zM) (K : zM → Prop) (h : ∀ μ', zbec μ j0 j1 μ' → K μ') : zC0 (d + 2) m_X3_become [zR 4 j0, zR 4 j1] μ K := by
  refine k_X3_become (d + 1) j0 j1 μ K (s_copy_15 d j1 j0 _ _ (s_copy_16 d j1 j0 _ _ (s_copy_17 d j1 j0 _ _ (s_copy_18 d j1 j0 _ _ (s_copy_19 d j1 j0 _ _ (h _ ⟨?_, ?_, ?_, ?_, ?_⟩))))))
  · intro k h1 h2
    rw [zcyo (by omega), zcyo (by omega), zcyo (by omega), zcyo (by omega), zcyo (by omega)]
    rcases (show k = 1 ∨ k = 2 ∨ k = 3 by omega) with rfl | rfl | rfl
    · rw [zo (by omega), zo (by omega), zset_self]
    · rw [zo (by omega), zset_self, zo (by omega)]
    · rw [zset_self, zo (by omega), zo (by omega)]
  · intro k hk
    rw [zcyo (by omega), zcyo (by omega), zcyo (by omega), zcyo (by omega), zcyi (by omega) (by omega) rfl rfl, zo (by omega), zo (by omega), zo (by omega), Nat.sub_zero, Nat.zero_add]
  · intro t k h1 h2 hk
    rcases (show t = 16 ∨ t = 17 ∨ t = 18 by omega) with rfl | rfl | rfl
    · rw [zcyo (by omega), zcyo (by omega), zcyo (by omega), zcyi (by omega) (by omega) rfl rfl, zcyo (by omega), zo (by omega), zo (by omega), zo (by omega), Nat.sub_zero, Nat.zero_add]
    · rw [zcyo (by omega), zcyo (by omega), zcyi (by omega) (by omega) rfl rfl, zcyo (by omega), zcyo (by omega), zo (by omega), zo (by omega), zo (by omega), Nat.sub_zero, Nat.zero_add]
    · rw [zcyo (by omega), zcyi (by omega) (by omega) rfl rfl, zcyo (by omega), zcyo (by omega), zcyo (by omega), zo (by omega), zo (by omega), zo (by omega), Nat.sub_zero, Nat.zero_add]
  · intro k hk
    rw [zcyi (by omega) (by omega) rfl rfl, zcyo (by omega), zcyo (by omega), zcyo (by omega), zcyo (by omega), zo (by omega), zo (by omega), zo (by omega), Nat.sub_zero, Nat.zero_add]
  · intro t i k q
    unfold zlv at q
    rw [zcyo (by omega), zcyo (by omega), zcyo (by omega), zcyo (by omega), zcyo (by omega), zo (by omega), zo (by omega), zo (by omega)]
